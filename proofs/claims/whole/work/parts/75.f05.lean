/-! METHODS AS FUNCTIONS -/
noncomputable def f_HPen_follow (w : Bool) (p1 : Int32) (M : im_M) : Option (Int32 × im_M) := bd1 (f_HOrders_value_1 p1 1 M) fun (x1 : Int32) => bd1 (f_HOrders_value_1 p1 2 (im_setI M 56 5 x1)) fun (x2 : Int32) => bd1 (f_HOrders_value_1 p1 3 (im_setI (im_setI M 56 5 x1) 56 6 x2)) fun (x3 : Int32) => bd1 (f_HOrders_value_1 p1 4 (im_setI (im_setI (im_setI M 56 5 x1) 56 6 x2) 56 7 x3)) fun (x4 : Int32) => gd (((if ¬ x4 = 2 then 0 else 1) : Int32) = 0 ∨ ((if ¬ x4 = 2 then 0 else 1) : Int32) = 1) <| bd1 (f_HOrders_value_1 p1 5 (im_setI (im_setI (im_setI (im_setI (im_setI M 56 5 x1) 56 6 x2) 56 7 x3) 28 2 ((if ¬ x4 = 2 then 0 else 1) : Int32)) 28 3 0)) fun (x6 : Int32) => bd1 (f_HOrders_value_1 p1 6 (im_setI (im_setI (im_setI (im_setI (im_setI M 56 5 x1) 56 6 x2) 56 7 x3) 28 2 ((if ¬ x4 = 2 then 0 else 1) : Int32)) 28 3 0)) fun (x7 : Int32) => bd1 (f_HOrders_value_1 p1 7 (im_setI (im_setI (im_setI (im_setI (im_setI M 56 5 x1) 56 6 x2) 56 7 x3) 28 2 ((if ¬ x4 = 2 then 0 else 1) : Int32)) 28 3 0)) fun (x8 : Int32) => bd1 (f_HOrders_value_1 p1 0 (im_setI (im_setI (im_setI (im_setI (im_setI M 56 5 x1) 56 6 x2) 56 7 x3) 28 2 ((if ¬ x4 = 2 then 0 else 1) : Int32)) 28 3 0)) fun (x9 : Int32) => bd2 (if x9 = 0 then bd1 (f_HPen_drawText w p1 (im_setI (im_setI (im_setI (im_setI (im_setI M 56 5 x1) 56 6 x2) 56 7 x3) 28 2 ((if ¬ x4 = 2 then 0 else 1) : Int32)) 28 3 0)) fun (M11 : im_M) => some (1, M11) else if x9 = 1 then bd1 (f_HOrders_value_1 p1 8 (im_setI (im_setI (im_setI (im_setI (im_setI M 56 5 x1) 56 6 x2) 56 7 x3) 28 2 ((if ¬ x4 = 2 then 0 else 1) : Int32)) 28 3 0)) fun (x12 : Int32) => bd2 (f_HBars_layText (p1 * 200) x12 (im_setI (im_setI (im_setI (im_setI (im_setI M 56 5 x1) 56 6 x2) 56 7 x3) 28 2 ((if ¬ x4 = 2 then 0 else 1) : Int32)) 28 3 0)) fun (x13 : Int32) (M13 : im_M) => bd1 (f_HPen_drawBars w x13 x6 x7 M13) fun (M14 : im_M) => some (x13, M14) else if x9 = 2 then bd1 (f_HBars_layFigures (p1 * 200) (im_setI (im_setI (im_setI (im_setI (im_setI M 56 5 x1) 56 6 x2) 56 7 x3) 28 2 ((if ¬ x4 = 2 then 0 else 1) : Int32)) 28 3 0)) fun (M15 : im_M) => bd1 (f_HPen_drawBars w 1 x6 x7 M15) fun (M16 : im_M) => some (1, M16) else if x9 = 3 then bd1 (f_HOrders_value_1 p1 8 (im_setI (im_setI (im_setI (im_setI (im_setI M 56 5 x1) 56 6 x2) 56 7 x3) 28 2 ((if ¬ x4 = 2 then 0 else 1) : Int32)) 28 3 0)) fun (x17 : Int32) => bd2 (f_HGrid_make (p1 * 200) x17 x7 x8 (im_setI (im_setI (im_setI (im_setI (im_setI M 56 5 x1) 56 6 x2) 56 7 x3) 28 2 ((if ¬ x4 = 2 then 0 else 1) : Int32)) 28 3 0)) fun (x18 : Int32) (M18 : im_M) => bd1 (f_HPen_drawSquare w x18 x6 M18) fun (M19 : im_M) => some (x18, M19) else if x9 = 4 then bd1 (f_HPen_drawFrame w x6 x7 x8 (im_setI (im_setI (im_setI (im_setI (im_setI M 56 5 x1) 56 6 x2) 56 7 x3) 28 2 ((if ¬ x4 = 2 then 0 else 1) : Int32)) 28 3 0)) fun (M20 : im_M) => some (1, M20) else if x9 = 5 then bd1 (f_HPen_drawEllipse w x6 x7 x8 (im_setI (im_setI (im_setI (im_setI (im_setI M 56 5 x1) 56 6 x2) 56 7 x3) 28 2 ((if ¬ x4 = 2 then 0 else 1) : Int32)) 28 3 0)) fun (M21 : im_M) => some (1, M21) else if x9 = 6 then bd1 (f_HPen_drawLine w x6 x7 x8 (im_setI (im_setI (im_setI (im_setI (im_setI M 56 5 x1) 56 6 x2) 56 7 x3) 28 2 ((if ¬ x4 = 2 then 0 else 1) : Int32)) 28 3 0)) fun (M22 : im_M) => some (1, M22) else bd1 (f_HPen_drawPicture w p1 (im_setI (im_setI (im_setI (im_setI (im_setI M 56 5 x1) 56 6 x2) 56 7 x3) 28 2 ((if ¬ x4 = 2 then 0 else 1) : Int32)) 28 3 0)) fun (M23 : im_M) => some (1, M23)) fun (y24 : Int32) (M25 : im_M) => if y24 = 0 then some ((-1), M25) else some ((im_i M25 28 3), M25)
theorem J_HPen_follow_d0 : decode J_HPen_follow.2.1 0 = .ok (.aload_n 0, 1) := by decide +kernel
theorem J_HPen_follow_d1 : decode J_HPen_follow.2.1 1 = .ok (.aload_n 1, 1) := by decide +kernel
theorem J_HPen_follow_d2 : decode J_HPen_follow.2.1 2 = .ok (.iload_n 2, 1) := by decide +kernel
theorem J_HPen_follow_d3 : decode J_HPen_follow.2.1 3 = .ok (.iconst 1, 1) := by decide +kernel
theorem J_HPen_follow_d4 : decode J_HPen_follow.2.1 4 = .ok (.invokevirtual 39, 3) := by decide +kernel
theorem J_HPen_follow_d7 : decode J_HPen_follow.2.1 7 = .ok (.putfield 43, 3) := by decide +kernel
theorem J_HPen_follow_d10 : decode J_HPen_follow.2.1 10 = .ok (.aload_n 0, 1) := by decide +kernel
theorem J_HPen_follow_d11 : decode J_HPen_follow.2.1 11 = .ok (.aload_n 1, 1) := by decide +kernel
theorem J_HPen_follow_d12 : decode J_HPen_follow.2.1 12 = .ok (.iload_n 2, 1) := by decide +kernel
theorem J_HPen_follow_d13 : decode J_HPen_follow.2.1 13 = .ok (.iconst 2, 1) := by decide +kernel
theorem J_HPen_follow_d14 : decode J_HPen_follow.2.1 14 = .ok (.invokevirtual 39, 3) := by decide +kernel
theorem J_HPen_follow_d17 : decode J_HPen_follow.2.1 17 = .ok (.putfield 47, 3) := by decide +kernel
theorem J_HPen_follow_d20 : decode J_HPen_follow.2.1 20 = .ok (.aload_n 0, 1) := by decide +kernel
theorem J_HPen_follow_d21 : decode J_HPen_follow.2.1 21 = .ok (.aload_n 1, 1) := by decide +kernel
theorem J_HPen_follow_d22 : decode J_HPen_follow.2.1 22 = .ok (.iload_n 2, 1) := by decide +kernel
theorem J_HPen_follow_d23 : decode J_HPen_follow.2.1 23 = .ok (.iconst 3, 1) := by decide +kernel
theorem J_HPen_follow_d24 : decode J_HPen_follow.2.1 24 = .ok (.invokevirtual 39, 3) := by decide +kernel
theorem J_HPen_follow_d27 : decode J_HPen_follow.2.1 27 = .ok (.putfield 50, 3) := by decide +kernel
theorem J_HPen_follow_d30 : decode J_HPen_follow.2.1 30 = .ok (.aload_n 0, 1) := by decide +kernel
theorem J_HPen_follow_d31 : decode J_HPen_follow.2.1 31 = .ok (.getfield 19, 3) := by decide +kernel
theorem J_HPen_follow_d34 : decode J_HPen_follow.2.1 34 = .ok (.aload_n 1, 1) := by decide +kernel
theorem J_HPen_follow_d35 : decode J_HPen_follow.2.1 35 = .ok (.iload_n 2, 1) := by decide +kernel
theorem J_HPen_follow_d36 : decode J_HPen_follow.2.1 36 = .ok (.iconst 4, 1) := by decide +kernel
theorem J_HPen_follow_d37 : decode J_HPen_follow.2.1 37 = .ok (.invokevirtual 39, 3) := by decide +kernel
theorem J_HPen_follow_d40 : decode J_HPen_follow.2.1 40 = .ok (.iconst 2, 1) := by decide +kernel
theorem J_HPen_follow_d41 : decode J_HPen_follow.2.1 41 = .ok (.if_icmp .ne 7, 3) := by decide +kernel
theorem J_HPen_follow_d44 : decode J_HPen_follow.2.1 44 = .ok (.iconst 1, 1) := by decide +kernel
theorem J_HPen_follow_d45 : decode J_HPen_follow.2.1 45 = .ok (.goto 4, 3) := by decide +kernel
theorem J_HPen_follow_d48 : decode J_HPen_follow.2.1 48 = .ok (.iconst 0, 1) := by decide +kernel
theorem J_HPen_follow_d49 : decode J_HPen_follow.2.1 49 = .ok (.putfield 53, 3) := by decide +kernel
theorem J_HPen_follow_d52 : decode J_HPen_follow.2.1 52 = .ok (.aload_n 0, 1) := by decide +kernel
theorem J_HPen_follow_d53 : decode J_HPen_follow.2.1 53 = .ok (.getfield 19, 3) := by decide +kernel
theorem J_HPen_follow_d56 : decode J_HPen_follow.2.1 56 = .ok (.iconst 0, 1) := by decide +kernel
theorem J_HPen_follow_d57 : decode J_HPen_follow.2.1 57 = .ok (.putfield 59, 3) := by decide +kernel
theorem J_HPen_follow_d60 : decode J_HPen_follow.2.1 60 = .ok (.aload_n 1, 1) := by decide +kernel
theorem J_HPen_follow_d61 : decode J_HPen_follow.2.1 61 = .ok (.iload_n 2, 1) := by decide +kernel
theorem J_HPen_follow_d62 : decode J_HPen_follow.2.1 62 = .ok (.iconst 5, 1) := by decide +kernel
theorem J_HPen_follow_d63 : decode J_HPen_follow.2.1 63 = .ok (.invokevirtual 39, 3) := by decide +kernel
theorem J_HPen_follow_d66 : decode J_HPen_follow.2.1 66 = .ok (.istore_n 3, 1) := by decide +kernel
theorem J_HPen_follow_d67 : decode J_HPen_follow.2.1 67 = .ok (.aload_n 1, 1) := by decide +kernel
theorem J_HPen_follow_d68 : decode J_HPen_follow.2.1 68 = .ok (.iload_n 2, 1) := by decide +kernel
theorem J_HPen_follow_d69 : decode J_HPen_follow.2.1 69 = .ok (.bipush 6, 2) := by decide +kernel
theorem J_HPen_follow_d71 : decode J_HPen_follow.2.1 71 = .ok (.invokevirtual 39, 3) := by decide +kernel
theorem J_HPen_follow_d74 : decode J_HPen_follow.2.1 74 = .ok (.istore 4, 2) := by decide +kernel
theorem J_HPen_follow_d76 : decode J_HPen_follow.2.1 76 = .ok (.aload_n 1, 1) := by decide +kernel
theorem J_HPen_follow_d77 : decode J_HPen_follow.2.1 77 = .ok (.iload_n 2, 1) := by decide +kernel
theorem J_HPen_follow_d78 : decode J_HPen_follow.2.1 78 = .ok (.bipush 7, 2) := by decide +kernel
theorem J_HPen_follow_d80 : decode J_HPen_follow.2.1 80 = .ok (.invokevirtual 39, 3) := by decide +kernel
theorem J_HPen_follow_d83 : decode J_HPen_follow.2.1 83 = .ok (.istore 5, 2) := by decide +kernel
theorem J_HPen_follow_d85 : decode J_HPen_follow.2.1 85 = .ok (.iconst 1, 1) := by decide +kernel
theorem J_HPen_follow_d86 : decode J_HPen_follow.2.1 86 = .ok (.istore 6, 2) := by decide +kernel
theorem J_HPen_follow_d88 : decode J_HPen_follow.2.1 88 = .ok (.aload_n 1, 1) := by decide +kernel
theorem J_HPen_follow_d89 : decode J_HPen_follow.2.1 89 = .ok (.iload_n 2, 1) := by decide +kernel
theorem J_HPen_follow_d90 : decode J_HPen_follow.2.1 90 = .ok (.iconst 0, 1) := by decide +kernel
theorem J_HPen_follow_d91 : decode J_HPen_follow.2.1 91 = .ok (.invokevirtual 39, 3) := by decide +kernel
theorem J_HPen_follow_d94 : decode J_HPen_follow.2.1 94 = .ok (.tableswitch 190 0 6 #[42, 51, 88, 115, 154, 166, 178], 42) := by decide +kernel
theorem J_HPen_follow_d136 : decode J_HPen_follow.2.1 136 = .ok (.aload_n 0, 1) := by decide +kernel
theorem J_HPen_follow_d137 : decode J_HPen_follow.2.1 137 = .ok (.aload_n 1, 1) := by decide +kernel
theorem J_HPen_follow_d138 : decode J_HPen_follow.2.1 138 = .ok (.iload_n 2, 1) := by decide +kernel
theorem J_HPen_follow_d139 : decode J_HPen_follow.2.1 139 = .ok (.invokevirtual 62, 3) := by decide +kernel
theorem J_HPen_follow_d142 : decode J_HPen_follow.2.1 142 = .ok (.goto 148, 3) := by decide +kernel
theorem J_HPen_follow_d145 : decode J_HPen_follow.2.1 145 = .ok (.aload_n 0, 1) := by decide +kernel
theorem J_HPen_follow_d146 : decode J_HPen_follow.2.1 146 = .ok (.getfield 23, 3) := by decide +kernel
theorem J_HPen_follow_d149 : decode J_HPen_follow.2.1 149 = .ok (.aload_n 1, 1) := by decide +kernel
theorem J_HPen_follow_d150 : decode J_HPen_follow.2.1 150 = .ok (.getfield 66, 3) := by decide +kernel
theorem J_HPen_follow_d153 : decode J_HPen_follow.2.1 153 = .ok (.iload_n 2, 1) := by decide +kernel
theorem J_HPen_follow_d154 : decode J_HPen_follow.2.1 154 = .ok (.sipush 200, 3) := by decide +kernel
theorem J_HPen_follow_d157 : decode J_HPen_follow.2.1 157 = .ok (.imul, 1) := by decide +kernel
theorem J_HPen_follow_d158 : decode J_HPen_follow.2.1 158 = .ok (.aload_n 1, 1) := by decide +kernel
theorem J_HPen_follow_d159 : decode J_HPen_follow.2.1 159 = .ok (.iload_n 2, 1) := by decide +kernel
theorem J_HPen_follow_d160 : decode J_HPen_follow.2.1 160 = .ok (.bipush 8, 2) := by decide +kernel
theorem J_HPen_follow_d162 : decode J_HPen_follow.2.1 162 = .ok (.invokevirtual 39, 3) := by decide +kernel
theorem J_HPen_follow_d165 : decode J_HPen_follow.2.1 165 = .ok (.invokevirtual 70, 3) := by decide +kernel
theorem J_HPen_follow_d168 : decode J_HPen_follow.2.1 168 = .ok (.istore 6, 2) := by decide +kernel
theorem J_HPen_follow_d170 : decode J_HPen_follow.2.1 170 = .ok (.aload_n 0, 1) := by decide +kernel
theorem J_HPen_follow_d171 : decode J_HPen_follow.2.1 171 = .ok (.iload 6, 2) := by decide +kernel
theorem J_HPen_follow_d173 : decode J_HPen_follow.2.1 173 = .ok (.iload_n 3, 1) := by decide +kernel
theorem J_HPen_follow_d174 : decode J_HPen_follow.2.1 174 = .ok (.iload 4, 2) := by decide +kernel
theorem J_HPen_follow_d176 : decode J_HPen_follow.2.1 176 = .ok (.invokevirtual 76, 3) := by decide +kernel
theorem J_HPen_follow_d179 : decode J_HPen_follow.2.1 179 = .ok (.goto 111, 3) := by decide +kernel
theorem J_HPen_follow_d182 : decode J_HPen_follow.2.1 182 = .ok (.aload_n 0, 1) := by decide +kernel
theorem J_HPen_follow_d183 : decode J_HPen_follow.2.1 183 = .ok (.getfield 23, 3) := by decide +kernel
theorem J_HPen_follow_d186 : decode J_HPen_follow.2.1 186 = .ok (.aload_n 1, 1) := by decide +kernel
theorem J_HPen_follow_d187 : decode J_HPen_follow.2.1 187 = .ok (.getfield 66, 3) := by decide +kernel
theorem J_HPen_follow_d190 : decode J_HPen_follow.2.1 190 = .ok (.iload_n 2, 1) := by decide +kernel
theorem J_HPen_follow_d191 : decode J_HPen_follow.2.1 191 = .ok (.sipush 200, 3) := by decide +kernel
theorem J_HPen_follow_d194 : decode J_HPen_follow.2.1 194 = .ok (.imul, 1) := by decide +kernel
theorem J_HPen_follow_d195 : decode J_HPen_follow.2.1 195 = .ok (.invokevirtual 80, 3) := by decide +kernel
theorem J_HPen_follow_d198 : decode J_HPen_follow.2.1 198 = .ok (.aload_n 0, 1) := by decide +kernel
theorem J_HPen_follow_d199 : decode J_HPen_follow.2.1 199 = .ok (.iconst 1, 1) := by decide +kernel
theorem J_HPen_follow_d200 : decode J_HPen_follow.2.1 200 = .ok (.iload_n 3, 1) := by decide +kernel
theorem J_HPen_follow_d201 : decode J_HPen_follow.2.1 201 = .ok (.iload 4, 2) := by decide +kernel
theorem J_HPen_follow_d203 : decode J_HPen_follow.2.1 203 = .ok (.invokevirtual 76, 3) := by decide +kernel
theorem J_HPen_follow_d206 : decode J_HPen_follow.2.1 206 = .ok (.goto 84, 3) := by decide +kernel
theorem J_HPen_follow_d209 : decode J_HPen_follow.2.1 209 = .ok (.aload_n 0, 1) := by decide +kernel
theorem J_HPen_follow_d210 : decode J_HPen_follow.2.1 210 = .ok (.getfield 27, 3) := by decide +kernel
theorem J_HPen_follow_d213 : decode J_HPen_follow.2.1 213 = .ok (.aload_n 1, 1) := by decide +kernel
theorem J_HPen_follow_d214 : decode J_HPen_follow.2.1 214 = .ok (.getfield 66, 3) := by decide +kernel
theorem J_HPen_follow_d217 : decode J_HPen_follow.2.1 217 = .ok (.iload_n 2, 1) := by decide +kernel
theorem J_HPen_follow_d218 : decode J_HPen_follow.2.1 218 = .ok (.sipush 200, 3) := by decide +kernel
theorem J_HPen_follow_d221 : decode J_HPen_follow.2.1 221 = .ok (.imul, 1) := by decide +kernel
theorem J_HPen_follow_d222 : decode J_HPen_follow.2.1 222 = .ok (.aload_n 1, 1) := by decide +kernel
theorem J_HPen_follow_d223 : decode J_HPen_follow.2.1 223 = .ok (.iload_n 2, 1) := by decide +kernel
theorem J_HPen_follow_d224 : decode J_HPen_follow.2.1 224 = .ok (.bipush 8, 2) := by decide +kernel
theorem J_HPen_follow_d226 : decode J_HPen_follow.2.1 226 = .ok (.invokevirtual 39, 3) := by decide +kernel
theorem J_HPen_follow_d229 : decode J_HPen_follow.2.1 229 = .ok (.iload 4, 2) := by decide +kernel
theorem J_HPen_follow_d231 : decode J_HPen_follow.2.1 231 = .ok (.iload 5, 2) := by decide +kernel
theorem J_HPen_follow_d233 : decode J_HPen_follow.2.1 233 = .ok (.invokevirtual 84, 3) := by decide +kernel
theorem J_HPen_follow_d236 : decode J_HPen_follow.2.1 236 = .ok (.istore 6, 2) := by decide +kernel
theorem J_HPen_follow_d238 : decode J_HPen_follow.2.1 238 = .ok (.aload_n 0, 1) := by decide +kernel
theorem J_HPen_follow_d239 : decode J_HPen_follow.2.1 239 = .ok (.iload 6, 2) := by decide +kernel
theorem J_HPen_follow_d241 : decode J_HPen_follow.2.1 241 = .ok (.iload_n 3, 1) := by decide +kernel
theorem J_HPen_follow_d242 : decode J_HPen_follow.2.1 242 = .ok (.invokevirtual 90, 3) := by decide +kernel
theorem J_HPen_follow_d245 : decode J_HPen_follow.2.1 245 = .ok (.goto 45, 3) := by decide +kernel
theorem J_HPen_follow_d248 : decode J_HPen_follow.2.1 248 = .ok (.aload_n 0, 1) := by decide +kernel
theorem J_HPen_follow_d249 : decode J_HPen_follow.2.1 249 = .ok (.iload_n 3, 1) := by decide +kernel
theorem J_HPen_follow_d250 : decode J_HPen_follow.2.1 250 = .ok (.iload 4, 2) := by decide +kernel
theorem J_HPen_follow_d252 : decode J_HPen_follow.2.1 252 = .ok (.iload 5, 2) := by decide +kernel
theorem J_HPen_follow_d254 : decode J_HPen_follow.2.1 254 = .ok (.invokevirtual 94, 3) := by decide +kernel
theorem J_HPen_follow_d257 : decode J_HPen_follow.2.1 257 = .ok (.goto 33, 3) := by decide +kernel
theorem J_HPen_follow_d260 : decode J_HPen_follow.2.1 260 = .ok (.aload_n 0, 1) := by decide +kernel
theorem J_HPen_follow_d261 : decode J_HPen_follow.2.1 261 = .ok (.iload_n 3, 1) := by decide +kernel
theorem J_HPen_follow_d262 : decode J_HPen_follow.2.1 262 = .ok (.iload 4, 2) := by decide +kernel
theorem J_HPen_follow_d264 : decode J_HPen_follow.2.1 264 = .ok (.iload 5, 2) := by decide +kernel
theorem J_HPen_follow_d266 : decode J_HPen_follow.2.1 266 = .ok (.invokevirtual 98, 3) := by decide +kernel
theorem J_HPen_follow_d269 : decode J_HPen_follow.2.1 269 = .ok (.goto 21, 3) := by decide +kernel
theorem J_HPen_follow_d272 : decode J_HPen_follow.2.1 272 = .ok (.aload_n 0, 1) := by decide +kernel
theorem J_HPen_follow_d273 : decode J_HPen_follow.2.1 273 = .ok (.iload_n 3, 1) := by decide +kernel
theorem J_HPen_follow_d274 : decode J_HPen_follow.2.1 274 = .ok (.iload 4, 2) := by decide +kernel
theorem J_HPen_follow_d276 : decode J_HPen_follow.2.1 276 = .ok (.iload 5, 2) := by decide +kernel
theorem J_HPen_follow_d278 : decode J_HPen_follow.2.1 278 = .ok (.invokevirtual 101, 3) := by decide +kernel
theorem J_HPen_follow_d281 : decode J_HPen_follow.2.1 281 = .ok (.goto 9, 3) := by decide +kernel
theorem J_HPen_follow_d284 : decode J_HPen_follow.2.1 284 = .ok (.aload_n 0, 1) := by decide +kernel
theorem J_HPen_follow_d285 : decode J_HPen_follow.2.1 285 = .ok (.aload_n 1, 1) := by decide +kernel
theorem J_HPen_follow_d286 : decode J_HPen_follow.2.1 286 = .ok (.iload_n 2, 1) := by decide +kernel
theorem J_HPen_follow_d287 : decode J_HPen_follow.2.1 287 = .ok (.invokevirtual 104, 3) := by decide +kernel
theorem J_HPen_follow_d290 : decode J_HPen_follow.2.1 290 = .ok (.iload 6, 2) := by decide +kernel
theorem J_HPen_follow_d292 : decode J_HPen_follow.2.1 292 = .ok (.ifCond .eq 13, 3) := by decide +kernel
theorem J_HPen_follow_d295 : decode J_HPen_follow.2.1 295 = .ok (.aload_n 0, 1) := by decide +kernel
theorem J_HPen_follow_d296 : decode J_HPen_follow.2.1 296 = .ok (.getfield 19, 3) := by decide +kernel
theorem J_HPen_follow_d299 : decode J_HPen_follow.2.1 299 = .ok (.getfield 59, 3) := by decide +kernel
theorem J_HPen_follow_d302 : decode J_HPen_follow.2.1 302 = .ok (.goto 4, 3) := by decide +kernel
theorem J_HPen_follow_d305 : decode J_HPen_follow.2.1 305 = .ok (.iconst (-1), 1) := by decide +kernel
theorem J_HPen_follow_d306 : decode J_HPen_follow.2.1 306 = .ok (.ireturn, 1) := by decide +kernel
theorem f_HPen_follow_ok {L : Nat} {xs : Nat → Int32} {dep : Nat} {w : Bool} {p1 : Int32} {M : im_M} {Q : Int32 × im_M → Prop} (hM : lw_S w M) (h : ed (f_HPen_follow w p1 M) Q) : ia (tb_G L xs) (dep + 9) J_HPen_follow (rwI w Q) (0, lv_args 0 [.ref 56, .ref 11, .int p1], [], M) := by
  have hS : im_St (tb_G L xs) (dep + 9) J_HPen_follow (ia (tb_G L xs) (dep + 9) J_HPen_follow (rwI w Q)) := ia_St
  unfold f_HPen_follow at h
  have l0 : im_lk (lv_args 0 [.ref 56, .ref 11, .int p1]) 0 = some (.ref 56) := rfl
  have l1 : im_lk (lv_args 0 [.ref 56, .ref 11, .int p1]) 1 = some (.ref 11) := rfl
  have l2 : im_lk (lv_args 0 [.ref 56, .ref 11, .int p1]) 2 = some (.int p1) := rfl
  refine iq_aload_n hS 1 J_HPen_follow_d0 l0 rfl ?_
  refine iq_aload_n hS 2 J_HPen_follow_d1 l1 rfl ?_
  refine iq_iload_n hS 3 J_HPen_follow_d2 l2 rfl ?_
  refine iq_iconst hS 4 J_HPen_follow_d3 (v := 1) (by decide +kernel) rfl ?_
  obtain ⟨Q1, hQ1, h⟩ := bd1_ed h
  refine iq_cpI hS 7 J_HPen_follow_d4 rfl (pr_inst (vs := [_, _]) lc_6_39 lT_77 rfl rfl (by decide) (by decide) rfl (Nat.le_of_ble_eq_true rfl) (Nat.le_of_ble_eq_true rfl) (fun _ => Or.inl (pr_b (ka_11 hM) (by decide) rfl))) (f_HOrders_value_1_ok (dep := dep + 8) hM h) rfl ?_
  intro x1 h
  replace h := hQ1 _ h
  refine iq_putI hS 10 J_HPen_follow_d7 lf_6_43 (Or.inl rfl) rfl (ka_56 hM) rfl ?_
  refine iq_aload_n hS 11 J_HPen_follow_d10 l0 rfl ?_
  refine iq_aload_n hS 12 J_HPen_follow_d11 l1 rfl ?_
  refine iq_iload_n hS 13 J_HPen_follow_d12 l2 rfl ?_
  refine iq_iconst hS 14 J_HPen_follow_d13 (v := 2) (by decide +kernel) rfl ?_
  obtain ⟨Q2, hQ2, h⟩ := bd1_ed h
  refine iq_cpI hS 17 J_HPen_follow_d14 rfl (pr_inst (vs := [_, _]) lc_6_39 lT_77 rfl rfl (by decide) (by decide) rfl (Nat.le_of_ble_eq_true rfl) (Nat.le_of_ble_eq_true rfl) (fun _ => Or.inl (pr_b (ka_11 (lw_sI hM)) (by decide) rfl))) (f_HOrders_value_1_ok (dep := dep + 8) (lw_sI hM) h) rfl ?_
  intro x2 h
  replace h := hQ2 _ h
  refine iq_putI hS 20 J_HPen_follow_d17 lf_6_47 (Or.inl rfl) rfl (ka_56 (lw_sI hM)) rfl ?_
  refine iq_aload_n hS 21 J_HPen_follow_d20 l0 rfl ?_
  refine iq_aload_n hS 22 J_HPen_follow_d21 l1 rfl ?_
  refine iq_iload_n hS 23 J_HPen_follow_d22 l2 rfl ?_
  refine iq_iconst hS 24 J_HPen_follow_d23 (v := 3) (by decide +kernel) rfl ?_
  obtain ⟨Q3, hQ3, h⟩ := bd1_ed h
  refine iq_cpI hS 27 J_HPen_follow_d24 rfl (pr_inst (vs := [_, _]) lc_6_39 lT_77 rfl rfl (by decide) (by decide) rfl (Nat.le_of_ble_eq_true rfl) (Nat.le_of_ble_eq_true rfl) (fun _ => Or.inl (pr_b (ka_11 (lw_sI (lw_sI hM))) (by decide) rfl))) (f_HOrders_value_1_ok (dep := dep + 8) (lw_sI (lw_sI hM)) h) rfl ?_
  intro x3 h
  replace h := hQ3 _ h
  refine iq_putI hS 30 J_HPen_follow_d27 lf_6_50 (Or.inl rfl) rfl (ka_56 (lw_sI (lw_sI hM))) rfl ?_
  refine iq_aload_n hS 31 J_HPen_follow_d30 l0 rfl ?_
  refine iq_getR hS 34 J_HPen_follow_d31 lf_6_19 (Or.inl ⟨_, rfl⟩) (ka_56 (lw_sI (lw_sI (lw_sI hM)))) (ra_56_0 (lw_sI (lw_sI (lw_sI hM)))) rfl ?_
  refine iq_aload_n hS 35 J_HPen_follow_d34 l1 rfl ?_
  refine iq_iload_n hS 36 J_HPen_follow_d35 l2 rfl ?_
  refine iq_iconst hS 37 J_HPen_follow_d36 (v := 4) (by decide +kernel) rfl ?_
  obtain ⟨Q4, hQ4, h⟩ := bd1_ed h
  refine iq_cpI hS 40 J_HPen_follow_d37 rfl (pr_inst (vs := [_, _]) lc_6_39 lT_77 rfl rfl (by decide) (by decide) rfl (Nat.le_of_ble_eq_true rfl) (Nat.le_of_ble_eq_true rfl) (fun _ => Or.inl (pr_b (ka_11 (lw_sI (lw_sI (lw_sI hM)))) (by decide) rfl))) (f_HOrders_value_1_ok (dep := dep + 8) (lw_sI (lw_sI (lw_sI hM))) h) rfl ?_
  intro x4 h
  replace h := hQ4 _ h
  refine iq_iconst hS 41 J_HPen_follow_d40 (v := 2) (by decide +kernel) rfl ?_
  have J5 : ∀ (z6 : Int32) (L' : List (Nat × Value)), z6 = ((if ¬ x4 = 2 then 0 else 1) : Int32) → im_lk L' 0 = some (.ref 56) → im_lk L' 1 = some (.ref 11) → im_lk L' 2 = some (.int p1) → ia (tb_G L xs) (dep + 9) J_HPen_follow (rwI w Q) (49, L', [.int z6, .ref 28], (im_setI (im_setI (im_setI M 56 5 x1) 56 6 x2) 56 7 x3)) := by
    intro z6 L' e7 l8 l9 l10
    subst e7
    obtain ⟨g49, h⟩ := ed_gd h
    refine iq_putZ hS 52 J_HPen_follow_d49 lf_6_53 (Or.inl rfl) rfl (ka_28 (lw_sI (lw_sI (lw_sI hM)))) g49 rfl ?_
    refine iq_aload_n hS 53 J_HPen_follow_d52 l8 rfl ?_
    refine iq_getR hS 56 J_HPen_follow_d53 lf_6_19 (Or.inl ⟨_, rfl⟩) (ka_56 (lw_sI (lw_sI (lw_sI (lw_sI hM))))) (ra_56_0 (lw_sI (lw_sI (lw_sI (lw_sI hM))))) rfl ?_
    refine iq_iconst hS 57 J_HPen_follow_d56 (v := 0) (by decide +kernel) rfl ?_
    refine iq_putI hS 60 J_HPen_follow_d57 lf_6_59 (Or.inl rfl) rfl (ka_28 (lw_sI (lw_sI (lw_sI (lw_sI hM))))) rfl ?_
    refine iq_aload_n hS 61 J_HPen_follow_d60 l9 rfl ?_
    refine iq_iload_n hS 62 J_HPen_follow_d61 l10 rfl ?_
    refine iq_iconst hS 63 J_HPen_follow_d62 (v := 5) (by decide +kernel) rfl ?_
    obtain ⟨Q11, hQ11, h⟩ := bd1_ed h
    refine iq_cpI hS 66 J_HPen_follow_d63 rfl (pr_inst (vs := [_, _]) lc_6_39 lT_77 rfl rfl (by decide) (by decide) rfl (Nat.le_of_ble_eq_true rfl) (Nat.le_of_ble_eq_true rfl) (fun _ => Or.inl (pr_b (ka_11 (lw_sI (lw_sI (lw_sI (lw_sI (lw_sI hM)))))) (by decide) rfl))) (f_HOrders_value_1_ok (dep := dep + 8) (lw_sI (lw_sI (lw_sI (lw_sI (lw_sI hM))))) h) rfl ?_
    intro x11 h
    replace h := hQ11 _ h
    refine iq_istore_n hS 67 J_HPen_follow_d66 (by decide) rfl ?_
    refine iq_aload_n hS 68 J_HPen_follow_d67 (lk_1r l9 (by decide)) rfl ?_
    refine iq_iload_n hS 69 J_HPen_follow_d68 (lk_1i l10 (by decide)) rfl ?_
    refine iq_bipush hS 71 J_HPen_follow_d69 (v := 6) (by decide +kernel) rfl ?_
    obtain ⟨Q12, hQ12, h⟩ := bd1_ed h
    refine iq_cpI hS 74 J_HPen_follow_d71 rfl (pr_inst (vs := [_, _]) lc_6_39 lT_77 rfl rfl (by decide) (by decide) rfl (Nat.le_of_ble_eq_true rfl) (Nat.le_of_ble_eq_true rfl) (fun _ => Or.inl (pr_b (ka_11 (lw_sI (lw_sI (lw_sI (lw_sI (lw_sI hM)))))) (by decide) rfl))) (f_HOrders_value_1_ok (dep := dep + 8) (lw_sI (lw_sI (lw_sI (lw_sI (lw_sI hM))))) h) rfl ?_
    intro x12 h
    replace h := hQ12 _ h
    refine iq_istore hS 76 J_HPen_follow_d74 (by decide) rfl ?_
    refine iq_aload_n hS 77 J_HPen_follow_d76 (lk_1r (lk_1r l9 (by decide)) (by decide)) rfl ?_
    refine iq_iload_n hS 78 J_HPen_follow_d77 (lk_1i (lk_1i l10 (by decide)) (by decide)) rfl ?_
    refine iq_bipush hS 80 J_HPen_follow_d78 (v := 7) (by decide +kernel) rfl ?_
    obtain ⟨Q13, hQ13, h⟩ := bd1_ed h
    refine iq_cpI hS 83 J_HPen_follow_d80 rfl (pr_inst (vs := [_, _]) lc_6_39 lT_77 rfl rfl (by decide) (by decide) rfl (Nat.le_of_ble_eq_true rfl) (Nat.le_of_ble_eq_true rfl) (fun _ => Or.inl (pr_b (ka_11 (lw_sI (lw_sI (lw_sI (lw_sI (lw_sI hM)))))) (by decide) rfl))) (f_HOrders_value_1_ok (dep := dep + 8) (lw_sI (lw_sI (lw_sI (lw_sI (lw_sI hM))))) h) rfl ?_
    intro x13 h
    replace h := hQ13 _ h
    refine iq_istore hS 85 J_HPen_follow_d83 (by decide) rfl ?_
    refine iq_iconst hS 86 J_HPen_follow_d85 (v := 1) (by decide +kernel) rfl ?_
    refine iq_istore hS 88 J_HPen_follow_d86 (by decide) rfl ?_
    refine iq_aload_n hS 89 J_HPen_follow_d88 (lk_1r (lk_1r (lk_1r (lk_1r l9 (by decide)) (by decide)) (by decide)) (by decide)) rfl ?_
    refine iq_iload_n hS 90 J_HPen_follow_d89 (lk_1i (lk_1i (lk_1i (lk_1i l10 (by decide)) (by decide)) (by decide)) (by decide)) rfl ?_
    refine iq_iconst hS 91 J_HPen_follow_d90 (v := 0) (by decide +kernel) rfl ?_
    obtain ⟨Q14, hQ14, h⟩ := bd1_ed h
    refine iq_cpI hS 94 J_HPen_follow_d91 rfl (pr_inst (vs := [_, _]) lc_6_39 lT_77 rfl rfl (by decide) (by decide) rfl (Nat.le_of_ble_eq_true rfl) (Nat.le_of_ble_eq_true rfl) (fun _ => Or.inl (pr_b (ka_11 (lw_sI (lw_sI (lw_sI (lw_sI (lw_sI hM)))))) (by decide) rfl))) (f_HOrders_value_1_ok (dep := dep + 8) (lw_sI (lw_sI (lw_sI (lw_sI (lw_sI hM))))) h) rfl ?_
    intro x14 h
    replace h := hQ14 _ h
    obtain ⟨Q15, hQ15, h⟩ := bd2_ed h
    have J15 : ∀ (y29 : Int32) (M30 : im_M) (L' : List (Nat × Value)), lw_S w M30 → im_lk L' 0 = some (.ref 56) → im_lk L' 6 = some (.int y29) → Q15 (y29, M30) → ia (tb_G L xs) (dep + 9) J_HPen_follow (rwI w Q) (290, L', [], M30) := by
      intro y29 M30 L' hM30 l31 l32 h
      replace h := hQ15 _ _ h
      refine iq_iload hS 292 J_HPen_follow_d290 l32 rfl ?_
      refine iq_if_eq hS 295 J_HPen_follow_d292 (t := 305) rfl (fun q292 => ?_) rfl (fun q292 => ?_)
      · replace h := ed_pos q292 h
        refine iq_iconst hS 306 J_HPen_follow_d305 (v := (-1)) (by decide +kernel) rfl ?_
        exact iq_iret J_HPen_follow_d306 rfl rfl ⟨_, rfl, hM30, ed_some h⟩
      · replace h := ed_neg q292 h
        refine iq_aload_n hS 296 J_HPen_follow_d295 l31 rfl ?_
        refine iq_getR hS 299 J_HPen_follow_d296 lf_6_19 (Or.inl ⟨_, rfl⟩) (ka_56 hM30) (ra_56_0 hM30) rfl ?_
        refine iq_getI hS 302 J_HPen_follow_d299 lf_6_59 (Or.inl rfl) (ka_28 hM30) rfl ?_
        refine iq_goto hS J_HPen_follow_d302 (t := 306) rfl ?_
        exact iq_iret J_HPen_follow_d306 rfl rfl ⟨_, rfl, hM30, ed_some h⟩
    by_cases q94_0 : x14 = 0
    · replace h := ed_pos q94_0 h
      refine iq_tsw hS J_HPen_follow_d94 (t := 136) (sw_v q94_0 (by decide +kernel)) ?_
      refine iq_aload_n hS 137 J_HPen_follow_d136 (lk_1r (lk_1r (lk_1r (lk_1r l8 (by decide)) (by decide)) (by decide)) (by decide)) rfl ?_
      refine iq_aload_n hS 138 J_HPen_follow_d137 (lk_1r (lk_1r (lk_1r (lk_1r l9 (by decide)) (by decide)) (by decide)) (by decide)) rfl ?_
      refine iq_iload_n hS 139 J_HPen_follow_d138 (lk_1i (lk_1i (lk_1i (lk_1i l10 (by decide)) (by decide)) (by decide)) (by decide)) rfl ?_
      obtain ⟨Q16, hQ16, h⟩ := bd1_ed h
      refine iq_cwV hS 142 J_HPen_follow_d139 rfl (pr_inst (vs := [_, _]) lc_6_62 lT_109 rfl rfl (by decide) (by decide) rfl (Nat.le_of_ble_eq_true rfl) (Nat.le_of_ble_eq_true rfl) (fun _ => Or.inl (pr_b (ka_56 (lw_sI (lw_sI (lw_sI (lw_sI (lw_sI hM)))))) (by decide) rfl))) (f_HPen_drawText_ok (dep := dep + 4) (lw_sI (lw_sI (lw_sI (lw_sI (lw_sI hM))))) h) rfl ?_
      intro M16 hM16 h
      replace h := hQ16 _ h
      refine iq_goto hS J_HPen_follow_d142 (t := 290) rfl ?_
      exact J15 _ _ _ hM16 (lk_1r (lk_1r (lk_1r (lk_1r l8 (by decide)) (by decide)) (by decide)) (by decide)) lk_1s (ed_some h)
    replace h := ed_neg q94_0 h
    by_cases q94_1 : x14 = 1
    · replace h := ed_pos q94_1 h
      refine iq_tsw hS J_HPen_follow_d94 (t := 145) (sw_v q94_1 (by decide +kernel)) ?_
      refine iq_aload_n hS 146 J_HPen_follow_d145 (lk_1r (lk_1r (lk_1r (lk_1r l8 (by decide)) (by decide)) (by decide)) (by decide)) rfl ?_
      refine iq_getR hS 149 J_HPen_follow_d146 lf_6_23 (Or.inl ⟨_, rfl⟩) (ka_56 (lw_sI (lw_sI (lw_sI (lw_sI (lw_sI hM)))))) (ra_56_1 (lw_sI (lw_sI (lw_sI (lw_sI (lw_sI hM)))))) rfl ?_
      refine iq_aload_n hS 150 J_HPen_follow_d149 (lk_1r (lk_1r (lk_1r (lk_1r l9 (by decide)) (by decide)) (by decide)) (by decide)) rfl ?_
      refine iq_getR hS 153 J_HPen_follow_d150 lf_6_66 (Or.inr ⟨_, rfl⟩) (ka_11 (lw_sI (lw_sI (lw_sI (lw_sI (lw_sI hM)))))) (ra_11_1 (lw_sI (lw_sI (lw_sI (lw_sI (lw_sI hM)))))) rfl ?_
      refine iq_iload_n hS 154 J_HPen_follow_d153 (lk_1i (lk_1i (lk_1i (lk_1i l10 (by decide)) (by decide)) (by decide)) (by decide)) rfl ?_
      refine iq_sipush hS 157 J_HPen_follow_d154 (v := 200) (by decide +kernel) rfl ?_
      refine iq_imul hS 158 J_HPen_follow_d157 rfl ?_
      refine iq_aload_n hS 159 J_HPen_follow_d158 (lk_1r (lk_1r (lk_1r (lk_1r l9 (by decide)) (by decide)) (by decide)) (by decide)) rfl ?_
      refine iq_iload_n hS 160 J_HPen_follow_d159 (lk_1i (lk_1i (lk_1i (lk_1i l10 (by decide)) (by decide)) (by decide)) (by decide)) rfl ?_
      refine iq_bipush hS 162 J_HPen_follow_d160 (v := 8) (by decide +kernel) rfl ?_
      obtain ⟨Q17, hQ17, h⟩ := bd1_ed h
      refine iq_cpI hS 165 J_HPen_follow_d162 rfl (pr_inst (vs := [_, _]) lc_6_39 lT_77 rfl rfl (by decide) (by decide) rfl (Nat.le_of_ble_eq_true rfl) (Nat.le_of_ble_eq_true rfl) (fun _ => Or.inl (pr_b (ka_11 (lw_sI (lw_sI (lw_sI (lw_sI (lw_sI hM)))))) (by decide) rfl))) (f_HOrders_value_1_ok (dep := dep + 8) (lw_sI (lw_sI (lw_sI (lw_sI (lw_sI hM))))) h) rfl ?_
      intro x17 h
      replace h := hQ17 _ h
      obtain ⟨Q18, hQ18, h⟩ := bd2_ed h
      refine iq_cwI hS 168 J_HPen_follow_d165 rfl (pr_inst (vs := [_, _, _]) lc_6_70 lT_115 rfl rfl (by decide) (by decide) rfl (Nat.le_of_ble_eq_true rfl) (Nat.le_of_ble_eq_true rfl) (fun _ => Or.inl (pr_b (ka_31 (lw_sI (lw_sI (lw_sI (lw_sI (lw_sI hM)))))) (by decide) rfl))) (f_HBars_layText_ok (dep := dep + 4) (lw_sI (lw_sI (lw_sI (lw_sI (lw_sI hM))))) h) rfl ?_
      intro x18 M18 hM18 h
      replace h := hQ18 _ _ h
      refine iq_istore hS 170 J_HPen_follow_d168 (by decide) rfl ?_
      refine iq_aload_n hS 171 J_HPen_follow_d170 (lk_1r (lk_1r (lk_1r (lk_1r (lk_1r l8 (by decide)) (by decide)) (by decide)) (by decide)) (by decide)) rfl ?_
      refine iq_iload hS 173 J_HPen_follow_d171 lk_1s rfl ?_
      refine iq_iload_n hS 174 J_HPen_follow_d173 (lk_1i (lk_1i (lk_1i (lk_1i lk_1s (by decide)) (by decide)) (by decide)) (by decide)) rfl ?_
      refine iq_iload hS 176 J_HPen_follow_d174 (lk_1i (lk_1i (lk_1i lk_1s (by decide)) (by decide)) (by decide)) rfl ?_
      obtain ⟨Q19, hQ19, h⟩ := bd1_ed h
      refine iq_cwV hS 179 J_HPen_follow_d176 rfl (pr_inst (vs := [_, _, _]) lc_6_76 lT_128 rfl rfl (by decide) (by decide) rfl (Nat.le_of_ble_eq_true rfl) (Nat.le_of_ble_eq_true rfl) (fun _ => Or.inl (pr_b (ka_56 hM18) (by decide) rfl))) (f_HPen_drawBars_ok (dep := dep + 5) hM18 h) rfl ?_
      intro M19 hM19 h
      replace h := hQ19 _ h
      refine iq_goto hS J_HPen_follow_d179 (t := 290) rfl ?_
      exact J15 _ _ _ hM19 (lk_1r (lk_1r (lk_1r (lk_1r (lk_1r l8 (by decide)) (by decide)) (by decide)) (by decide)) (by decide)) lk_1s (ed_some h)
    replace h := ed_neg q94_1 h
    by_cases q94_2 : x14 = 2
    · replace h := ed_pos q94_2 h
      refine iq_tsw hS J_HPen_follow_d94 (t := 182) (sw_v q94_2 (by decide +kernel)) ?_
      refine iq_aload_n hS 183 J_HPen_follow_d182 (lk_1r (lk_1r (lk_1r (lk_1r l8 (by decide)) (by decide)) (by decide)) (by decide)) rfl ?_
      refine iq_getR hS 186 J_HPen_follow_d183 lf_6_23 (Or.inl ⟨_, rfl⟩) (ka_56 (lw_sI (lw_sI (lw_sI (lw_sI (lw_sI hM)))))) (ra_56_1 (lw_sI (lw_sI (lw_sI (lw_sI (lw_sI hM)))))) rfl ?_
      refine iq_aload_n hS 187 J_HPen_follow_d186 (lk_1r (lk_1r (lk_1r (lk_1r l9 (by decide)) (by decide)) (by decide)) (by decide)) rfl ?_
      refine iq_getR hS 190 J_HPen_follow_d187 lf_6_66 (Or.inr ⟨_, rfl⟩) (ka_11 (lw_sI (lw_sI (lw_sI (lw_sI (lw_sI hM)))))) (ra_11_1 (lw_sI (lw_sI (lw_sI (lw_sI (lw_sI hM)))))) rfl ?_
      refine iq_iload_n hS 191 J_HPen_follow_d190 (lk_1i (lk_1i (lk_1i (lk_1i l10 (by decide)) (by decide)) (by decide)) (by decide)) rfl ?_
      refine iq_sipush hS 194 J_HPen_follow_d191 (v := 200) (by decide +kernel) rfl ?_
      refine iq_imul hS 195 J_HPen_follow_d194 rfl ?_
      obtain ⟨Q20, hQ20, h⟩ := bd1_ed h
      refine iq_cwV hS 198 J_HPen_follow_d195 rfl (pr_inst (vs := [_, _]) lc_6_80 lT_129 rfl rfl (by decide) (by decide) rfl (Nat.le_of_ble_eq_true rfl) (Nat.le_of_ble_eq_true rfl) (fun _ => Or.inl (pr_b (ka_31 (lw_sI (lw_sI (lw_sI (lw_sI (lw_sI hM)))))) (by decide) rfl))) (f_HBars_layFigures_ok (dep := dep + 7) (lw_sI (lw_sI (lw_sI (lw_sI (lw_sI hM))))) h) rfl ?_
      intro M20 hM20 h
      replace h := hQ20 _ h
      refine iq_aload_n hS 199 J_HPen_follow_d198 (lk_1r (lk_1r (lk_1r (lk_1r l8 (by decide)) (by decide)) (by decide)) (by decide)) rfl ?_
      refine iq_iconst hS 200 J_HPen_follow_d199 (v := 1) (by decide +kernel) rfl ?_
      refine iq_iload_n hS 201 J_HPen_follow_d200 (lk_1i (lk_1i (lk_1i lk_1s (by decide)) (by decide)) (by decide)) rfl ?_
      refine iq_iload hS 203 J_HPen_follow_d201 (lk_1i (lk_1i lk_1s (by decide)) (by decide)) rfl ?_
      obtain ⟨Q21, hQ21, h⟩ := bd1_ed h
      refine iq_cwV hS 206 J_HPen_follow_d203 rfl (pr_inst (vs := [_, _, _]) lc_6_76 lT_128 rfl rfl (by decide) (by decide) rfl (Nat.le_of_ble_eq_true rfl) (Nat.le_of_ble_eq_true rfl) (fun _ => Or.inl (pr_b (ka_56 hM20) (by decide) rfl))) (f_HPen_drawBars_ok (dep := dep + 5) hM20 h) rfl ?_
      intro M21 hM21 h
      replace h := hQ21 _ h
      refine iq_goto hS J_HPen_follow_d206 (t := 290) rfl ?_
      exact J15 _ _ _ hM21 (lk_1r (lk_1r (lk_1r (lk_1r l8 (by decide)) (by decide)) (by decide)) (by decide)) lk_1s (ed_some h)
    replace h := ed_neg q94_2 h
    by_cases q94_3 : x14 = 3
    · replace h := ed_pos q94_3 h
      refine iq_tsw hS J_HPen_follow_d94 (t := 209) (sw_v q94_3 (by decide +kernel)) ?_
      refine iq_aload_n hS 210 J_HPen_follow_d209 (lk_1r (lk_1r (lk_1r (lk_1r l8 (by decide)) (by decide)) (by decide)) (by decide)) rfl ?_
      refine iq_getR hS 213 J_HPen_follow_d210 lf_6_27 (Or.inl ⟨_, rfl⟩) (ka_56 (lw_sI (lw_sI (lw_sI (lw_sI (lw_sI hM)))))) (ra_56_2 (lw_sI (lw_sI (lw_sI (lw_sI (lw_sI hM)))))) rfl ?_
      refine iq_aload_n hS 214 J_HPen_follow_d213 (lk_1r (lk_1r (lk_1r (lk_1r l9 (by decide)) (by decide)) (by decide)) (by decide)) rfl ?_
      refine iq_getR hS 217 J_HPen_follow_d214 lf_6_66 (Or.inr ⟨_, rfl⟩) (ka_11 (lw_sI (lw_sI (lw_sI (lw_sI (lw_sI hM)))))) (ra_11_1 (lw_sI (lw_sI (lw_sI (lw_sI (lw_sI hM)))))) rfl ?_
      refine iq_iload_n hS 218 J_HPen_follow_d217 (lk_1i (lk_1i (lk_1i (lk_1i l10 (by decide)) (by decide)) (by decide)) (by decide)) rfl ?_
      refine iq_sipush hS 221 J_HPen_follow_d218 (v := 200) (by decide +kernel) rfl ?_
      refine iq_imul hS 222 J_HPen_follow_d221 rfl ?_
      refine iq_aload_n hS 223 J_HPen_follow_d222 (lk_1r (lk_1r (lk_1r (lk_1r l9 (by decide)) (by decide)) (by decide)) (by decide)) rfl ?_
      refine iq_iload_n hS 224 J_HPen_follow_d223 (lk_1i (lk_1i (lk_1i (lk_1i l10 (by decide)) (by decide)) (by decide)) (by decide)) rfl ?_
      refine iq_bipush hS 226 J_HPen_follow_d224 (v := 8) (by decide +kernel) rfl ?_
      obtain ⟨Q22, hQ22, h⟩ := bd1_ed h
      refine iq_cpI hS 229 J_HPen_follow_d226 rfl (pr_inst (vs := [_, _]) lc_6_39 lT_77 rfl rfl (by decide) (by decide) rfl (Nat.le_of_ble_eq_true rfl) (Nat.le_of_ble_eq_true rfl) (fun _ => Or.inl (pr_b (ka_11 (lw_sI (lw_sI (lw_sI (lw_sI (lw_sI hM)))))) (by decide) rfl))) (f_HOrders_value_1_ok (dep := dep + 8) (lw_sI (lw_sI (lw_sI (lw_sI (lw_sI hM))))) h) rfl ?_
      intro x22 h
      replace h := hQ22 _ h
      refine iq_iload hS 231 J_HPen_follow_d229 (lk_1i (lk_1i lk_1s (by decide)) (by decide)) rfl ?_
      refine iq_iload hS 233 J_HPen_follow_d231 (lk_1i lk_1s (by decide)) rfl ?_
      obtain ⟨Q23, hQ23, h⟩ := bd2_ed h
      refine iq_cwI hS 236 J_HPen_follow_d233 rfl (pr_inst (vs := [_, _, _, _, _]) lc_6_84 lT_132 rfl rfl (by decide) (by decide) rfl (Nat.le_of_ble_eq_true rfl) (Nat.le_of_ble_eq_true rfl) (fun _ => Or.inl (pr_b (ka_38 (lw_sI (lw_sI (lw_sI (lw_sI (lw_sI hM)))))) (by decide) rfl))) (f_HGrid_make_ok (dep := dep + 0) (lw_sI (lw_sI (lw_sI (lw_sI (lw_sI hM))))) h) rfl ?_
      intro x23 M23 hM23 h
      replace h := hQ23 _ _ h
      refine iq_istore hS 238 J_HPen_follow_d236 (by decide) rfl ?_
      refine iq_aload_n hS 239 J_HPen_follow_d238 (lk_1r (lk_1r (lk_1r (lk_1r (lk_1r l8 (by decide)) (by decide)) (by decide)) (by decide)) (by decide)) rfl ?_
      refine iq_iload hS 241 J_HPen_follow_d239 lk_1s rfl ?_
      refine iq_iload_n hS 242 J_HPen_follow_d241 (lk_1i (lk_1i (lk_1i (lk_1i lk_1s (by decide)) (by decide)) (by decide)) (by decide)) rfl ?_
      obtain ⟨Q24, hQ24, h⟩ := bd1_ed h
      refine iq_cwV hS 245 J_HPen_follow_d242 rfl (pr_inst (vs := [_, _]) lc_6_90 lT_179 rfl rfl (by decide) (by decide) rfl (Nat.le_of_ble_eq_true rfl) (Nat.le_of_ble_eq_true rfl) (fun _ => Or.inl (pr_b (ka_56 hM23) (by decide) rfl))) (f_HPen_drawSquare_ok (dep := dep + 5) hM23 h) rfl ?_
      intro M24 hM24 h
      replace h := hQ24 _ h
      refine iq_goto hS J_HPen_follow_d245 (t := 290) rfl ?_
      exact J15 _ _ _ hM24 (lk_1r (lk_1r (lk_1r (lk_1r (lk_1r l8 (by decide)) (by decide)) (by decide)) (by decide)) (by decide)) lk_1s (ed_some h)
    replace h := ed_neg q94_3 h
    by_cases q94_4 : x14 = 4
    · replace h := ed_pos q94_4 h
      refine iq_tsw hS J_HPen_follow_d94 (t := 248) (sw_v q94_4 (by decide +kernel)) ?_
      refine iq_aload_n hS 249 J_HPen_follow_d248 (lk_1r (lk_1r (lk_1r (lk_1r l8 (by decide)) (by decide)) (by decide)) (by decide)) rfl ?_
      refine iq_iload_n hS 250 J_HPen_follow_d249 (lk_1i (lk_1i (lk_1i lk_1s (by decide)) (by decide)) (by decide)) rfl ?_
      refine iq_iload hS 252 J_HPen_follow_d250 (lk_1i (lk_1i lk_1s (by decide)) (by decide)) rfl ?_
      refine iq_iload hS 254 J_HPen_follow_d252 (lk_1i lk_1s (by decide)) rfl ?_
      obtain ⟨Q25, hQ25, h⟩ := bd1_ed h
      refine iq_cwV hS 257 J_HPen_follow_d254 rfl (pr_inst (vs := [_, _, _]) lc_6_94 lT_180 rfl rfl (by decide) (by decide) rfl (Nat.le_of_ble_eq_true rfl) (Nat.le_of_ble_eq_true rfl) (fun _ => Or.inl (pr_b (ka_56 (lw_sI (lw_sI (lw_sI (lw_sI (lw_sI hM)))))) (by decide) rfl))) (f_HPen_drawFrame_ok (dep := dep + 6) (lw_sI (lw_sI (lw_sI (lw_sI (lw_sI hM))))) h) rfl ?_
      intro M25 hM25 h
      replace h := hQ25 _ h
      refine iq_goto hS J_HPen_follow_d257 (t := 290) rfl ?_
      exact J15 _ _ _ hM25 (lk_1r (lk_1r (lk_1r (lk_1r l8 (by decide)) (by decide)) (by decide)) (by decide)) lk_1s (ed_some h)
    replace h := ed_neg q94_4 h
    by_cases q94_5 : x14 = 5
    · replace h := ed_pos q94_5 h
      refine iq_tsw hS J_HPen_follow_d94 (t := 260) (sw_v q94_5 (by decide +kernel)) ?_
      refine iq_aload_n hS 261 J_HPen_follow_d260 (lk_1r (lk_1r (lk_1r (lk_1r l8 (by decide)) (by decide)) (by decide)) (by decide)) rfl ?_
      refine iq_iload_n hS 262 J_HPen_follow_d261 (lk_1i (lk_1i (lk_1i lk_1s (by decide)) (by decide)) (by decide)) rfl ?_
      refine iq_iload hS 264 J_HPen_follow_d262 (lk_1i (lk_1i lk_1s (by decide)) (by decide)) rfl ?_
      refine iq_iload hS 266 J_HPen_follow_d264 (lk_1i lk_1s (by decide)) rfl ?_
      obtain ⟨Q26, hQ26, h⟩ := bd1_ed h
      refine iq_cwV hS 269 J_HPen_follow_d266 rfl (pr_inst (vs := [_, _, _]) lc_6_98 lT_181 rfl rfl (by decide) (by decide) rfl (Nat.le_of_ble_eq_true rfl) (Nat.le_of_ble_eq_true rfl) (fun _ => Or.inl (pr_b (ka_56 (lw_sI (lw_sI (lw_sI (lw_sI (lw_sI hM)))))) (by decide) rfl))) (f_HPen_drawEllipse_ok (dep := dep + 6) (lw_sI (lw_sI (lw_sI (lw_sI (lw_sI hM))))) h) rfl ?_
      intro M26 hM26 h
      replace h := hQ26 _ h
      refine iq_goto hS J_HPen_follow_d269 (t := 290) rfl ?_
      exact J15 _ _ _ hM26 (lk_1r (lk_1r (lk_1r (lk_1r l8 (by decide)) (by decide)) (by decide)) (by decide)) lk_1s (ed_some h)
    replace h := ed_neg q94_5 h
    by_cases q94_6 : x14 = 6
    · replace h := ed_pos q94_6 h
      refine iq_tsw hS J_HPen_follow_d94 (t := 272) (sw_v q94_6 (by decide +kernel)) ?_
      refine iq_aload_n hS 273 J_HPen_follow_d272 (lk_1r (lk_1r (lk_1r (lk_1r l8 (by decide)) (by decide)) (by decide)) (by decide)) rfl ?_
      refine iq_iload_n hS 274 J_HPen_follow_d273 (lk_1i (lk_1i (lk_1i lk_1s (by decide)) (by decide)) (by decide)) rfl ?_
      refine iq_iload hS 276 J_HPen_follow_d274 (lk_1i (lk_1i lk_1s (by decide)) (by decide)) rfl ?_
      refine iq_iload hS 278 J_HPen_follow_d276 (lk_1i lk_1s (by decide)) rfl ?_
      obtain ⟨Q27, hQ27, h⟩ := bd1_ed h
      refine iq_cwV hS 281 J_HPen_follow_d278 rfl (pr_inst (vs := [_, _, _]) lc_6_101 lT_183 rfl rfl (by decide) (by decide) rfl (Nat.le_of_ble_eq_true rfl) (Nat.le_of_ble_eq_true rfl) (fun _ => Or.inl (pr_b (ka_56 (lw_sI (lw_sI (lw_sI (lw_sI (lw_sI hM)))))) (by decide) rfl))) (f_HPen_drawLine_ok (dep := dep + 6) (lw_sI (lw_sI (lw_sI (lw_sI (lw_sI hM))))) h) rfl ?_
      intro M27 hM27 h
      replace h := hQ27 _ h
      refine iq_goto hS J_HPen_follow_d281 (t := 290) rfl ?_
      exact J15 _ _ _ hM27 (lk_1r (lk_1r (lk_1r (lk_1r l8 (by decide)) (by decide)) (by decide)) (by decide)) lk_1s (ed_some h)
    replace h := ed_neg q94_6 h
    refine iq_tsw hS J_HPen_follow_d94 (t := 284) (sw_d [0, 1, 2, 3, 4, 5, 6] (by decide) (by decide) (by decide +kernel) (sw_nc q94_0 (sw_nc q94_1 (sw_nc q94_2 (sw_nc q94_3 (sw_nc q94_4 (sw_nc q94_5 (sw_nc q94_6 sw_nn)))))))) ?_
    refine iq_aload_n hS 285 J_HPen_follow_d284 (lk_1r (lk_1r (lk_1r (lk_1r l8 (by decide)) (by decide)) (by decide)) (by decide)) rfl ?_
    refine iq_aload_n hS 286 J_HPen_follow_d285 (lk_1r (lk_1r (lk_1r (lk_1r l9 (by decide)) (by decide)) (by decide)) (by decide)) rfl ?_
    refine iq_iload_n hS 287 J_HPen_follow_d286 (lk_1i (lk_1i (lk_1i (lk_1i l10 (by decide)) (by decide)) (by decide)) (by decide)) rfl ?_
    obtain ⟨Q28, hQ28, h⟩ := bd1_ed h
    refine iq_cwV hS 290 J_HPen_follow_d287 rfl (pr_inst (vs := [_, _]) lc_6_104 lT_187 rfl rfl (by decide) (by decide) rfl (Nat.le_of_ble_eq_true rfl) (Nat.le_of_ble_eq_true rfl) (fun _ => Or.inl (pr_b (ka_56 (lw_sI (lw_sI (lw_sI (lw_sI (lw_sI hM)))))) (by decide) rfl))) (f_HPen_drawPicture_ok (dep := dep + 6) (lw_sI (lw_sI (lw_sI (lw_sI (lw_sI hM))))) h) rfl ?_
    intro M28 hM28 h
    replace h := hQ28 _ h
    exact J15 _ _ _ hM28 (lk_1r (lk_1r (lk_1r (lk_1r l8 (by decide)) (by decide)) (by decide)) (by decide)) lk_1s (ed_some h)
  refine iq_icmp_ne hS 44 J_HPen_follow_d41 (t := 48) rfl (fun q41 => ?_) rfl (fun q41 => ?_)
  · refine iq_iconst hS 49 J_HPen_follow_d48 (v := 0) (by decide +kernel) rfl ?_
    exact J5 _ _ (by simp only [if_pos q41]) l0 l1 l2
  · refine iq_iconst hS 45 J_HPen_follow_d44 (v := 1) (by decide +kernel) rfl ?_
    refine iq_goto hS J_HPen_follow_d45 (t := 49) rfl ?_
    exact J5 _ _ (by simp only [if_neg q41]) l0 l1 l2
theorem f_HPen_follow_fr {w : Bool} {p1 : Int32} {M : im_M} {r : Int32 × im_M} (h : f_HPen_follow w p1 M = some r) : fr 54490964659535872 [(28, 2), (28, 3), (31, 2), (31, 6), (31, 9), (38, 1), (38, 3), (38, 6), (39, 5), (43, 10), (43, 11), (43, 12), (43, 13), (56, 5), (56, 6), (56, 7)] M r.2 := by
  replace h : ed (f_HPen_follow w p1 M) (fun x => x = r) := ⟨r, h, rfl⟩
  unfold f_HPen_follow at h
  obtain ⟨Q1, hQ1, h⟩ := bd1_ed h
  obtain ⟨x1, e1, h⟩ := h
  replace h := hQ1 _ h
  obtain ⟨Q2, hQ2, h⟩ := bd1_ed h
  obtain ⟨x2, e2, h⟩ := h
  replace h := hQ2 _ h
  obtain ⟨Q3, hQ3, h⟩ := bd1_ed h
  obtain ⟨x3, e3, h⟩ := h
  replace h := hQ3 _ h
  obtain ⟨Q4, hQ4, h⟩ := bd1_ed h
  obtain ⟨x4, e4, h⟩ := h
  replace h := hQ4 _ h
  obtain ⟨g49, h⟩ := ed_gd h
  obtain ⟨Q6, hQ6, h⟩ := bd1_ed h
  obtain ⟨x6, e6, h⟩ := h
  replace h := hQ6 _ h
  obtain ⟨Q7, hQ7, h⟩ := bd1_ed h
  obtain ⟨x7, e7, h⟩ := h
  replace h := hQ7 _ h
  obtain ⟨Q8, hQ8, h⟩ := bd1_ed h
  obtain ⟨x8, e8, h⟩ := h
  replace h := hQ8 _ h
  obtain ⟨Q9, hQ9, h⟩ := bd1_ed h
  obtain ⟨x9, e9, h⟩ := h
  replace h := hQ9 _ h
  obtain ⟨Q10, hQ10, h⟩ := bd2_ed h
  have J10 : ∀ (y24 : Int32) (M25 : im_M), fr 54490964659535872 [(28, 2), (28, 3), (31, 2), (31, 6), (31, 9), (38, 1), (38, 3), (38, 6), (39, 5), (43, 10), (43, 11), (43, 12), (43, 13), (56, 5), (56, 6), (56, 7)] M M25 → Q10 (y24, M25) → fr 54490964659535872 [(28, 2), (28, 3), (31, 2), (31, 6), (31, 9), (38, 1), (38, 3), (38, 6), (39, 5), (43, 10), (43, 11), (43, 12), (43, 13), (56, 5), (56, 6), (56, 7)] M r.2 := by
    intro y24 M25 hM25 h
    replace h := hQ10 _ _ h
    by_cases q292 : y24 = 0
    · replace h := ed_pos q292 h
      exact fr_ret h hM25
    · replace h := ed_neg q292 h
      exact fr_ret h hM25
  by_cases q94_0 : x9 = 0
  · replace h := ed_pos q94_0 h
    obtain ⟨Q11, hQ11, h⟩ := bd1_ed h
    obtain ⟨M11, e11, h⟩ := h
    replace h := hQ11 _ h
    exact J10 _ _ (fr_tr (fr_mono (by decide) (by decide +kernel) (f_HPen_drawText_fr e11)) (fr_F (by decide) (fr_F (by decide) (fr_F (by decide) (fr_F (by decide) (fr_F (by decide) fr_refl)))))) (ed_some h)
  replace h := ed_neg q94_0 h
  by_cases q94_1 : x9 = 1
  · replace h := ed_pos q94_1 h
    obtain ⟨Q12, hQ12, h⟩ := bd1_ed h
    obtain ⟨x12, e12, h⟩ := h
    replace h := hQ12 _ h
    obtain ⟨Q13, hQ13, h⟩ := bd2_ed h
    obtain ⟨⟨x13, M13⟩, e13, h⟩ := h
    replace h := hQ13 _ _ h
    obtain ⟨Q14, hQ14, h⟩ := bd1_ed h
    obtain ⟨M14, e14, h⟩ := h
    replace h := hQ14 _ h
    exact J10 _ _ (fr_tr (fr_mono (by decide) (by decide +kernel) (f_HPen_drawBars_fr e14)) (fr_tr (fr_mono (by decide) (by decide +kernel) (f_HBars_layText_fr e13)) (fr_F (by decide) (fr_F (by decide) (fr_F (by decide) (fr_F (by decide) (fr_F (by decide) fr_refl))))))) (ed_some h)
  replace h := ed_neg q94_1 h
  by_cases q94_2 : x9 = 2
  · replace h := ed_pos q94_2 h
    obtain ⟨Q15, hQ15, h⟩ := bd1_ed h
    obtain ⟨M15, e15, h⟩ := h
    replace h := hQ15 _ h
    obtain ⟨Q16, hQ16, h⟩ := bd1_ed h
    obtain ⟨M16, e16, h⟩ := h
    replace h := hQ16 _ h
    exact J10 _ _ (fr_tr (fr_mono (by decide) (by decide +kernel) (f_HPen_drawBars_fr e16)) (fr_tr (fr_mono (by decide) (by decide +kernel) (f_HBars_layFigures_fr e15)) (fr_F (by decide) (fr_F (by decide) (fr_F (by decide) (fr_F (by decide) (fr_F (by decide) fr_refl))))))) (ed_some h)
  replace h := ed_neg q94_2 h
  by_cases q94_3 : x9 = 3
  · replace h := ed_pos q94_3 h
    obtain ⟨Q17, hQ17, h⟩ := bd1_ed h
    obtain ⟨x17, e17, h⟩ := h
    replace h := hQ17 _ h
    obtain ⟨Q18, hQ18, h⟩ := bd2_ed h
    obtain ⟨⟨x18, M18⟩, e18, h⟩ := h
    replace h := hQ18 _ _ h
    obtain ⟨Q19, hQ19, h⟩ := bd1_ed h
    obtain ⟨M19, e19, h⟩ := h
    replace h := hQ19 _ h
    exact J10 _ _ (fr_tr (fr_mono (by decide) (by decide +kernel) (f_HPen_drawSquare_fr e19)) (fr_tr (fr_mono (by decide) (by decide +kernel) (f_HGrid_make_fr e18)) (fr_F (by decide) (fr_F (by decide) (fr_F (by decide) (fr_F (by decide) (fr_F (by decide) fr_refl))))))) (ed_some h)
  replace h := ed_neg q94_3 h
  by_cases q94_4 : x9 = 4
  · replace h := ed_pos q94_4 h
    obtain ⟨Q20, hQ20, h⟩ := bd1_ed h
    obtain ⟨M20, e20, h⟩ := h
    replace h := hQ20 _ h
    exact J10 _ _ (fr_tr (fr_mono (by decide) (by decide +kernel) (f_HPen_drawFrame_fr e20)) (fr_F (by decide) (fr_F (by decide) (fr_F (by decide) (fr_F (by decide) (fr_F (by decide) fr_refl)))))) (ed_some h)
  replace h := ed_neg q94_4 h
  by_cases q94_5 : x9 = 5
  · replace h := ed_pos q94_5 h
    obtain ⟨Q21, hQ21, h⟩ := bd1_ed h
    obtain ⟨M21, e21, h⟩ := h
    replace h := hQ21 _ h
    exact J10 _ _ (fr_tr (fr_mono (by decide) (by decide +kernel) (f_HPen_drawEllipse_fr e21)) (fr_F (by decide) (fr_F (by decide) (fr_F (by decide) (fr_F (by decide) (fr_F (by decide) fr_refl)))))) (ed_some h)
  replace h := ed_neg q94_5 h
  by_cases q94_6 : x9 = 6
  · replace h := ed_pos q94_6 h
    obtain ⟨Q22, hQ22, h⟩ := bd1_ed h
    obtain ⟨M22, e22, h⟩ := h
    replace h := hQ22 _ h
    exact J10 _ _ (fr_tr (fr_mono (by decide) (by decide +kernel) (f_HPen_drawLine_fr e22)) (fr_F (by decide) (fr_F (by decide) (fr_F (by decide) (fr_F (by decide) (fr_F (by decide) fr_refl)))))) (ed_some h)
  replace h := ed_neg q94_6 h
  obtain ⟨Q23, hQ23, h⟩ := bd1_ed h
  obtain ⟨M23, e23, h⟩ := h
  replace h := hQ23 _ h
  exact J10 _ _ (fr_tr (fr_mono (by decide) (by decide +kernel) (f_HPen_drawPicture_fr e23)) (fr_F (by decide) (fr_F (by decide) (fr_F (by decide) (fr_F (by decide) (fr_F (by decide) fr_refl)))))) (ed_some h)
noncomputable def f_H_print_L98 (w : Bool) (v3 : Int32) (x4 : Int32) (x5 : Int32) (M6 : im_M) : Option ((Int32 × Int32 × im_M) ⊕ (Int32 × im_M)) := if (im_i M6 0 9) ≤ x5 then some (.inr (x4, M6)) else bd2 (f_HPen_follow w (v3 + x5) M6) fun (x7 : Int32) (M7 : im_M) => gd (inb x5 120) <| gd (inb x5 120) <| some (.inl (((if (im_i (im_setI M7 66 (Int32.toNatClampNeg x5) x7) 66 (Int32.toNatClampNeg x5)) = (-1) then x4 else (x4 + 1)) : Int32), (x5 + 1), (im_setI M7 66 (Int32.toNatClampNeg x5) x7)))
noncomputable def f_H_print (w : Bool) (p0 : Int32) (M : im_M) : Option (Int32 × im_M) := if p0 < 0 then none else if p0 < (im_i M 15 4) then gd (inb ((4 : Int32) * p0) 48) <| gd (inb (((4 : Int32) * p0) + 1) 48) <| bd1 (f_HSheet_renew w (im_i M 16 (Int32.toNatClampNeg ((4 : Int32) * p0))) (im_i M 16 (Int32.toNatClampNeg (((4 : Int32) * p0) + 1))) M) fun (M1 : im_M) => gd (inb (((4 : Int32) * p0) + 2) 48) <| gd (inb (((4 : Int32) * p0) + 3) 48) <| bd2 (lp (uc3 (f_H_print_L98 w (im_i (im_setI M1 59 0 0) 16 (Int32.toNatClampNeg (((4 : Int32) * p0) + 2))))) (0, 0, (im_setI (im_setI M1 59 0 0) 0 9 (im_i (im_setI M1 59 0 0) 16 (Int32.toNatClampNeg (((4 : Int32) * p0) + 3)))))) fun (y9 : Int32) (M10 : im_M) => some (y9, M10) else none
theorem J_H_print_d23 : decode J_H_print.2.1 23 = .ok (.aload_n 0, 1) := by decide +kernel
theorem J_H_print_d24 : decode J_H_print.2.1 24 = .ok (.getfield 37, 3) := by decide +kernel
theorem J_H_print_d27 : decode J_H_print.2.1 27 = .ok (.aload_n 0, 1) := by decide +kernel
theorem J_H_print_d28 : decode J_H_print.2.1 28 = .ok (.getfield 30, 3) := by decide +kernel
theorem J_H_print_d31 : decode J_H_print.2.1 31 = .ok (.getfield 125, 3) := by decide +kernel
theorem J_H_print_d34 : decode J_H_print.2.1 34 = .ok (.iconst 4, 1) := by decide +kernel
theorem J_H_print_d35 : decode J_H_print.2.1 35 = .ok (.iload_n 1, 1) := by decide +kernel
theorem J_H_print_d36 : decode J_H_print.2.1 36 = .ok (.imul, 1) := by decide +kernel
theorem J_H_print_d37 : decode J_H_print.2.1 37 = .ok (.iaload, 1) := by decide +kernel
theorem J_H_print_d38 : decode J_H_print.2.1 38 = .ok (.aload_n 0, 1) := by decide +kernel
theorem J_H_print_d39 : decode J_H_print.2.1 39 = .ok (.getfield 30, 3) := by decide +kernel
theorem J_H_print_d42 : decode J_H_print.2.1 42 = .ok (.getfield 125, 3) := by decide +kernel
theorem J_H_print_d45 : decode J_H_print.2.1 45 = .ok (.iconst 4, 1) := by decide +kernel
theorem J_H_print_d46 : decode J_H_print.2.1 46 = .ok (.iload_n 1, 1) := by decide +kernel
theorem J_H_print_d47 : decode J_H_print.2.1 47 = .ok (.imul, 1) := by decide +kernel
theorem J_H_print_d48 : decode J_H_print.2.1 48 = .ok (.iconst 1, 1) := by decide +kernel
theorem J_H_print_d49 : decode J_H_print.2.1 49 = .ok (.iadd, 1) := by decide +kernel
theorem J_H_print_d50 : decode J_H_print.2.1 50 = .ok (.iaload, 1) := by decide +kernel
theorem J_H_print_d51 : decode J_H_print.2.1 51 = .ok (.invokevirtual 142, 3) := by decide +kernel
theorem J_H_print_d54 : decode J_H_print.2.1 54 = .ok (.aload_n 0, 1) := by decide +kernel
theorem J_H_print_d55 : decode J_H_print.2.1 55 = .ok (.getfield 69, 3) := by decide +kernel
theorem J_H_print_d58 : decode J_H_print.2.1 58 = .ok (.iconst 0, 1) := by decide +kernel
theorem J_H_print_d59 : decode J_H_print.2.1 59 = .ok (.putfield 146, 3) := by decide +kernel
theorem J_H_print_d62 : decode J_H_print.2.1 62 = .ok (.aload_n 0, 1) := by decide +kernel
theorem J_H_print_d63 : decode J_H_print.2.1 63 = .ok (.getfield 30, 3) := by decide +kernel
theorem J_H_print_d66 : decode J_H_print.2.1 66 = .ok (.getfield 125, 3) := by decide +kernel
theorem J_H_print_d69 : decode J_H_print.2.1 69 = .ok (.iconst 4, 1) := by decide +kernel
theorem J_H_print_d70 : decode J_H_print.2.1 70 = .ok (.iload_n 1, 1) := by decide +kernel
theorem J_H_print_d71 : decode J_H_print.2.1 71 = .ok (.imul, 1) := by decide +kernel
theorem J_H_print_d72 : decode J_H_print.2.1 72 = .ok (.iconst 2, 1) := by decide +kernel
theorem J_H_print_d73 : decode J_H_print.2.1 73 = .ok (.iadd, 1) := by decide +kernel
theorem J_H_print_d74 : decode J_H_print.2.1 74 = .ok (.iaload, 1) := by decide +kernel
theorem J_H_print_d75 : decode J_H_print.2.1 75 = .ok (.istore_n 2, 1) := by decide +kernel
theorem J_H_print_d76 : decode J_H_print.2.1 76 = .ok (.aload_n 0, 1) := by decide +kernel
theorem J_H_print_d77 : decode J_H_print.2.1 77 = .ok (.aload_n 0, 1) := by decide +kernel
theorem J_H_print_d78 : decode J_H_print.2.1 78 = .ok (.getfield 30, 3) := by decide +kernel
theorem J_H_print_d81 : decode J_H_print.2.1 81 = .ok (.getfield 125, 3) := by decide +kernel
theorem J_H_print_d84 : decode J_H_print.2.1 84 = .ok (.iconst 4, 1) := by decide +kernel
theorem J_H_print_d85 : decode J_H_print.2.1 85 = .ok (.iload_n 1, 1) := by decide +kernel
theorem J_H_print_d86 : decode J_H_print.2.1 86 = .ok (.imul, 1) := by decide +kernel
theorem J_H_print_d87 : decode J_H_print.2.1 87 = .ok (.iconst 3, 1) := by decide +kernel
theorem J_H_print_d88 : decode J_H_print.2.1 88 = .ok (.iadd, 1) := by decide +kernel
theorem J_H_print_d89 : decode J_H_print.2.1 89 = .ok (.iaload, 1) := by decide +kernel
theorem J_H_print_d90 : decode J_H_print.2.1 90 = .ok (.putfield 149, 3) := by decide +kernel
theorem J_H_print_d93 : decode J_H_print.2.1 93 = .ok (.iconst 0, 1) := by decide +kernel
theorem J_H_print_d94 : decode J_H_print.2.1 94 = .ok (.istore_n 3, 1) := by decide +kernel
theorem J_H_print_d95 : decode J_H_print.2.1 95 = .ok (.iconst 0, 1) := by decide +kernel
theorem J_H_print_d96 : decode J_H_print.2.1 96 = .ok (.istore 4, 2) := by decide +kernel
theorem J_H_print_d98 : decode J_H_print.2.1 98 = .ok (.iload 4, 2) := by decide +kernel
theorem J_H_print_d100 : decode J_H_print.2.1 100 = .ok (.aload_n 0, 1) := by decide +kernel
theorem J_H_print_d101 : decode J_H_print.2.1 101 = .ok (.getfield 149, 3) := by decide +kernel
theorem J_H_print_d104 : decode J_H_print.2.1 104 = .ok (.if_icmp .ge 45, 3) := by decide +kernel
theorem J_H_print_d107 : decode J_H_print.2.1 107 = .ok (.aload_n 0, 1) := by decide +kernel
theorem J_H_print_d108 : decode J_H_print.2.1 108 = .ok (.getfield 73, 3) := by decide +kernel
theorem J_H_print_d111 : decode J_H_print.2.1 111 = .ok (.iload 4, 2) := by decide +kernel
theorem J_H_print_d113 : decode J_H_print.2.1 113 = .ok (.aload_n 0, 1) := by decide +kernel
theorem J_H_print_d114 : decode J_H_print.2.1 114 = .ok (.getfield 60, 3) := by decide +kernel
theorem J_H_print_d117 : decode J_H_print.2.1 117 = .ok (.aload_n 0, 1) := by decide +kernel
theorem J_H_print_d118 : decode J_H_print.2.1 118 = .ok (.getfield 21, 3) := by decide +kernel
theorem J_H_print_d121 : decode J_H_print.2.1 121 = .ok (.iload_n 2, 1) := by decide +kernel
theorem J_H_print_d122 : decode J_H_print.2.1 122 = .ok (.iload 4, 2) := by decide +kernel
theorem J_H_print_d124 : decode J_H_print.2.1 124 = .ok (.iadd, 1) := by decide +kernel
theorem J_H_print_d125 : decode J_H_print.2.1 125 = .ok (.invokevirtual 152, 3) := by decide +kernel
theorem J_H_print_d128 : decode J_H_print.2.1 128 = .ok (.iastore, 1) := by decide +kernel
theorem J_H_print_d129 : decode J_H_print.2.1 129 = .ok (.aload_n 0, 1) := by decide +kernel
theorem J_H_print_d130 : decode J_H_print.2.1 130 = .ok (.getfield 73, 3) := by decide +kernel
theorem J_H_print_d133 : decode J_H_print.2.1 133 = .ok (.iload 4, 2) := by decide +kernel
theorem J_H_print_d135 : decode J_H_print.2.1 135 = .ok (.iaload, 1) := by decide +kernel
theorem J_H_print_d136 : decode J_H_print.2.1 136 = .ok (.iconst (-1), 1) := by decide +kernel
theorem J_H_print_d137 : decode J_H_print.2.1 137 = .ok (.if_icmp .eq 6, 3) := by decide +kernel
theorem J_H_print_d140 : decode J_H_print.2.1 140 = .ok (.iinc 3 1, 3) := by decide +kernel
theorem J_H_print_d143 : decode J_H_print.2.1 143 = .ok (.iinc 4 1, 3) := by decide +kernel
theorem J_H_print_d146 : decode J_H_print.2.1 146 = .ok (.goto (-48), 3) := by decide +kernel
theorem J_H_print_d149 : decode J_H_print.2.1 149 = .ok (.iload_n 3, 1) := by decide +kernel
theorem J_H_print_d150 : decode J_H_print.2.1 150 = .ok (.ireturn, 1) := by decide +kernel
theorem f_H_print_ok {L : Nat} {xs : Nat → Int32} {dep : Nat} {w : Bool} {p0 : Int32} {M : im_M} {Q : Int32 × im_M → Prop} (hM : lw_S w M) (h : ed (f_H_print w p0 M) Q) : ia (tb_G L xs) (dep + 10) J_H_print (rwI w Q) (0, lv_args 0 [.ref 0, .int p0], [], M) := by
  have hS : im_St (tb_G L xs) (dep + 10) J_H_print (ia (tb_G L xs) (dep + 10) J_H_print (rwI w Q)) := ia_St
  unfold f_H_print at h
  have l0 : im_lk (lv_args 0 [.ref 0, .int p0]) 0 = some (.ref 0) := rfl
  have l1 : im_lk (lv_args 0 [.ref 0, .int p0]) 1 = some (.int p0) := rfl
  refine iq_iload_n hS 1 J_H_print_d0 l1 rfl ?_
  refine iq_if_lt hS 4 J_H_print_d1 (t := 15) rfl (fun q1 => ?_) rfl (fun q1 => ?_)
  · replace h := ed_pos q1 h
    exact (ed_none h).elim
  · replace h := ed_neg q1 h
    refine iq_iload_n hS 5 J_H_print_d4 l1 rfl ?_
    refine iq_aload_n hS 6 J_H_print_d5 l0 rfl ?_
    refine iq_getR hS 9 J_H_print_d6 lf_11_30 (Or.inl ⟨_, rfl⟩) (ka_0 hM) (ra_0_2 hM) rfl ?_
    refine iq_getI hS 12 J_H_print_d9 lf_11_122 (Or.inl rfl) (ka_15 hM) rfl ?_
    refine iq_icmp_lt hS 15 J_H_print_d12 (t := 23) rfl (fun q12 => ?_) rfl (fun q12 => ?_)
    · replace h := ed_pos q12 h
      refine iq_aload_n hS 24 J_H_print_d23 l0 rfl ?_
      refine iq_getR hS 27 J_H_print_d24 lf_11_37 (Or.inl ⟨_, rfl⟩) (ka_0 hM) (ra_0_3 hM) rfl ?_
      refine iq_aload_n hS 28 J_H_print_d27 l0 rfl ?_
      refine iq_getR hS 31 J_H_print_d28 lf_11_30 (Or.inl ⟨_, rfl⟩) (ka_0 hM) (ra_0_2 hM) rfl ?_
      refine iq_getR hS 34 J_H_print_d31 lf_11_125 (Or.inr ⟨_, rfl⟩) (ka_15 hM) (ra_15_5 hM) rfl ?_
      refine iq_iconst hS 35 J_H_print_d34 (v := 4) (by decide +kernel) rfl ?_
      refine iq_iload_n hS 36 J_H_print_d35 l1 rfl ?_
      refine iq_imul hS 37 J_H_print_d36 rfl ?_
      obtain ⟨g37, h⟩ := ed_gd h
      refine iq_iaload hS 38 J_H_print_d37 ⟨(ka_16 hM).1, (ka_16 hM).2, g37.1, ix_lt (kl_16 hM) g37.2⟩ rfl ?_
      refine iq_aload_n hS 39 J_H_print_d38 l0 rfl ?_
      refine iq_getR hS 42 J_H_print_d39 lf_11_30 (Or.inl ⟨_, rfl⟩) (ka_0 hM) (ra_0_2 hM) rfl ?_
      refine iq_getR hS 45 J_H_print_d42 lf_11_125 (Or.inr ⟨_, rfl⟩) (ka_15 hM) (ra_15_5 hM) rfl ?_
      refine iq_iconst hS 46 J_H_print_d45 (v := 4) (by decide +kernel) rfl ?_
      refine iq_iload_n hS 47 J_H_print_d46 l1 rfl ?_
      refine iq_imul hS 48 J_H_print_d47 rfl ?_
      refine iq_iconst hS 49 J_H_print_d48 (v := 1) (by decide +kernel) rfl ?_
      refine iq_iadd hS 50 J_H_print_d49 rfl ?_
      obtain ⟨g50, h⟩ := ed_gd h
      refine iq_iaload hS 51 J_H_print_d50 ⟨(ka_16 hM).1, (ka_16 hM).2, g50.1, ix_lt (kl_16 hM) g50.2⟩ rfl ?_
      obtain ⟨Q1, hQ1, h⟩ := bd1_ed h
      refine iq_cwV hS 54 J_H_print_d51 rfl (pr_inst (vs := [_, _]) lc_11_142 lT_106 rfl rfl (by decide) (by decide) rfl (Nat.le_of_ble_eq_true rfl) (Nat.le_of_ble_eq_true rfl) (fun _ => Or.inl (pr_b (ka_28 hM) (by decide) rfl))) (f_HSheet_renew_ok (dep := dep + 8) hM h) rfl ?_
      intro M1 hM1 h
      replace h := hQ1 _ h
      refine iq_aload_n hS 55 J_H_print_d54 l0 rfl ?_
      refine iq_getR hS 58 J_H_print_d55 lf_11_69 (Or.inl ⟨_, rfl⟩) (ka_0 hM1) (ra_0_7 hM1) rfl ?_
      refine iq_iconst hS 59 J_H_print_d58 (v := 0) (by decide +kernel) rfl ?_
      refine iq_putI hS 62 J_H_print_d59 lf_11_146 (Or.inl rfl) rfl (ka_59 hM1) rfl ?_
      refine iq_aload_n hS 63 J_H_print_d62 l0 rfl ?_
      refine iq_getR hS 66 J_H_print_d63 lf_11_30 (Or.inl ⟨_, rfl⟩) (ka_0 (lw_sI hM1)) (ra_0_2 (lw_sI hM1)) rfl ?_
      refine iq_getR hS 69 J_H_print_d66 lf_11_125 (Or.inr ⟨_, rfl⟩) (ka_15 (lw_sI hM1)) (ra_15_5 (lw_sI hM1)) rfl ?_
      refine iq_iconst hS 70 J_H_print_d69 (v := 4) (by decide +kernel) rfl ?_
      refine iq_iload_n hS 71 J_H_print_d70 l1 rfl ?_
      refine iq_imul hS 72 J_H_print_d71 rfl ?_
      refine iq_iconst hS 73 J_H_print_d72 (v := 2) (by decide +kernel) rfl ?_
      refine iq_iadd hS 74 J_H_print_d73 rfl ?_
      obtain ⟨g74, h⟩ := ed_gd h
      refine iq_iaload hS 75 J_H_print_d74 ⟨(ka_16 (lw_sI hM1)).1, (ka_16 (lw_sI hM1)).2, g74.1, ix_lt (kl_16 (lw_sI hM1)) g74.2⟩ rfl ?_
      refine iq_istore_n hS 76 J_H_print_d75 (by decide) rfl ?_
      refine iq_aload_n hS 77 J_H_print_d76 (lk_1r l0 (by decide)) rfl ?_
      refine iq_aload_n hS 78 J_H_print_d77 (lk_1r l0 (by decide)) rfl ?_
      refine iq_getR hS 81 J_H_print_d78 lf_11_30 (Or.inl ⟨_, rfl⟩) (ka_0 (lw_sI hM1)) (ra_0_2 (lw_sI hM1)) rfl ?_
      refine iq_getR hS 84 J_H_print_d81 lf_11_125 (Or.inr ⟨_, rfl⟩) (ka_15 (lw_sI hM1)) (ra_15_5 (lw_sI hM1)) rfl ?_
      refine iq_iconst hS 85 J_H_print_d84 (v := 4) (by decide +kernel) rfl ?_
      refine iq_iload_n hS 86 J_H_print_d85 (lk_1i l1 (by decide)) rfl ?_
      refine iq_imul hS 87 J_H_print_d86 rfl ?_
      refine iq_iconst hS 88 J_H_print_d87 (v := 3) (by decide +kernel) rfl ?_
      refine iq_iadd hS 89 J_H_print_d88 rfl ?_
      obtain ⟨g89, h⟩ := ed_gd h
      refine iq_iaload hS 90 J_H_print_d89 ⟨(ka_16 (lw_sI hM1)).1, (ka_16 (lw_sI hM1)).2, g89.1, ix_lt (kl_16 (lw_sI hM1)) g89.2⟩ rfl ?_
      refine iq_putI hS 93 J_H_print_d90 lf_11_149 (Or.inl rfl) rfl (ka_0 (lw_sI hM1)) rfl ?_
      refine iq_iconst hS 94 J_H_print_d93 (v := 0) (by decide +kernel) rfl ?_
      refine iq_istore_n hS 95 J_H_print_d94 (by decide) rfl ?_
      refine iq_iconst hS 96 J_H_print_d95 (v := 0) (by decide +kernel) rfl ?_
      refine iq_istore hS 98 J_H_print_d96 (by decide) rfl ?_
      obtain ⟨Q2, hQ2, h⟩ := bd2_ed h
      have K2 : ∀ (y3 : Int32) (M4 : im_M) (L' : List (Nat × Value)), lw_S w M4 → im_lk L' 3 = some (.int y3) → Q2 (y3, M4) → ia (tb_G L xs) (dep + 10) J_H_print (rwI w Q) (149, L', [], M4) := by
        intro y3 M4 L' hM4 l5 h
        replace h := hQ2 _ _ h
        refine iq_iload_n hS 150 J_H_print_d149 l5 rfl ?_
        exact iq_iret J_H_print_d150 rfl rfl ⟨_, rfl, hM4, ed_some h⟩
      obtain ⟨r2, hr2, hq2⟩ := h
      obtain ⟨n2, hn2⟩ := lp_n hr2
      have I2 : ∀ (n : Nat) (x6 : Int32) (x7 : Int32) (M8 : im_M) (L' : List (Nat × Value)), lw_S w M8 → im_lk L' 0 = some (.ref 0) → im_lk L' 2 = some (.int (im_i (im_setI M1 59 0 0) 16 (Int32.toNatClampNeg (((4 : Int32) * p0) + 2)))) → im_lk L' 3 = some (.int x6) → im_lk L' 4 = some (.int x7) → lpn (uc3 (f_H_print_L98 w (im_i (im_setI M1 59 0 0) 16 (Int32.toNatClampNeg (((4 : Int32) * p0) + 2))))) n (x6, x7, M8) = some r2 → ia (tb_G L xs) (dep + 10) J_H_print (rwI w Q) (98, L', [], M8) := by
        intro n
        induction n with
        | zero => intro x6 x7 M8 L' hM8 l9 l10 l11 l12 hn; exact (lpn_0 hn).elim
        | succ n ih =>
          intro x6 x7 M8 L' hM8 l9 l10 l11 l12 hn
          have h := lpn_ed3 hn
          unfold f_H_print_L98 at h
          refine iq_iload hS 100 J_H_print_d98 l12 rfl ?_
          refine iq_aload_n hS 101 J_H_print_d100 l9 rfl ?_
          refine iq_getI hS 104 J_H_print_d101 lf_11_149 (Or.inl rfl) (ka_0 hM8) rfl ?_
          refine iq_icmp_ge hS 107 J_H_print_d104 (t := 149) rfl (fun q104 => ?_) rfl (fun q104 => ?_)
          · replace h := ed_pos q104 h
            exact K2 _ _ _ hM8 l11 (lq_r h hq2)
          · replace h := ed_neg q104 h
            refine iq_aload_n hS 108 J_H_print_d107 l9 rfl ?_
            refine iq_getR hS 111 J_H_print_d108 lf_11_73 (Or.inr ⟨_, rfl⟩) (ka_0 hM8) (ra_0_8 hM8) rfl ?_
            refine iq_iload hS 113 J_H_print_d111 l12 rfl ?_
            refine iq_aload_n hS 114 J_H_print_d113 l9 rfl ?_
            refine iq_getR hS 117 J_H_print_d114 lf_11_60 (Or.inl ⟨_, rfl⟩) (ka_0 hM8) (ra_0_4 hM8) rfl ?_
            refine iq_aload_n hS 118 J_H_print_d117 l9 rfl ?_
            refine iq_getR hS 121 J_H_print_d118 lf_11_21 (Or.inl ⟨_, rfl⟩) (ka_0 hM8) (ra_0_1 hM8) rfl ?_
            refine iq_iload_n hS 122 J_H_print_d121 l10 rfl ?_
            refine iq_iload hS 124 J_H_print_d122 l12 rfl ?_
            refine iq_iadd hS 125 J_H_print_d124 rfl ?_
            obtain ⟨Q13, hQ13, h⟩ := bd2_ed h
            refine iq_cwI hS 128 J_H_print_d125 rfl (pr_inst (vs := [_, _]) lc_11_152 lT_108 rfl rfl (by decide) (by decide) rfl (Nat.le_of_ble_eq_true rfl) (Nat.le_of_ble_eq_true rfl) (fun _ => Or.inl (pr_b (ka_56 hM8) (by decide) rfl))) (f_HPen_follow_ok (dep := dep + 0) hM8 h) rfl ?_
            intro x13 M13 hM13 h
            replace h := hQ13 _ _ h
            obtain ⟨g128, h⟩ := ed_gd h
            refine iq_iastore hS 129 J_H_print_d128 ⟨(ka_66 hM13).1, (ka_66 hM13).2, g128.1, ix_lt (kl_66 hM13) g128.2⟩ rfl ?_
            refine iq_aload_n hS 130 J_H_print_d129 l9 rfl ?_
            refine iq_getR hS 133 J_H_print_d130 lf_11_73 (Or.inr ⟨_, rfl⟩) (ka_0 (lw_sI hM13)) (ra_0_8 (lw_sI hM13)) rfl ?_
            refine iq_iload hS 135 J_H_print_d133 l12 rfl ?_
            obtain ⟨g135, h⟩ := ed_gd h
            refine iq_iaload hS 136 J_H_print_d135 ⟨(ka_66 (lw_sI hM13)).1, (ka_66 (lw_sI hM13)).2, g135.1, ix_lt (kl_66 (lw_sI hM13)) g135.2⟩ rfl ?_
            refine iq_iconst hS 137 J_H_print_d136 (v := (-1)) (by decide +kernel) rfl ?_
            have J14 : ∀ (z15 : Int32) (L' : List (Nat × Value)), z15 = ((if (im_i (im_setI M13 66 (Int32.toNatClampNeg x7) x13) 66 (Int32.toNatClampNeg x7)) = (-1) then x6 else (x6 + 1)) : Int32) → im_lk L' 0 = some (.ref 0) → im_lk L' 2 = some (.int (im_i (im_setI M1 59 0 0) 16 (Int32.toNatClampNeg (((4 : Int32) * p0) + 2)))) → im_lk L' 3 = some (.int z15) → im_lk L' 4 = some (.int x7) → ia (tb_G L xs) (dep + 10) J_H_print (rwI w Q) (143, L', [], (im_setI M13 66 (Int32.toNatClampNeg x7) x13)) := by
              intro z15 L' e16 l17 l18 l19 l20
              subst e16
              refine iq_iincv hS 146 J_H_print_d143 (c := 1) (by decide +kernel) l20 (by decide) rfl ?_
              refine iq_goto hS J_H_print_d146 (t := 98) rfl ?_
              exact ih _ _ _ _ (lw_sI hM13) (lk_1r l17 (by decide)) (lk_1i l18 (by decide)) (lk_1i l19 (by decide)) lk_1s (lq_l h)
            refine iq_icmp_eq hS 140 J_H_print_d137 (t := 143) rfl (fun q137 => ?_) rfl (fun q137 => ?_)
            · exact J14 _ _ (by simp only [if_pos q137]) l9 l10 l11 l12
            · refine iq_iincv hS 143 J_H_print_d140 (c := 1) (by decide +kernel) l11 (by decide) rfl ?_
              exact J14 _ _ (by simp only [if_neg q137]) (lk_1r l9 (by decide)) (lk_1i l10 (by decide)) lk_1s (lk_1i l12 (by decide))
      exact I2 n2 _ _ _ _ (lw_sI (lw_sI hM1)) (lk_1r (lk_1r (lk_1r l0 (by decide)) (by decide)) (by decide)) (lk_1i (lk_1i lk_1s (by decide)) (by decide)) (lk_1i lk_1s (by decide)) lk_1s hn2
    · replace h := ed_neg q12 h
      exact (ed_none h).elim
theorem f_H_print_fr {w : Bool} {p0 : Int32} {M : im_M} {r : Int32 × im_M} (h : f_H_print w p0 M = some r) : fr 73841467259497742336 [(0, 9), (28, 0), (28, 1), (28, 2), (28, 3), (31, 2), (31, 6), (31, 9), (38, 1), (38, 3), (38, 6), (39, 5), (43, 10), (43, 11), (43, 12), (43, 13), (56, 5), (56, 6), (56, 7), (59, 0)] M r.2 := by
  replace h : ed (f_H_print w p0 M) (fun x => x = r) := ⟨r, h, rfl⟩
  unfold f_H_print at h
  by_cases q1 : p0 < 0
  · replace h := ed_pos q1 h
    exact (ed_none h).elim
  · replace h := ed_neg q1 h
    by_cases q12 : p0 < (im_i M 15 4)
    · replace h := ed_pos q12 h
      obtain ⟨g37, h⟩ := ed_gd h
      obtain ⟨g50, h⟩ := ed_gd h
      obtain ⟨Q1, hQ1, h⟩ := bd1_ed h
      obtain ⟨M1, e1, h⟩ := h
      replace h := hQ1 _ h
      obtain ⟨g74, h⟩ := ed_gd h
      obtain ⟨g89, h⟩ := ed_gd h
      obtain ⟨Q2, hQ2, h⟩ := bd2_ed h
      have K2 : ∀ (y3 : Int32) (M4 : im_M), fr 73841467259497742336 [(0, 9), (28, 0), (28, 1), (28, 2), (28, 3), (31, 2), (31, 6), (31, 9), (38, 1), (38, 3), (38, 6), (39, 5), (43, 10), (43, 11), (43, 12), (43, 13), (56, 5), (56, 6), (56, 7), (59, 0)] M M4 → Q2 (y3, M4) → fr 73841467259497742336 [(0, 9), (28, 0), (28, 1), (28, 2), (28, 3), (31, 2), (31, 6), (31, 9), (38, 1), (38, 3), (38, 6), (39, 5), (43, 10), (43, 11), (43, 12), (43, 13), (56, 5), (56, 6), (56, 7), (59, 0)] M r.2 := by
        intro y3 M4 hM4 h
        replace h := hQ2 _ _ h
        exact fr_ret h hM4
      obtain ⟨r2, hr2, hq2⟩ := h
      obtain ⟨n2, hn2⟩ := lp_n hr2
      have I2 : ∀ (n : Nat) (x5 : Int32) (x6 : Int32) (M7 : im_M), fr 73841467259497742336 [(0, 9), (28, 0), (28, 1), (28, 2), (28, 3), (31, 2), (31, 6), (31, 9), (38, 1), (38, 3), (38, 6), (39, 5), (43, 10), (43, 11), (43, 12), (43, 13), (56, 5), (56, 6), (56, 7), (59, 0)] M M7 → lpn (uc3 (f_H_print_L98 w (im_i (im_setI M1 59 0 0) 16 (Int32.toNatClampNeg (((4 : Int32) * p0) + 2))))) n (x5, x6, M7) = some r2 → fr 73841467259497742336 [(0, 9), (28, 0), (28, 1), (28, 2), (28, 3), (31, 2), (31, 6), (31, 9), (38, 1), (38, 3), (38, 6), (39, 5), (43, 10), (43, 11), (43, 12), (43, 13), (56, 5), (56, 6), (56, 7), (59, 0)] M r.2 := by
        intro n
        induction n with
        | zero => intro x5 x6 M7 hM7 hn; exact (lpn_0 hn).elim
        | succ n ih =>
          intro x5 x6 M7 hM7 hn
          have h := lpn_ed3 hn
          unfold f_H_print_L98 at h
          by_cases q104 : (im_i M7 0 9) ≤ x6
          · replace h := ed_pos q104 h
            exact K2 _ _ hM7 (lq_r h hq2)
          · replace h := ed_neg q104 h
            obtain ⟨Q8, hQ8, h⟩ := bd2_ed h
            obtain ⟨⟨x8, M8⟩, e8, h⟩ := h
            replace h := hQ8 _ _ h
            obtain ⟨g128, h⟩ := ed_gd h
            obtain ⟨g135, h⟩ := ed_gd h
            exact ih _ _ _ (fr_I (by decide) (fr_tr (fr_mono (by decide) (by decide +kernel) (f_HPen_follow_fr e8)) hM7)) (lq_l h)
      exact I2 n2 _ _ _ (fr_F (by decide) (fr_F (by decide) (fr_tr (fr_mono (by decide) (by decide +kernel) (f_HSheet_renew_fr e1)) fr_refl))) hn2
    · replace h := ed_neg q12 h
      exact (ed_none h).elim
noncomputable def f_Arrays_fill2_1_L6 (w : Bool) (v2 : Int64) (v3 : Int32) (x4 : Int32) (M5 : im_M) : Option ((Int32 × im_M) ⊕ (im_M)) := if v3 ≤ x4 then some (.inr M5) else gd (inb x4 4096) <| some (.inl ((x4 + 1), (im_setL M5 (ss w) (Int32.toNatClampNeg x4) v2)))
noncomputable def f_Arrays_fill2_1 (w : Bool) (p1 : Int64) (M : im_M) : Option (im_M) := bd1 (lp (uc2 (f_Arrays_fill2_1_L6 w p1 4096)) (0, M)) fun (M6 : im_M) => some M6
theorem f_Arrays_fill2_1_ok {L : Nat} {xs : Nat → Int32} {dep : Nat} {w : Bool} {p1 : Int64} {M : im_M} {Q : im_M → Prop} (hM : lw_S w M) (h : ed (f_Arrays_fill2_1 w p1 M) Q) : ia (tb_G L xs) dep J_Arrays_fill2 (rwV w Q) (0, lv_args 0 [.ref (ss w), .long p1], [], M) := by
  have hS : im_St (tb_G L xs) dep J_Arrays_fill2 (ia (tb_G L xs) dep J_Arrays_fill2 (rwV w Q)) := ia_St
  unfold f_Arrays_fill2_1 at h
  have l0 : im_lk (lv_args 0 [.ref (ss w), .long p1]) 0 = some (.ref (ss w)) := rfl
  have l1 : im_lk (lv_args 0 [.ref (ss w), .long p1]) 1 = some (.long p1) := rfl
  refine iq_iconst hS 1 J_Arrays_fill2_d0 (v := 0) (by decide +kernel) rfl ?_
  refine iq_istore_n hS 2 J_Arrays_fill2_d1 (by decide) rfl ?_
  refine iq_aload_n hS 3 J_Arrays_fill2_d2 (lk_1r l0 (by decide)) rfl ?_
  refine iq_alenv hS 4 J_Arrays_fill2_d3 (v := 4096) (ka_ss hM) (by decide) (by decide) (kl_ss hM) (by decide +kernel) rfl ?_
  refine iq_istore hS 6 J_Arrays_fill2_d4 (by decide) rfl ?_
  obtain ⟨Q1, hQ1, h⟩ := bd1_ed h
  have K1 : ∀ (M2 : im_M) (L' : List (Nat × Value)), lw_S w M2 → Q1 M2 → ia (tb_G L xs) dep J_Arrays_fill2 (rwV w Q) (22, L', [], M2) := by
    intro M2 L' hM2  h
    replace h := hQ1 _ h
    exact iq_ret J_Arrays_fill2_d22 rfl ⟨rfl, hM2, ed_some h⟩
  obtain ⟨r1, hr1, hq1⟩ := h
  obtain ⟨n1, hn1⟩ := lp_n hr1
  have I1 : ∀ (n : Nat) (x3 : Int32) (M4 : im_M) (L' : List (Nat × Value)), lw_S w M4 → im_lk L' 0 = some (.ref (ss w)) → im_lk L' 1 = some (.long p1) → im_lk L' 3 = some (.int x3) → im_lk L' 4 = some (.int 4096) → lpn (uc2 (f_Arrays_fill2_1_L6 w p1 4096)) n (x3, M4) = some r1 → ia (tb_G L xs) dep J_Arrays_fill2 (rwV w Q) (6, L', [], M4) := by
    intro n
    induction n with
    | zero => intro x3 M4 L' hM4 l5 l6 l7 l8 hn; exact (lpn_0 hn).elim
    | succ n ih =>
      intro x3 M4 L' hM4 l5 l6 l7 l8 hn
      have h := lpn_ed2 hn
      unfold f_Arrays_fill2_1_L6 at h
      refine iq_iload_n hS 7 J_Arrays_fill2_d6 l7 rfl ?_
      refine iq_iload hS 9 J_Arrays_fill2_d7 l8 rfl ?_
      refine iq_icmp_ge hS 12 J_Arrays_fill2_d9 (t := 22) rfl (fun q9 => ?_) rfl (fun q9 => ?_)
      · replace h := ed_pos q9 h
        exact K1 _ _ hM4  (lq_r h hq1)
      · replace h := ed_neg q9 h
        refine iq_aload_n hS 13 J_Arrays_fill2_d12 l5 rfl ?_
        refine iq_iload_n hS 14 J_Arrays_fill2_d13 l7 rfl ?_
        refine iq_lload_n hS 15 J_Arrays_fill2_d14 l6 rfl ?_
        obtain ⟨g15, h⟩ := ed_gd h
        refine iq_lastore hS 16 J_Arrays_fill2_d15 ⟨(ka_ss hM4).1, (ka_ss hM4).2, g15.1, ix_lt (kl_ss hM4) g15.2⟩ rfl ?_
        refine iq_iincv hS 19 J_Arrays_fill2_d16 (c := 1) (by decide +kernel) l7 (by decide) rfl ?_
        refine iq_goto hS J_Arrays_fill2_d19 (t := 6) rfl ?_
        exact ih _ _ _ (lw_sL hM4) (lk_1r l5 (by decide)) (lk_1l l6 (by decide) (by decide)) lk_1s (lk_1i l8 (by decide)) (lq_l h)
  exact I1 n1 _ _ _ hM (lk_1r (lk_1r l0 (by decide)) (by decide)) (lk_1l (lk_1l l1 (by decide) (by decide)) (by decide) (by decide)) (lk_1i lk_1s (by decide)) lk_1s hn1
theorem f_Arrays_fill2_1_fr {w : Bool} {p1 : Int64} {M : im_M} {r : im_M} (h : f_Arrays_fill2_1 w p1 M = some r) : fr 1610612736 [] M r := by
  replace h : ed (f_Arrays_fill2_1 w p1 M) (fun x => x = r) := ⟨r, h, rfl⟩
  unfold f_Arrays_fill2_1 at h
  obtain ⟨Q1, hQ1, h⟩ := bd1_ed h
  have K1 : ∀ (M2 : im_M), fr 1610612736 [] M M2 → Q1 M2 → fr 1610612736 [] M r := by
    intro M2 hM2 h
    replace h := hQ1 _ h
    exact fr_retV h hM2
  obtain ⟨r1, hr1, hq1⟩ := h
  obtain ⟨n1, hn1⟩ := lp_n hr1
  have I1 : ∀ (n : Nat) (x3 : Int32) (M4 : im_M), fr 1610612736 [] M M4 → lpn (uc2 (f_Arrays_fill2_1_L6 w p1 4096)) n (x3, M4) = some r1 → fr 1610612736 [] M r := by
    intro n
    induction n with
    | zero => intro x3 M4 hM4 hn; exact (lpn_0 hn).elim
    | succ n ih =>
      intro x3 M4 hM4 hn
      have h := lpn_ed2 hn
      unfold f_Arrays_fill2_1_L6 at h
      by_cases q9 : 4096 ≤ x3
      · replace h := ed_pos q9 h
        exact K1 _ hM4 (lq_r h hq1)
      · replace h := ed_neg q9 h
        obtain ⟨g15, h⟩ := ed_gd h
        exact ih _ _ (fr_L (by cases w <;> decide) hM4) (lq_l h)
  exact I1 n1 _ _ fr_refl hn1
noncomputable def f_HSheet_rotateWord_L16 (w : Bool) (v2 : Int32) (v3 : Int32) (v4 : Int32) (v5 : Int64) (x6 : Int32) (M7 : im_M) : Option ((Int32 × im_M) ⊕ (im_M)) := if 64 ≤ x6 then some (.inr M7) else bd1 (if (lg_cmp ((Int64.toUInt64 v5 >>> ((Int32.toInt64 x6).toUInt64 &&& Int64.toUInt64 63)).toInt64 &&& 1) 0) = 0 then some M7 else gd (inb ((((if ¬ v4 = 1 then (if ¬ v4 = 2 then (((im_i M7 28 0) - 1) - (((64 : Int32) * v2) + x6)) else (((im_i M7 28 1) - 1) - v3)) else (((64 : Int32) * v2) + x6)) : Int32) * 8) + (((if ¬ v4 = 1 then (if ¬ v4 = 2 then v3 else (((im_i M7 28 0) - 1) - (((64 : Int32) * v2) + x6))) else (((im_i M7 28 1) - 1) - v3)) : Int32) >>> (6 &&& 31 : Int32) : Int32)) 4096) <| gd (inb ((((if ¬ v4 = 1 then (if ¬ v4 = 2 then (((im_i M7 28 0) - 1) - (((64 : Int32) * v2) + x6)) else (((im_i M7 28 1) - 1) - v3)) else (((64 : Int32) * v2) + x6)) : Int32) * 8) + (((if ¬ v4 = 1 then (if ¬ v4 = 2 then v3 else (((im_i M7 28 0) - 1) - (((64 : Int32) * v2) + x6))) else (((im_i M7 28 1) - 1) - v3)) : Int32) >>> (6 &&& 31 : Int32) : Int32)) 4096) <| some (im_setL M7 (ss w) (Int32.toNatClampNeg ((((if ¬ v4 = 1 then (if ¬ v4 = 2 then (((im_i M7 28 0) - 1) - (((64 : Int32) * v2) + x6)) else (((im_i M7 28 1) - 1) - v3)) else (((64 : Int32) * v2) + x6)) : Int32) * 8) + (((if ¬ v4 = 1 then (if ¬ v4 = 2 then v3 else (((im_i M7 28 0) - 1) - (((64 : Int32) * v2) + x6))) else (((im_i M7 28 1) - 1) - v3)) : Int32) >>> (6 &&& 31 : Int32) : Int32))) ((im_l M7 (ss w) (Int32.toNatClampNeg ((((if ¬ v4 = 1 then (if ¬ v4 = 2 then (((im_i M7 28 0) - 1) - (((64 : Int32) * v2) + x6)) else (((im_i M7 28 1) - 1) - v3)) else (((64 : Int32) * v2) + x6)) : Int32) * 8) + (((if ¬ v4 = 1 then (if ¬ v4 = 2 then v3 else (((im_i M7 28 0) - 1) - (((64 : Int32) * v2) + x6))) else (((im_i M7 28 1) - 1) - v3)) : Int32) >>> (6 &&& 31 : Int32) : Int32)))) ||| ((1 : Int64) <<< (Int32.toInt64 (((if ¬ v4 = 1 then (if ¬ v4 = 2 then v3 else (((im_i M7 28 0) - 1) - (((64 : Int32) * v2) + x6))) else (((im_i M7 28 1) - 1) - v3)) : Int32) &&& 63) &&& 63) : Int64)))) fun (M11 : im_M) => some (.inl ((x6 + 1), M11))
noncomputable def f_HSheet_rotateWord (w : Bool) (p0 : Int32) (p1 : Int32) (p2 : Int32) (M : im_M) : Option (im_M) := gd (inb ((p1 * 8) + p0) 4096) <| bd1 (lp (uc2 (f_HSheet_rotateWord_L16 w p0 p1 p2 (im_l M (sw w) (Int32.toNatClampNeg ((p1 * 8) + p0))))) (0, M)) fun (M18 : im_M) => some M18
theorem J_HSheet_rotateWord_d0 : decode J_HSheet_rotateWord.2.1 0 = .ok (.aload_n 0, 1) := by decide +kernel
theorem J_HSheet_rotateWord_d1 : decode J_HSheet_rotateWord.2.1 1 = .ok (.getfield 18, 3) := by decide +kernel
theorem J_HSheet_rotateWord_d4 : decode J_HSheet_rotateWord.2.1 4 = .ok (.iload_n 2, 1) := by decide +kernel
theorem J_HSheet_rotateWord_d5 : decode J_HSheet_rotateWord.2.1 5 = .ok (.bipush 8, 2) := by decide +kernel
theorem J_HSheet_rotateWord_d7 : decode J_HSheet_rotateWord.2.1 7 = .ok (.imul, 1) := by decide +kernel
theorem J_HSheet_rotateWord_d8 : decode J_HSheet_rotateWord.2.1 8 = .ok (.iload_n 1, 1) := by decide +kernel
theorem J_HSheet_rotateWord_d9 : decode J_HSheet_rotateWord.2.1 9 = .ok (.iadd, 1) := by decide +kernel
theorem J_HSheet_rotateWord_d10 : decode J_HSheet_rotateWord.2.1 10 = .ok (.laload, 1) := by decide +kernel
theorem J_HSheet_rotateWord_d11 : decode J_HSheet_rotateWord.2.1 11 = .ok (.lstore 4, 2) := by decide +kernel
theorem J_HSheet_rotateWord_d13 : decode J_HSheet_rotateWord.2.1 13 = .ok (.iconst 0, 1) := by decide +kernel
theorem J_HSheet_rotateWord_d14 : decode J_HSheet_rotateWord.2.1 14 = .ok (.istore 6, 2) := by decide +kernel
theorem J_HSheet_rotateWord_d16 : decode J_HSheet_rotateWord.2.1 16 = .ok (.iload 6, 2) := by decide +kernel
theorem J_HSheet_rotateWord_d18 : decode J_HSheet_rotateWord.2.1 18 = .ok (.bipush 64, 2) := by decide +kernel
theorem J_HSheet_rotateWord_d20 : decode J_HSheet_rotateWord.2.1 20 = .ok (.if_icmp .ge 129, 3) := by decide +kernel
theorem J_HSheet_rotateWord_d23 : decode J_HSheet_rotateWord.2.1 23 = .ok (.lload 4, 2) := by decide +kernel
theorem J_HSheet_rotateWord_d25 : decode J_HSheet_rotateWord.2.1 25 = .ok (.iload 6, 2) := by decide +kernel
theorem J_HSheet_rotateWord_d27 : decode J_HSheet_rotateWord.2.1 27 = .ok (.lushr, 1) := by decide +kernel
theorem J_HSheet_rotateWord_d28 : decode J_HSheet_rotateWord.2.1 28 = .ok (.lconst 1, 1) := by decide +kernel
theorem J_HSheet_rotateWord_d29 : decode J_HSheet_rotateWord.2.1 29 = .ok (.land, 1) := by decide +kernel
theorem J_HSheet_rotateWord_d30 : decode J_HSheet_rotateWord.2.1 30 = .ok (.lconst 0, 1) := by decide +kernel
theorem J_HSheet_rotateWord_d31 : decode J_HSheet_rotateWord.2.1 31 = .ok (.lcmp, 1) := by decide +kernel
theorem J_HSheet_rotateWord_d32 : decode J_HSheet_rotateWord.2.1 32 = .ok (.ifCond .eq 111, 3) := by decide +kernel
theorem J_HSheet_rotateWord_d35 : decode J_HSheet_rotateWord.2.1 35 = .ok (.bipush 64, 2) := by decide +kernel
theorem J_HSheet_rotateWord_d37 : decode J_HSheet_rotateWord.2.1 37 = .ok (.iload_n 1, 1) := by decide +kernel
theorem J_HSheet_rotateWord_d38 : decode J_HSheet_rotateWord.2.1 38 = .ok (.imul, 1) := by decide +kernel
theorem J_HSheet_rotateWord_d39 : decode J_HSheet_rotateWord.2.1 39 = .ok (.iload 6, 2) := by decide +kernel
theorem J_HSheet_rotateWord_d41 : decode J_HSheet_rotateWord.2.1 41 = .ok (.iadd, 1) := by decide +kernel
theorem J_HSheet_rotateWord_d42 : decode J_HSheet_rotateWord.2.1 42 = .ok (.istore 7, 2) := by decide +kernel
theorem J_HSheet_rotateWord_d44 : decode J_HSheet_rotateWord.2.1 44 = .ok (.iload_n 3, 1) := by decide +kernel
theorem J_HSheet_rotateWord_d45 : decode J_HSheet_rotateWord.2.1 45 = .ok (.iconst 1, 1) := by decide +kernel
theorem J_HSheet_rotateWord_d46 : decode J_HSheet_rotateWord.2.1 46 = .ok (.if_icmp .ne 14, 3) := by decide +kernel
theorem J_HSheet_rotateWord_d49 : decode J_HSheet_rotateWord.2.1 49 = .ok (.aload_n 0, 1) := by decide +kernel
theorem J_HSheet_rotateWord_d50 : decode J_HSheet_rotateWord.2.1 50 = .ok (.getfield 15, 3) := by decide +kernel
theorem J_HSheet_rotateWord_d53 : decode J_HSheet_rotateWord.2.1 53 = .ok (.iconst 1, 1) := by decide +kernel
theorem J_HSheet_rotateWord_d54 : decode J_HSheet_rotateWord.2.1 54 = .ok (.isub, 1) := by decide +kernel
theorem J_HSheet_rotateWord_d55 : decode J_HSheet_rotateWord.2.1 55 = .ok (.iload_n 2, 1) := by decide +kernel
theorem J_HSheet_rotateWord_d56 : decode J_HSheet_rotateWord.2.1 56 = .ok (.isub, 1) := by decide +kernel
theorem J_HSheet_rotateWord_d57 : decode J_HSheet_rotateWord.2.1 57 = .ok (.goto 21, 3) := by decide +kernel
theorem J_HSheet_rotateWord_d60 : decode J_HSheet_rotateWord.2.1 60 = .ok (.iload_n 3, 1) := by decide +kernel
theorem J_HSheet_rotateWord_d61 : decode J_HSheet_rotateWord.2.1 61 = .ok (.iconst 2, 1) := by decide +kernel
theorem J_HSheet_rotateWord_d62 : decode J_HSheet_rotateWord.2.1 62 = .ok (.if_icmp .ne 15, 3) := by decide +kernel
theorem J_HSheet_rotateWord_d65 : decode J_HSheet_rotateWord.2.1 65 = .ok (.aload_n 0, 1) := by decide +kernel
theorem J_HSheet_rotateWord_d66 : decode J_HSheet_rotateWord.2.1 66 = .ok (.getfield 9, 3) := by decide +kernel
theorem J_HSheet_rotateWord_d69 : decode J_HSheet_rotateWord.2.1 69 = .ok (.iconst 1, 1) := by decide +kernel
theorem J_HSheet_rotateWord_d70 : decode J_HSheet_rotateWord.2.1 70 = .ok (.isub, 1) := by decide +kernel
theorem J_HSheet_rotateWord_d71 : decode J_HSheet_rotateWord.2.1 71 = .ok (.iload 7, 2) := by decide +kernel
theorem J_HSheet_rotateWord_d73 : decode J_HSheet_rotateWord.2.1 73 = .ok (.isub, 1) := by decide +kernel
theorem J_HSheet_rotateWord_d74 : decode J_HSheet_rotateWord.2.1 74 = .ok (.goto 4, 3) := by decide +kernel
theorem J_HSheet_rotateWord_d77 : decode J_HSheet_rotateWord.2.1 77 = .ok (.iload_n 2, 1) := by decide +kernel
theorem J_HSheet_rotateWord_d78 : decode J_HSheet_rotateWord.2.1 78 = .ok (.istore 8, 2) := by decide +kernel
theorem J_HSheet_rotateWord_d80 : decode J_HSheet_rotateWord.2.1 80 = .ok (.iload_n 3, 1) := by decide +kernel
theorem J_HSheet_rotateWord_d81 : decode J_HSheet_rotateWord.2.1 81 = .ok (.iconst 1, 1) := by decide +kernel
theorem J_HSheet_rotateWord_d82 : decode J_HSheet_rotateWord.2.1 82 = .ok (.if_icmp .ne 8, 3) := by decide +kernel
theorem J_HSheet_rotateWord_d85 : decode J_HSheet_rotateWord.2.1 85 = .ok (.iload 7, 2) := by decide +kernel
theorem J_HSheet_rotateWord_d87 : decode J_HSheet_rotateWord.2.1 87 = .ok (.goto 28, 3) := by decide +kernel
theorem J_HSheet_rotateWord_d90 : decode J_HSheet_rotateWord.2.1 90 = .ok (.iload_n 3, 1) := by decide +kernel
theorem J_HSheet_rotateWord_d91 : decode J_HSheet_rotateWord.2.1 91 = .ok (.iconst 2, 1) := by decide +kernel
theorem J_HSheet_rotateWord_d92 : decode J_HSheet_rotateWord.2.1 92 = .ok (.if_icmp .ne 14, 3) := by decide +kernel
theorem J_HSheet_rotateWord_d95 : decode J_HSheet_rotateWord.2.1 95 = .ok (.aload_n 0, 1) := by decide +kernel
theorem J_HSheet_rotateWord_d96 : decode J_HSheet_rotateWord.2.1 96 = .ok (.getfield 15, 3) := by decide +kernel
theorem J_HSheet_rotateWord_d99 : decode J_HSheet_rotateWord.2.1 99 = .ok (.iconst 1, 1) := by decide +kernel
theorem J_HSheet_rotateWord_d100 : decode J_HSheet_rotateWord.2.1 100 = .ok (.isub, 1) := by decide +kernel
theorem J_HSheet_rotateWord_d101 : decode J_HSheet_rotateWord.2.1 101 = .ok (.iload_n 2, 1) := by decide +kernel
theorem J_HSheet_rotateWord_d102 : decode J_HSheet_rotateWord.2.1 102 = .ok (.isub, 1) := by decide +kernel
theorem J_HSheet_rotateWord_d103 : decode J_HSheet_rotateWord.2.1 103 = .ok (.goto 12, 3) := by decide +kernel
theorem J_HSheet_rotateWord_d106 : decode J_HSheet_rotateWord.2.1 106 = .ok (.aload_n 0, 1) := by decide +kernel
theorem J_HSheet_rotateWord_d107 : decode J_HSheet_rotateWord.2.1 107 = .ok (.getfield 9, 3) := by decide +kernel
theorem J_HSheet_rotateWord_d110 : decode J_HSheet_rotateWord.2.1 110 = .ok (.iconst 1, 1) := by decide +kernel
theorem J_HSheet_rotateWord_d111 : decode J_HSheet_rotateWord.2.1 111 = .ok (.isub, 1) := by decide +kernel
theorem J_HSheet_rotateWord_d112 : decode J_HSheet_rotateWord.2.1 112 = .ok (.iload 7, 2) := by decide +kernel
theorem J_HSheet_rotateWord_d114 : decode J_HSheet_rotateWord.2.1 114 = .ok (.isub, 1) := by decide +kernel
theorem J_HSheet_rotateWord_d115 : decode J_HSheet_rotateWord.2.1 115 = .ok (.istore 9, 2) := by decide +kernel
theorem J_HSheet_rotateWord_d117 : decode J_HSheet_rotateWord.2.1 117 = .ok (.aload_n 0, 1) := by decide +kernel
theorem J_HSheet_rotateWord_d118 : decode J_HSheet_rotateWord.2.1 118 = .ok (.getfield 22, 3) := by decide +kernel
theorem J_HSheet_rotateWord_d121 : decode J_HSheet_rotateWord.2.1 121 = .ok (.iload 9, 2) := by decide +kernel
theorem J_HSheet_rotateWord_d123 : decode J_HSheet_rotateWord.2.1 123 = .ok (.bipush 8, 2) := by decide +kernel
theorem J_HSheet_rotateWord_d125 : decode J_HSheet_rotateWord.2.1 125 = .ok (.imul, 1) := by decide +kernel
theorem J_HSheet_rotateWord_d126 : decode J_HSheet_rotateWord.2.1 126 = .ok (.iload 8, 2) := by decide +kernel
theorem J_HSheet_rotateWord_d128 : decode J_HSheet_rotateWord.2.1 128 = .ok (.bipush 6, 2) := by decide +kernel
theorem J_HSheet_rotateWord_d130 : decode J_HSheet_rotateWord.2.1 130 = .ok (.ishr, 1) := by decide +kernel
theorem J_HSheet_rotateWord_d131 : decode J_HSheet_rotateWord.2.1 131 = .ok (.iadd, 1) := by decide +kernel
theorem J_HSheet_rotateWord_d132 : decode J_HSheet_rotateWord.2.1 132 = .ok (.dup2, 1) := by decide +kernel
theorem J_HSheet_rotateWord_d133 : decode J_HSheet_rotateWord.2.1 133 = .ok (.laload, 1) := by decide +kernel
theorem J_HSheet_rotateWord_d134 : decode J_HSheet_rotateWord.2.1 134 = .ok (.lconst 1, 1) := by decide +kernel
theorem J_HSheet_rotateWord_d135 : decode J_HSheet_rotateWord.2.1 135 = .ok (.iload 8, 2) := by decide +kernel
theorem J_HSheet_rotateWord_d137 : decode J_HSheet_rotateWord.2.1 137 = .ok (.bipush 63, 2) := by decide +kernel
theorem J_HSheet_rotateWord_d139 : decode J_HSheet_rotateWord.2.1 139 = .ok (.iand, 1) := by decide +kernel
theorem J_HSheet_rotateWord_d140 : decode J_HSheet_rotateWord.2.1 140 = .ok (.lshl, 1) := by decide +kernel
theorem J_HSheet_rotateWord_d141 : decode J_HSheet_rotateWord.2.1 141 = .ok (.lor, 1) := by decide +kernel
theorem J_HSheet_rotateWord_d142 : decode J_HSheet_rotateWord.2.1 142 = .ok (.lastore, 1) := by decide +kernel
theorem J_HSheet_rotateWord_d143 : decode J_HSheet_rotateWord.2.1 143 = .ok (.iinc 6 1, 3) := by decide +kernel
theorem J_HSheet_rotateWord_d146 : decode J_HSheet_rotateWord.2.1 146 = .ok (.goto (-130), 3) := by decide +kernel
theorem J_HSheet_rotateWord_d149 : decode J_HSheet_rotateWord.2.1 149 = .ok (.return_, 1) := by decide +kernel
theorem f_HSheet_rotateWord_ok {L : Nat} {xs : Nat → Int32} {dep : Nat} {w : Bool} {p0 : Int32} {p1 : Int32} {p2 : Int32} {M : im_M} {Q : im_M → Prop} (hM : lw_S w M) (h : ed (f_HSheet_rotateWord w p0 p1 p2 M) Q) : ia (tb_G L xs) dep J_HSheet_rotateWord (rwV w Q) (0, lv_args 0 [.ref 28, .int p0, .int p1, .int p2], [], M) := by
  have hS : im_St (tb_G L xs) dep J_HSheet_rotateWord (ia (tb_G L xs) dep J_HSheet_rotateWord (rwV w Q)) := ia_St
  unfold f_HSheet_rotateWord at h
  have l0 : im_lk (lv_args 0 [.ref 28, .int p0, .int p1, .int p2]) 0 = some (.ref 28) := rfl
  have l1 : im_lk (lv_args 0 [.ref 28, .int p0, .int p1, .int p2]) 1 = some (.int p0) := rfl
  have l2 : im_lk (lv_args 0 [.ref 28, .int p0, .int p1, .int p2]) 2 = some (.int p1) := rfl
  have l3 : im_lk (lv_args 0 [.ref 28, .int p0, .int p1, .int p2]) 3 = some (.int p2) := rfl
  refine iq_aload_n hS 1 J_HSheet_rotateWord_d0 l0 rfl ?_
  refine iq_getR hS 4 J_HSheet_rotateWord_d1 lf_9_18 (Or.inr ⟨_, rfl⟩) (ka_28 hM) (ra_28_sw hM) rfl ?_
  refine iq_iload_n hS 5 J_HSheet_rotateWord_d4 l2 rfl ?_
  refine iq_bipush hS 7 J_HSheet_rotateWord_d5 (v := 8) (by decide +kernel) rfl ?_
  refine iq_imul hS 8 J_HSheet_rotateWord_d7 rfl ?_
  refine iq_iload_n hS 9 J_HSheet_rotateWord_d8 l1 rfl ?_
  refine iq_iadd hS 10 J_HSheet_rotateWord_d9 rfl ?_
  obtain ⟨g10, h⟩ := ed_gd h
  refine iq_laload hS 11 J_HSheet_rotateWord_d10 ⟨(ka_sw hM).1, (ka_sw hM).2, g10.1, ix_lt (kl_sw hM) g10.2⟩ rfl ?_
  refine iq_lstore hS 13 J_HSheet_rotateWord_d11 (by decide) rfl ?_
  refine iq_iconst hS 14 J_HSheet_rotateWord_d13 (v := 0) (by decide +kernel) rfl ?_
  refine iq_istore hS 16 J_HSheet_rotateWord_d14 (by decide) rfl ?_
  obtain ⟨Q1, hQ1, h⟩ := bd1_ed h
  have K1 : ∀ (M2 : im_M) (L' : List (Nat × Value)), lw_S w M2 → Q1 M2 → ia (tb_G L xs) dep J_HSheet_rotateWord (rwV w Q) (149, L', [], M2) := by
    intro M2 L' hM2  h
    replace h := hQ1 _ h
    exact iq_ret J_HSheet_rotateWord_d149 rfl ⟨rfl, hM2, ed_some h⟩
  obtain ⟨r1, hr1, hq1⟩ := h
  obtain ⟨n1, hn1⟩ := lp_n hr1
  have I1 : ∀ (n : Nat) (x3 : Int32) (M4 : im_M) (L' : List (Nat × Value)), lw_S w M4 → im_lk L' 0 = some (.ref 28) → im_lk L' 1 = some (.int p0) → im_lk L' 2 = some (.int p1) → im_lk L' 3 = some (.int p2) → im_lk L' 4 = some (.long (im_l M (sw w) (Int32.toNatClampNeg ((p1 * 8) + p0)))) → im_lk L' 6 = some (.int x3) → lpn (uc2 (f_HSheet_rotateWord_L16 w p0 p1 p2 (im_l M (sw w) (Int32.toNatClampNeg ((p1 * 8) + p0))))) n (x3, M4) = some r1 → ia (tb_G L xs) dep J_HSheet_rotateWord (rwV w Q) (16, L', [], M4) := by
    intro n
    induction n with
    | zero => intro x3 M4 L' hM4 l5 l6 l7 l8 l9 l10 hn; exact (lpn_0 hn).elim
    | succ n ih =>
      intro x3 M4 L' hM4 l5 l6 l7 l8 l9 l10 hn
      have h := lpn_ed2 hn
      unfold f_HSheet_rotateWord_L16 at h
      refine iq_iload hS 18 J_HSheet_rotateWord_d16 l10 rfl ?_
      refine iq_bipush hS 20 J_HSheet_rotateWord_d18 (v := 64) (by decide +kernel) rfl ?_
      refine iq_icmp_ge hS 23 J_HSheet_rotateWord_d20 (t := 149) rfl (fun q20 => ?_) rfl (fun q20 => ?_)
      · replace h := ed_pos q20 h
        exact K1 _ _ hM4  (lq_r h hq1)
      · replace h := ed_neg q20 h
        refine iq_lload hS 25 J_HSheet_rotateWord_d23 l9 rfl ?_
        refine iq_iload hS 27 J_HSheet_rotateWord_d25 l10 rfl ?_
        refine iq_lushr hS 28 J_HSheet_rotateWord_d27 rfl ?_
        refine iq_lconst hS 29 J_HSheet_rotateWord_d28 (v := 1) (by decide +kernel) rfl ?_
        refine iq_land hS 30 J_HSheet_rotateWord_d29 rfl ?_
        refine iq_lconst hS 31 J_HSheet_rotateWord_d30 (v := 0) (by decide +kernel) rfl ?_
        refine iq_lcmp hS 32 J_HSheet_rotateWord_d31 rfl ?_
        obtain ⟨Q11, hQ11, h⟩ := bd1_ed h
        have J11 : ∀ (M32 : im_M) (L' : List (Nat × Value)), lw_S w M32 → im_lk L' 0 = some (.ref 28) → im_lk L' 1 = some (.int p0) → im_lk L' 2 = some (.int p1) → im_lk L' 3 = some (.int p2) → im_lk L' 4 = some (.long (im_l M (sw w) (Int32.toNatClampNeg ((p1 * 8) + p0)))) → im_lk L' 6 = some (.int x3) → Q11 M32 → ia (tb_G L xs) dep J_HSheet_rotateWord (rwV w Q) (143, L', [], M32) := by
          intro M32 L' hM32 l33 l34 l35 l36 l37 l38 h
          replace h := hQ11 _ h
          refine iq_iincv hS 146 J_HSheet_rotateWord_d143 (c := 1) (by decide +kernel) l38 (by decide) rfl ?_
          refine iq_goto hS J_HSheet_rotateWord_d146 (t := 16) rfl ?_
          exact ih _ _ _ hM32 (lk_1r l33 (by decide)) (lk_1i l34 (by decide)) (lk_1i l35 (by decide)) (lk_1i l36 (by decide)) (lk_1l l37 (by decide) (by decide)) lk_1s (lq_l h)
        refine iq_if_eq hS 35 J_HSheet_rotateWord_d32 (t := 143) rfl (fun q32 => ?_) rfl (fun q32 => ?_)
        · replace h := ed_pos q32 h
          exact J11 _ _ hM4 l5 l6 l7 l8 l9 l10 (ed_some h)
        · replace h := ed_neg q32 h
          refine iq_bipush hS 37 J_HSheet_rotateWord_d35 (v := 64) (by decide +kernel) rfl ?_
          refine iq_iload_n hS 38 J_HSheet_rotateWord_d37 l6 rfl ?_
          refine iq_imul hS 39 J_HSheet_rotateWord_d38 rfl ?_
          refine iq_iload hS 41 J_HSheet_rotateWord_d39 l10 rfl ?_
          refine iq_iadd hS 42 J_HSheet_rotateWord_d41 rfl ?_
          refine iq_istore hS 44 J_HSheet_rotateWord_d42 (by decide) rfl ?_
          refine iq_iload_n hS 45 J_HSheet_rotateWord_d44 (lk_1i l8 (by decide)) rfl ?_
          refine iq_iconst hS 46 J_HSheet_rotateWord_d45 (v := 1) (by decide +kernel) rfl ?_
          have J12 : ∀ (z13 : Int32) (L' : List (Nat × Value)), z13 = ((if ¬ p2 = 1 then (if ¬ p2 = 2 then p1 else (((im_i M4 28 0) - 1) - (((64 : Int32) * p0) + x3))) else (((im_i M4 28 1) - 1) - p1)) : Int32) → im_lk L' 0 = some (.ref 28) → im_lk L' 1 = some (.int p0) → im_lk L' 2 = some (.int p1) → im_lk L' 3 = some (.int p2) → im_lk L' 4 = some (.long (im_l M (sw w) (Int32.toNatClampNeg ((p1 * 8) + p0)))) → im_lk L' 6 = some (.int x3) → im_lk L' 7 = some (.int (((64 : Int32) * p0) + x3)) → ia (tb_G L xs) dep J_HSheet_rotateWord (rwV w Q) (78, L', [.int z13], M4) := by
            intro z13 L' e14 l15 l16 l17 l18 l19 l20 l21
            subst e14
            refine iq_istore hS 80 J_HSheet_rotateWord_d78 (by decide) rfl ?_
            refine iq_iload_n hS 81 J_HSheet_rotateWord_d80 (lk_1i l18 (by decide)) rfl ?_
            refine iq_iconst hS 82 J_HSheet_rotateWord_d81 (v := 1) (by decide +kernel) rfl ?_
            have J22 : ∀ (z23 : Int32) (L' : List (Nat × Value)), z23 = ((if ¬ p2 = 1 then (if ¬ p2 = 2 then (((im_i M4 28 0) - 1) - (((64 : Int32) * p0) + x3)) else (((im_i M4 28 1) - 1) - p1)) else (((64 : Int32) * p0) + x3)) : Int32) → im_lk L' 0 = some (.ref 28) → im_lk L' 1 = some (.int p0) → im_lk L' 2 = some (.int p1) → im_lk L' 3 = some (.int p2) → im_lk L' 4 = some (.long (im_l M (sw w) (Int32.toNatClampNeg ((p1 * 8) + p0)))) → im_lk L' 6 = some (.int x3) → im_lk L' 8 = some (.int ((if ¬ p2 = 1 then (if ¬ p2 = 2 then p1 else (((im_i M4 28 0) - 1) - (((64 : Int32) * p0) + x3))) else (((im_i M4 28 1) - 1) - p1)) : Int32)) → ia (tb_G L xs) dep J_HSheet_rotateWord (rwV w Q) (115, L', [.int z23], M4) := by
              intro z23 L' e24 l25 l26 l27 l28 l29 l30 l31
              subst e24
              refine iq_istore hS 117 J_HSheet_rotateWord_d115 (by decide) rfl ?_
              refine iq_aload_n hS 118 J_HSheet_rotateWord_d117 (lk_1r l25 (by decide)) rfl ?_
              refine iq_getR hS 121 J_HSheet_rotateWord_d118 lf_9_22 (Or.inr ⟨_, rfl⟩) (ka_28 hM4) (ra_28_ss hM4) rfl ?_
              refine iq_iload hS 123 J_HSheet_rotateWord_d121 lk_1s rfl ?_
              refine iq_bipush hS 125 J_HSheet_rotateWord_d123 (v := 8) (by decide +kernel) rfl ?_
              refine iq_imul hS 126 J_HSheet_rotateWord_d125 rfl ?_
              refine iq_iload hS 128 J_HSheet_rotateWord_d126 (lk_1i l31 (by decide)) rfl ?_
              refine iq_bipush hS 130 J_HSheet_rotateWord_d128 (v := 6) (by decide +kernel) rfl ?_
              refine iq_ishr hS 131 J_HSheet_rotateWord_d130 rfl ?_
              refine iq_iadd hS 132 J_HSheet_rotateWord_d131 rfl ?_
              refine iq_dup2 hS 133 J_HSheet_rotateWord_d132 rfl rfl rfl ?_
              obtain ⟨g133, h⟩ := ed_gd h
              refine iq_laload hS 134 J_HSheet_rotateWord_d133 ⟨(ka_ss hM4).1, (ka_ss hM4).2, g133.1, ix_lt (kl_ss hM4) g133.2⟩ rfl ?_
              refine iq_lconst hS 135 J_HSheet_rotateWord_d134 (v := 1) (by decide +kernel) rfl ?_
              refine iq_iload hS 137 J_HSheet_rotateWord_d135 (lk_1i l31 (by decide)) rfl ?_
              refine iq_bipush hS 139 J_HSheet_rotateWord_d137 (v := 63) (by decide +kernel) rfl ?_
              refine iq_iand hS 140 J_HSheet_rotateWord_d139 rfl ?_
              refine iq_lshl hS 141 J_HSheet_rotateWord_d140 rfl ?_
              refine iq_lor hS 142 J_HSheet_rotateWord_d141 rfl ?_
              obtain ⟨g142, h⟩ := ed_gd h
              refine iq_lastore hS 143 J_HSheet_rotateWord_d142 ⟨(ka_ss hM4).1, (ka_ss hM4).2, g142.1, ix_lt (kl_ss hM4) g142.2⟩ rfl ?_
              exact J11 _ _ (lw_sL hM4) (lk_1r l25 (by decide)) (lk_1i l26 (by decide)) (lk_1i l27 (by decide)) (lk_1i l28 (by decide)) (lk_1l l29 (by decide) (by decide)) (lk_1i l30 (by decide)) (ed_some h)
            refine iq_icmp_ne hS 85 J_HSheet_rotateWord_d82 (t := 90) rfl (fun q82 => ?_) rfl (fun q82 => ?_)
            · refine iq_iload_n hS 91 J_HSheet_rotateWord_d90 (lk_1i l18 (by decide)) rfl ?_
              refine iq_iconst hS 92 J_HSheet_rotateWord_d91 (v := 2) (by decide +kernel) rfl ?_
              refine iq_icmp_ne hS 95 J_HSheet_rotateWord_d92 (t := 106) rfl (fun q92 => ?_) rfl (fun q92 => ?_)
              · refine iq_aload_n hS 107 J_HSheet_rotateWord_d106 (lk_1r l15 (by decide)) rfl ?_
                refine iq_getI hS 110 J_HSheet_rotateWord_d107 lf_9_9 (Or.inl rfl) (ka_28 hM4) rfl ?_
                refine iq_iconst hS 111 J_HSheet_rotateWord_d110 (v := 1) (by decide +kernel) rfl ?_
                refine iq_isub hS 112 J_HSheet_rotateWord_d111 rfl ?_
                refine iq_iload hS 114 J_HSheet_rotateWord_d112 (lk_1i l21 (by decide)) rfl ?_
                refine iq_isub hS 115 J_HSheet_rotateWord_d114 rfl ?_
                exact J22 _ _ (by simp only [if_pos q82, if_pos q92]) (lk_1r l15 (by decide)) (lk_1i l16 (by decide)) (lk_1i l17 (by decide)) (lk_1i l18 (by decide)) (lk_1l l19 (by decide) (by decide)) (lk_1i l20 (by decide)) lk_1s
              · refine iq_aload_n hS 96 J_HSheet_rotateWord_d95 (lk_1r l15 (by decide)) rfl ?_
                refine iq_getI hS 99 J_HSheet_rotateWord_d96 lf_9_15 (Or.inl rfl) (ka_28 hM4) rfl ?_
                refine iq_iconst hS 100 J_HSheet_rotateWord_d99 (v := 1) (by decide +kernel) rfl ?_
                refine iq_isub hS 101 J_HSheet_rotateWord_d100 rfl ?_
                refine iq_iload_n hS 102 J_HSheet_rotateWord_d101 (lk_1i l17 (by decide)) rfl ?_
                refine iq_isub hS 103 J_HSheet_rotateWord_d102 rfl ?_
                refine iq_goto hS J_HSheet_rotateWord_d103 (t := 115) rfl ?_
                exact J22 _ _ (by simp only [if_pos q82, if_neg q92]) (lk_1r l15 (by decide)) (lk_1i l16 (by decide)) (lk_1i l17 (by decide)) (lk_1i l18 (by decide)) (lk_1l l19 (by decide) (by decide)) (lk_1i l20 (by decide)) lk_1s
            · refine iq_iload hS 87 J_HSheet_rotateWord_d85 (lk_1i l21 (by decide)) rfl ?_
              refine iq_goto hS J_HSheet_rotateWord_d87 (t := 115) rfl ?_
              exact J22 _ _ (by simp only [if_neg q82]) (lk_1r l15 (by decide)) (lk_1i l16 (by decide)) (lk_1i l17 (by decide)) (lk_1i l18 (by decide)) (lk_1l l19 (by decide) (by decide)) (lk_1i l20 (by decide)) lk_1s
          refine iq_icmp_ne hS 49 J_HSheet_rotateWord_d46 (t := 60) rfl (fun q46 => ?_) rfl (fun q46 => ?_)
          · refine iq_iload_n hS 61 J_HSheet_rotateWord_d60 (lk_1i l8 (by decide)) rfl ?_
            refine iq_iconst hS 62 J_HSheet_rotateWord_d61 (v := 2) (by decide +kernel) rfl ?_
            refine iq_icmp_ne hS 65 J_HSheet_rotateWord_d62 (t := 77) rfl (fun q62 => ?_) rfl (fun q62 => ?_)
            · refine iq_iload_n hS 78 J_HSheet_rotateWord_d77 (lk_1i l7 (by decide)) rfl ?_
              exact J12 _ _ (by simp only [if_pos q46, if_pos q62]) (lk_1r l5 (by decide)) (lk_1i l6 (by decide)) (lk_1i l7 (by decide)) (lk_1i l8 (by decide)) (lk_1l l9 (by decide) (by decide)) (lk_1i l10 (by decide)) lk_1s
            · refine iq_aload_n hS 66 J_HSheet_rotateWord_d65 (lk_1r l5 (by decide)) rfl ?_
              refine iq_getI hS 69 J_HSheet_rotateWord_d66 lf_9_9 (Or.inl rfl) (ka_28 hM4) rfl ?_
              refine iq_iconst hS 70 J_HSheet_rotateWord_d69 (v := 1) (by decide +kernel) rfl ?_
              refine iq_isub hS 71 J_HSheet_rotateWord_d70 rfl ?_
              refine iq_iload hS 73 J_HSheet_rotateWord_d71 lk_1s rfl ?_
              refine iq_isub hS 74 J_HSheet_rotateWord_d73 rfl ?_
              refine iq_goto hS J_HSheet_rotateWord_d74 (t := 78) rfl ?_
              exact J12 _ _ (by simp only [if_pos q46, if_neg q62]) (lk_1r l5 (by decide)) (lk_1i l6 (by decide)) (lk_1i l7 (by decide)) (lk_1i l8 (by decide)) (lk_1l l9 (by decide) (by decide)) (lk_1i l10 (by decide)) lk_1s
          · refine iq_aload_n hS 50 J_HSheet_rotateWord_d49 (lk_1r l5 (by decide)) rfl ?_
            refine iq_getI hS 53 J_HSheet_rotateWord_d50 lf_9_15 (Or.inl rfl) (ka_28 hM4) rfl ?_
            refine iq_iconst hS 54 J_HSheet_rotateWord_d53 (v := 1) (by decide +kernel) rfl ?_
            refine iq_isub hS 55 J_HSheet_rotateWord_d54 rfl ?_
            refine iq_iload_n hS 56 J_HSheet_rotateWord_d55 (lk_1i l7 (by decide)) rfl ?_
            refine iq_isub hS 57 J_HSheet_rotateWord_d56 rfl ?_
            refine iq_goto hS J_HSheet_rotateWord_d57 (t := 78) rfl ?_
            exact J12 _ _ (by simp only [if_neg q46]) (lk_1r l5 (by decide)) (lk_1i l6 (by decide)) (lk_1i l7 (by decide)) (lk_1i l8 (by decide)) (lk_1l l9 (by decide) (by decide)) (lk_1i l10 (by decide)) lk_1s
  exact I1 n1 _ _ _ hM (lk_1r (lk_2r l0 (by decide) (by decide)) (by decide)) (lk_1i (lk_2i l1 (by decide) (by decide)) (by decide)) (lk_1i (lk_2i l2 (by decide) (by decide)) (by decide)) (lk_1i (lk_2i l3 (by decide) (by decide)) (by decide)) (lk_1l lk_2s (by decide) (by decide)) lk_1s hn1
theorem f_HSheet_rotateWord_fr {w : Bool} {p0 : Int32} {p1 : Int32} {p2 : Int32} {M : im_M} {r : im_M} (h : f_HSheet_rotateWord w p0 p1 p2 M = some r) : fr 1610612736 [] M r := by
  replace h : ed (f_HSheet_rotateWord w p0 p1 p2 M) (fun x => x = r) := ⟨r, h, rfl⟩
  unfold f_HSheet_rotateWord at h
  obtain ⟨g10, h⟩ := ed_gd h
  obtain ⟨Q1, hQ1, h⟩ := bd1_ed h
  have K1 : ∀ (M2 : im_M), fr 1610612736 [] M M2 → Q1 M2 → fr 1610612736 [] M r := by
    intro M2 hM2 h
    replace h := hQ1 _ h
    exact fr_retV h hM2
  obtain ⟨r1, hr1, hq1⟩ := h
  obtain ⟨n1, hn1⟩ := lp_n hr1
  have I1 : ∀ (n : Nat) (x3 : Int32) (M4 : im_M), fr 1610612736 [] M M4 → lpn (uc2 (f_HSheet_rotateWord_L16 w p0 p1 p2 (im_l M (sw w) (Int32.toNatClampNeg ((p1 * 8) + p0))))) n (x3, M4) = some r1 → fr 1610612736 [] M r := by
    intro n
    induction n with
    | zero => intro x3 M4 hM4 hn; exact (lpn_0 hn).elim
    | succ n ih =>
      intro x3 M4 hM4 hn
      have h := lpn_ed2 hn
      unfold f_HSheet_rotateWord_L16 at h
      by_cases q20 : 64 ≤ x3
      · replace h := ed_pos q20 h
        exact K1 _ hM4 (lq_r h hq1)
      · replace h := ed_neg q20 h
        obtain ⟨Q5, hQ5, h⟩ := bd1_ed h
        have J5 : ∀ (M8 : im_M), fr 1610612736 [] M M8 → Q5 M8 → fr 1610612736 [] M r := by
          intro M8 hM8 h
          replace h := hQ5 _ h
          exact ih _ _ hM8 (lq_l h)
        by_cases q32 : (lg_cmp ((Int64.toUInt64 (im_l M (sw w) (Int32.toNatClampNeg ((p1 * 8) + p0))) >>> ((Int32.toInt64 x3).toUInt64 &&& Int64.toUInt64 63)).toInt64 &&& 1) 0) = 0
        · replace h := ed_pos q32 h
          exact J5 _ hM4 (ed_some h)
        · replace h := ed_neg q32 h
          obtain ⟨g133, h⟩ := ed_gd h
          obtain ⟨g142, h⟩ := ed_gd h
          exact J5 _ (fr_L (by cases w <;> decide) hM4) (ed_some h)
  exact I1 n1 _ _ fr_refl hn1
noncomputable def f_HSheet_rotate_L25 (w : Bool) (v7 : Int32) (v8 : Int32) (x9 : Int32) (M10 : im_M) : Option ((Int32 × im_M) ⊕ (im_M)) := if 8 ≤ x9 then some (.inr M10) else gd (inb ((v8 * 8) + x9) 4096) <| bd1 (if (lg_cmp (im_l M10 (sw w) (Int32.toNatClampNeg ((v8 * 8) + x9))) 0) = 0 then some M10 else bd1 (f_HSheet_rotateWord w x9 v8 v7 M10) fun (M12 : im_M) => some M12) fun (M13 : im_M) => some (.inl ((x9 + 1), M13))
noncomputable def f_HSheet_rotate_L15 (w : Bool) (v3 : Int32) (x4 : Int32) (M5 : im_M) : Option ((Int32 × im_M) ⊕ (im_M)) := if (im_i M5 28 1) ≤ x4 then some (.inr M5) else bd1 (lp (uc2 (f_HSheet_rotate_L25 w v3 x4)) (0, M5)) fun (M18 : im_M) => some (.inl ((x4 + 1), M18))
noncomputable def f_HSheet_rotate (w : Bool) (p0 : Int32) (M : im_M) : Option (Bool × im_M) := if ¬ p0 = 0 then bd1 (f_Arrays_fill2_1 w 0 M) fun (M1 : im_M) => bd1 (lp (uc2 (f_HSheet_rotate_L15 w p0)) (0, M1)) fun (M19 : im_M) => if p0 = 2 then some ((!w), (im_setR (im_setR M19 28 4 (some (ss w))) 28 5 (some (sw w)))) else some ((!w), (im_setI (im_setI (im_setR (im_setR M19 28 4 (some (ss w))) 28 5 (some (sw w))) 28 1 (im_i (im_setR (im_setR M19 28 4 (some (ss w))) 28 5 (some (sw w))) 28 0)) 28 0 (im_i (im_setR (im_setR M19 28 4 (some (ss w))) 28 5 (some (sw w))) 28 1))) else some (w, M)
theorem J_HSheet_rotate_d0 : decode J_HSheet_rotate.2.1 0 = .ok (.iload_n 1, 1) := by decide +kernel
theorem J_HSheet_rotate_d1 : decode J_HSheet_rotate.2.1 1 = .ok (.ifCond .ne 4, 3) := by decide +kernel
theorem J_HSheet_rotate_d4 : decode J_HSheet_rotate.2.1 4 = .ok (.return_, 1) := by decide +kernel
theorem J_HSheet_rotate_d5 : decode J_HSheet_rotate.2.1 5 = .ok (.aload_n 0, 1) := by decide +kernel
theorem J_HSheet_rotate_d6 : decode J_HSheet_rotate.2.1 6 = .ok (.getfield 22, 3) := by decide +kernel
theorem J_HSheet_rotate_d9 : decode J_HSheet_rotate.2.1 9 = .ok (.lconst 0, 1) := by decide +kernel
theorem J_HSheet_rotate_d10 : decode J_HSheet_rotate.2.1 10 = .ok (.invokestatic 25, 3) := by decide +kernel
theorem J_HSheet_rotate_d13 : decode J_HSheet_rotate.2.1 13 = .ok (.iconst 0, 1) := by decide +kernel
theorem J_HSheet_rotate_d14 : decode J_HSheet_rotate.2.1 14 = .ok (.istore_n 2, 1) := by decide +kernel
theorem J_HSheet_rotate_d15 : decode J_HSheet_rotate.2.1 15 = .ok (.iload_n 2, 1) := by decide +kernel
theorem J_HSheet_rotate_d16 : decode J_HSheet_rotate.2.1 16 = .ok (.aload_n 0, 1) := by decide +kernel
theorem J_HSheet_rotate_d17 : decode J_HSheet_rotate.2.1 17 = .ok (.getfield 15, 3) := by decide +kernel
theorem J_HSheet_rotate_d20 : decode J_HSheet_rotate.2.1 20 = .ok (.if_icmp .ge 46, 3) := by decide +kernel
theorem J_HSheet_rotate_d23 : decode J_HSheet_rotate.2.1 23 = .ok (.iconst 0, 1) := by decide +kernel
theorem J_HSheet_rotate_d24 : decode J_HSheet_rotate.2.1 24 = .ok (.istore_n 3, 1) := by decide +kernel
theorem J_HSheet_rotate_d25 : decode J_HSheet_rotate.2.1 25 = .ok (.iload_n 3, 1) := by decide +kernel
theorem J_HSheet_rotate_d26 : decode J_HSheet_rotate.2.1 26 = .ok (.bipush 8, 2) := by decide +kernel
theorem J_HSheet_rotate_d28 : decode J_HSheet_rotate.2.1 28 = .ok (.if_icmp .ge 32, 3) := by decide +kernel
theorem J_HSheet_rotate_d31 : decode J_HSheet_rotate.2.1 31 = .ok (.aload_n 0, 1) := by decide +kernel
theorem J_HSheet_rotate_d32 : decode J_HSheet_rotate.2.1 32 = .ok (.getfield 18, 3) := by decide +kernel
theorem J_HSheet_rotate_d35 : decode J_HSheet_rotate.2.1 35 = .ok (.iload_n 2, 1) := by decide +kernel
theorem J_HSheet_rotate_d36 : decode J_HSheet_rotate.2.1 36 = .ok (.bipush 8, 2) := by decide +kernel
theorem J_HSheet_rotate_d38 : decode J_HSheet_rotate.2.1 38 = .ok (.imul, 1) := by decide +kernel
theorem J_HSheet_rotate_d39 : decode J_HSheet_rotate.2.1 39 = .ok (.iload_n 3, 1) := by decide +kernel
theorem J_HSheet_rotate_d40 : decode J_HSheet_rotate.2.1 40 = .ok (.iadd, 1) := by decide +kernel
theorem J_HSheet_rotate_d41 : decode J_HSheet_rotate.2.1 41 = .ok (.laload, 1) := by decide +kernel
theorem J_HSheet_rotate_d42 : decode J_HSheet_rotate.2.1 42 = .ok (.lconst 0, 1) := by decide +kernel
theorem J_HSheet_rotate_d43 : decode J_HSheet_rotate.2.1 43 = .ok (.lcmp, 1) := by decide +kernel
theorem J_HSheet_rotate_d44 : decode J_HSheet_rotate.2.1 44 = .ok (.ifCond .eq 10, 3) := by decide +kernel
theorem J_HSheet_rotate_d47 : decode J_HSheet_rotate.2.1 47 = .ok (.aload_n 0, 1) := by decide +kernel
theorem J_HSheet_rotate_d48 : decode J_HSheet_rotate.2.1 48 = .ok (.iload_n 3, 1) := by decide +kernel
theorem J_HSheet_rotate_d49 : decode J_HSheet_rotate.2.1 49 = .ok (.iload_n 2, 1) := by decide +kernel
theorem J_HSheet_rotate_d50 : decode J_HSheet_rotate.2.1 50 = .ok (.iload_n 1, 1) := by decide +kernel
theorem J_HSheet_rotate_d51 : decode J_HSheet_rotate.2.1 51 = .ok (.invokevirtual 59, 3) := by decide +kernel
theorem J_HSheet_rotate_d54 : decode J_HSheet_rotate.2.1 54 = .ok (.iinc 3 1, 3) := by decide +kernel
theorem J_HSheet_rotate_d57 : decode J_HSheet_rotate.2.1 57 = .ok (.goto (-32), 3) := by decide +kernel
theorem J_HSheet_rotate_d60 : decode J_HSheet_rotate.2.1 60 = .ok (.iinc 2 1, 3) := by decide +kernel
theorem J_HSheet_rotate_d63 : decode J_HSheet_rotate.2.1 63 = .ok (.goto (-48), 3) := by decide +kernel
theorem J_HSheet_rotate_d66 : decode J_HSheet_rotate.2.1 66 = .ok (.aload_n 0, 1) := by decide +kernel
theorem J_HSheet_rotate_d67 : decode J_HSheet_rotate.2.1 67 = .ok (.getfield 18, 3) := by decide +kernel
theorem J_HSheet_rotate_d70 : decode J_HSheet_rotate.2.1 70 = .ok (.astore_n 2, 1) := by decide +kernel
theorem J_HSheet_rotate_d71 : decode J_HSheet_rotate.2.1 71 = .ok (.aload_n 0, 1) := by decide +kernel
theorem J_HSheet_rotate_d72 : decode J_HSheet_rotate.2.1 72 = .ok (.aload_n 0, 1) := by decide +kernel
theorem J_HSheet_rotate_d73 : decode J_HSheet_rotate.2.1 73 = .ok (.getfield 22, 3) := by decide +kernel
theorem J_HSheet_rotate_d76 : decode J_HSheet_rotate.2.1 76 = .ok (.putfield 18, 3) := by decide +kernel
theorem J_HSheet_rotate_d79 : decode J_HSheet_rotate.2.1 79 = .ok (.aload_n 0, 1) := by decide +kernel
theorem J_HSheet_rotate_d80 : decode J_HSheet_rotate.2.1 80 = .ok (.aload_n 2, 1) := by decide +kernel
theorem J_HSheet_rotate_d81 : decode J_HSheet_rotate.2.1 81 = .ok (.putfield 22, 3) := by decide +kernel
theorem J_HSheet_rotate_d84 : decode J_HSheet_rotate.2.1 84 = .ok (.iload_n 1, 1) := by decide +kernel
theorem J_HSheet_rotate_d85 : decode J_HSheet_rotate.2.1 85 = .ok (.iconst 2, 1) := by decide +kernel
theorem J_HSheet_rotate_d86 : decode J_HSheet_rotate.2.1 86 = .ok (.if_icmp .eq 21, 3) := by decide +kernel
theorem J_HSheet_rotate_d89 : decode J_HSheet_rotate.2.1 89 = .ok (.aload_n 0, 1) := by decide +kernel
theorem J_HSheet_rotate_d90 : decode J_HSheet_rotate.2.1 90 = .ok (.getfield 15, 3) := by decide +kernel
theorem J_HSheet_rotate_d93 : decode J_HSheet_rotate.2.1 93 = .ok (.istore_n 3, 1) := by decide +kernel
theorem J_HSheet_rotate_d94 : decode J_HSheet_rotate.2.1 94 = .ok (.aload_n 0, 1) := by decide +kernel
theorem J_HSheet_rotate_d95 : decode J_HSheet_rotate.2.1 95 = .ok (.aload_n 0, 1) := by decide +kernel
theorem J_HSheet_rotate_d96 : decode J_HSheet_rotate.2.1 96 = .ok (.getfield 9, 3) := by decide +kernel
theorem J_HSheet_rotate_d99 : decode J_HSheet_rotate.2.1 99 = .ok (.putfield 15, 3) := by decide +kernel
theorem J_HSheet_rotate_d102 : decode J_HSheet_rotate.2.1 102 = .ok (.aload_n 0, 1) := by decide +kernel
theorem J_HSheet_rotate_d103 : decode J_HSheet_rotate.2.1 103 = .ok (.iload_n 3, 1) := by decide +kernel
theorem J_HSheet_rotate_d104 : decode J_HSheet_rotate.2.1 104 = .ok (.putfield 9, 3) := by decide +kernel
theorem J_HSheet_rotate_d107 : decode J_HSheet_rotate.2.1 107 = .ok (.return_, 1) := by decide +kernel
theorem f_HSheet_rotate_ok {L : Nat} {xs : Nat → Int32} {dep : Nat} {w : Bool} {p0 : Int32} {M : im_M} {Q : Bool × im_M → Prop} (hM : lw_S w M) (h : ed (f_HSheet_rotate w p0 M) Q) : ia (tb_G L xs) (dep + 1) J_HSheet_rotate (rtV Q) (0, lv_args 0 [.ref 28, .int p0], [], M) := by
  have hS : im_St (tb_G L xs) (dep + 1) J_HSheet_rotate (ia (tb_G L xs) (dep + 1) J_HSheet_rotate (rtV Q)) := ia_St
  unfold f_HSheet_rotate at h
  have l0 : im_lk (lv_args 0 [.ref 28, .int p0]) 0 = some (.ref 28) := rfl
  have l1 : im_lk (lv_args 0 [.ref 28, .int p0]) 1 = some (.int p0) := rfl
  refine iq_iload_n hS 1 J_HSheet_rotate_d0 l1 rfl ?_
  refine iq_if_ne hS 4 J_HSheet_rotate_d1 (t := 5) rfl (fun q1 => ?_) rfl (fun q1 => ?_)
  · replace h := ed_pos q1 h
    refine iq_aload_n hS 6 J_HSheet_rotate_d5 l0 rfl ?_
    refine iq_getR hS 9 J_HSheet_rotate_d6 lf_9_22 (Or.inr ⟨_, rfl⟩) (ka_28 hM) (ra_28_ss hM) rfl ?_
    refine iq_lconst hS 10 J_HSheet_rotate_d9 (v := 0) (by decide +kernel) rfl ?_
    obtain ⟨Q1, hQ1, h⟩ := bd1_ed h
    refine iq_cwV hS 13 J_HSheet_rotate_d10 rfl (pr_stat (vs := [_, _]) lc_9_25 lT_107 rfl rfl (by decide) rfl (Nat.le_of_ble_eq_true rfl) (Nat.le_of_ble_eq_true rfl)) (f_Arrays_fill2_1_ok (dep := dep + 0) hM h) rfl ?_
    intro M1 hM1 h
    replace h := hQ1 _ h
    refine iq_iconst hS 14 J_HSheet_rotate_d13 (v := 0) (by decide +kernel) rfl ?_
    refine iq_istore_n hS 15 J_HSheet_rotate_d14 (by decide) rfl ?_
    obtain ⟨Q2, hQ2, h⟩ := bd1_ed h
    have K2 : ∀ (M3 : im_M) (L' : List (Nat × Value)), lw_S w M3 → im_lk L' 0 = some (.ref 28) → im_lk L' 1 = some (.int p0) → Q2 M3 → ia (tb_G L xs) (dep + 1) J_HSheet_rotate (rtV Q) (66, L', [], M3) := by
      intro M3 L' hM3 l4 l5 h
      replace h := hQ2 _ h
      refine iq_aload_n hS 67 J_HSheet_rotate_d66 l4 rfl ?_
      refine iq_getR hS 70 J_HSheet_rotate_d67 lf_9_18 (Or.inr ⟨_, rfl⟩) (ka_28 hM3) (ra_28_sw hM3) rfl ?_
      refine iq_astore_n hS 71 J_HSheet_rotate_d70 (by decide) rfl ?_
      refine iq_aload_n hS 72 J_HSheet_rotate_d71 (lk_1r l4 (by decide)) rfl ?_
      refine iq_aload_n hS 73 J_HSheet_rotate_d72 (lk_1r l4 (by decide)) rfl ?_
      refine iq_getR hS 76 J_HSheet_rotate_d73 lf_9_22 (Or.inr ⟨_, rfl⟩) (ka_28 hM3) (ra_28_ss hM3) rfl ?_
      refine iq_putR hS 79 J_HSheet_rotate_d76 lf_9_18 (Or.inl rfl) (Or.inr ⟨_, rfl⟩) (ka_28 hM3) rfl ?_
      refine iq_aload_n hS 80 J_HSheet_rotate_d79 (lk_1r l4 (by decide)) rfl ?_
      refine iq_aload_n hS 81 J_HSheet_rotate_d80 lk_1s rfl ?_
      refine iq_putR hS 84 J_HSheet_rotate_d81 lf_9_22 (Or.inl rfl) (Or.inr ⟨_, rfl⟩) (ka_28 (M := M3) hM3) rfl ?_
      refine iq_iload_n hS 85 J_HSheet_rotate_d84 (lk_1i l5 (by decide)) rfl ?_
      refine iq_iconst hS 86 J_HSheet_rotate_d85 (v := 2) (by decide +kernel) rfl ?_
      refine iq_icmp_eq hS 89 J_HSheet_rotate_d86 (t := 107) rfl (fun q86 => ?_) rfl (fun q86 => ?_)
      · replace h := ed_pos q86 h
        exact iq_ret J_HSheet_rotate_d107 rfl ⟨rfl, _, (lw_swap (M := M3) hM3), ed_some h⟩
      · replace h := ed_neg q86 h
        refine iq_aload_n hS 90 J_HSheet_rotate_d89 (lk_1r l4 (by decide)) rfl ?_
        refine iq_getI hS 93 J_HSheet_rotate_d90 lf_9_15 (Or.inl rfl) (ka_28 (lw_swap (M := M3) hM3)) rfl ?_
        refine iq_istore_n hS 94 J_HSheet_rotate_d93 (by decide) rfl ?_
        refine iq_aload_n hS 95 J_HSheet_rotate_d94 (lk_1r (lk_1r l4 (by decide)) (by decide)) rfl ?_
        refine iq_aload_n hS 96 J_HSheet_rotate_d95 (lk_1r (lk_1r l4 (by decide)) (by decide)) rfl ?_
        refine iq_getI hS 99 J_HSheet_rotate_d96 lf_9_9 (Or.inl rfl) (ka_28 (lw_swap (M := M3) hM3)) rfl ?_
        refine iq_putI hS 102 J_HSheet_rotate_d99 lf_9_15 (Or.inl rfl) rfl (ka_28 (lw_swap (M := M3) hM3)) rfl ?_
        refine iq_aload_n hS 103 J_HSheet_rotate_d102 (lk_1r (lk_1r l4 (by decide)) (by decide)) rfl ?_
        refine iq_iload_n hS 104 J_HSheet_rotate_d103 lk_1s rfl ?_
        refine iq_putI hS 107 J_HSheet_rotate_d104 lf_9_9 (Or.inl rfl) rfl (ka_28 (lw_sI (lw_swap (M := M3) hM3))) rfl ?_
        exact iq_ret J_HSheet_rotate_d107 rfl ⟨rfl, _, (lw_sI (lw_sI (lw_swap (M := M3) hM3))), ed_some h⟩
    obtain ⟨r2, hr2, hq2⟩ := h
    obtain ⟨n2, hn2⟩ := lp_n hr2
    have I2 : ∀ (n : Nat) (x6 : Int32) (M7 : im_M) (L' : List (Nat × Value)), lw_S w M7 → im_lk L' 0 = some (.ref 28) → im_lk L' 1 = some (.int p0) → im_lk L' 2 = some (.int x6) → lpn (uc2 (f_HSheet_rotate_L15 w p0)) n (x6, M7) = some r2 → ia (tb_G L xs) (dep + 1) J_HSheet_rotate (rtV Q) (15, L', [], M7) := by
      intro n
      induction n with
      | zero => intro x6 M7 L' hM7 l8 l9 l10 hn; exact (lpn_0 hn).elim
      | succ n ih =>
        intro x6 M7 L' hM7 l8 l9 l10 hn
        have h := lpn_ed2 hn
        unfold f_HSheet_rotate_L15 at h
        refine iq_iload_n hS 16 J_HSheet_rotate_d15 l10 rfl ?_
        refine iq_aload_n hS 17 J_HSheet_rotate_d16 l8 rfl ?_
        refine iq_getI hS 20 J_HSheet_rotate_d17 lf_9_15 (Or.inl rfl) (ka_28 hM7) rfl ?_
        refine iq_icmp_ge hS 23 J_HSheet_rotate_d20 (t := 66) rfl (fun q20 => ?_) rfl (fun q20 => ?_)
        · replace h := ed_pos q20 h
          exact K2 _ _ hM7 l8 l9 (lq_r h hq2)
        · replace h := ed_neg q20 h
          refine iq_iconst hS 24 J_HSheet_rotate_d23 (v := 0) (by decide +kernel) rfl ?_
          refine iq_istore_n hS 25 J_HSheet_rotate_d24 (by decide) rfl ?_
          obtain ⟨Q11, hQ11, h⟩ := bd1_ed h
          have K11 : ∀ (M12 : im_M) (L' : List (Nat × Value)), lw_S w M12 → im_lk L' 0 = some (.ref 28) → im_lk L' 1 = some (.int p0) → im_lk L' 2 = some (.int x6) → Q11 M12 → ia (tb_G L xs) (dep + 1) J_HSheet_rotate (rtV Q) (60, L', [], M12) := by
            intro M12 L' hM12 l13 l14 l15 h
            replace h := hQ11 _ h
            refine iq_iincv hS 63 J_HSheet_rotate_d60 (c := 1) (by decide +kernel) l15 (by decide) rfl ?_
            refine iq_goto hS J_HSheet_rotate_d63 (t := 15) rfl ?_
            exact ih _ _ _ hM12 (lk_1r l13 (by decide)) (lk_1i l14 (by decide)) lk_1s (lq_l h)
          obtain ⟨r11, hr11, hq11⟩ := h
          obtain ⟨n11, hn11⟩ := lp_n hr11
          have I11 : ∀ (n : Nat) (x16 : Int32) (M17 : im_M) (L' : List (Nat × Value)), lw_S w M17 → im_lk L' 0 = some (.ref 28) → im_lk L' 1 = some (.int p0) → im_lk L' 2 = some (.int x6) → im_lk L' 3 = some (.int x16) → lpn (uc2 (f_HSheet_rotate_L25 w p0 x6)) n (x16, M17) = some r11 → ia (tb_G L xs) (dep + 1) J_HSheet_rotate (rtV Q) (25, L', [], M17) := by
            intro n
            induction n with
            | zero => intro x16 M17 L' hM17 l18 l19 l20 l21 hn; exact (lpn_0 hn).elim
            | succ n ih =>
              intro x16 M17 L' hM17 l18 l19 l20 l21 hn
              have h := lpn_ed2 hn
              unfold f_HSheet_rotate_L25 at h
              refine iq_iload_n hS 26 J_HSheet_rotate_d25 l21 rfl ?_
              refine iq_bipush hS 28 J_HSheet_rotate_d26 (v := 8) (by decide +kernel) rfl ?_
              refine iq_icmp_ge hS 31 J_HSheet_rotate_d28 (t := 60) rfl (fun q28 => ?_) rfl (fun q28 => ?_)
              · replace h := ed_pos q28 h
                exact K11 _ _ hM17 l18 l19 l20 (lq_r h hq11)
              · replace h := ed_neg q28 h
                refine iq_aload_n hS 32 J_HSheet_rotate_d31 l18 rfl ?_
                refine iq_getR hS 35 J_HSheet_rotate_d32 lf_9_18 (Or.inr ⟨_, rfl⟩) (ka_28 hM17) (ra_28_sw hM17) rfl ?_
                refine iq_iload_n hS 36 J_HSheet_rotate_d35 l20 rfl ?_
                refine iq_bipush hS 38 J_HSheet_rotate_d36 (v := 8) (by decide +kernel) rfl ?_
                refine iq_imul hS 39 J_HSheet_rotate_d38 rfl ?_
                refine iq_iload_n hS 40 J_HSheet_rotate_d39 l21 rfl ?_
                refine iq_iadd hS 41 J_HSheet_rotate_d40 rfl ?_
                obtain ⟨g41, h⟩ := ed_gd h
                refine iq_laload hS 42 J_HSheet_rotate_d41 ⟨(ka_sw hM17).1, (ka_sw hM17).2, g41.1, ix_lt (kl_sw hM17) g41.2⟩ rfl ?_
                refine iq_lconst hS 43 J_HSheet_rotate_d42 (v := 0) (by decide +kernel) rfl ?_
                refine iq_lcmp hS 44 J_HSheet_rotate_d43 rfl ?_
                obtain ⟨Q22, hQ22, h⟩ := bd1_ed h
                have J22 : ∀ (M24 : im_M) (L' : List (Nat × Value)), lw_S w M24 → im_lk L' 0 = some (.ref 28) → im_lk L' 1 = some (.int p0) → im_lk L' 2 = some (.int x6) → im_lk L' 3 = some (.int x16) → Q22 M24 → ia (tb_G L xs) (dep + 1) J_HSheet_rotate (rtV Q) (54, L', [], M24) := by
                  intro M24 L' hM24 l25 l26 l27 l28 h
                  replace h := hQ22 _ h
                  refine iq_iincv hS 57 J_HSheet_rotate_d54 (c := 1) (by decide +kernel) l28 (by decide) rfl ?_
                  refine iq_goto hS J_HSheet_rotate_d57 (t := 25) rfl ?_
                  exact ih _ _ _ hM24 (lk_1r l25 (by decide)) (lk_1i l26 (by decide)) (lk_1i l27 (by decide)) lk_1s (lq_l h)
                refine iq_if_eq hS 47 J_HSheet_rotate_d44 (t := 54) rfl (fun q44 => ?_) rfl (fun q44 => ?_)
                · replace h := ed_pos q44 h
                  exact J22 _ _ hM17 l18 l19 l20 l21 (ed_some h)
                · replace h := ed_neg q44 h
                  refine iq_aload_n hS 48 J_HSheet_rotate_d47 l18 rfl ?_
                  refine iq_iload_n hS 49 J_HSheet_rotate_d48 l21 rfl ?_
                  refine iq_iload_n hS 50 J_HSheet_rotate_d49 l20 rfl ?_
                  refine iq_iload_n hS 51 J_HSheet_rotate_d50 l19 rfl ?_
                  obtain ⟨Q23, hQ23, h⟩ := bd1_ed h
                  refine iq_cwV hS 54 J_HSheet_rotate_d51 rfl (pr_inst (vs := [_, _, _]) lc_9_59 lT_190 rfl rfl (by decide) (by decide) rfl (Nat.le_of_ble_eq_true rfl) (Nat.le_of_ble_eq_true rfl) (fun _ => Or.inl (pr_b (ka_28 hM17) (by decide) rfl))) (f_HSheet_rotateWord_ok (dep := dep + 0) hM17 h) rfl ?_
                  intro M23 hM23 h
                  replace h := hQ23 _ h
                  exact J22 _ _ hM23 l18 l19 l20 l21 (ed_some h)
          exact I11 n11 _ _ _ hM7 (lk_1r l8 (by decide)) (lk_1i l9 (by decide)) (lk_1i l10 (by decide)) lk_1s hn11
    exact I2 n2 _ _ _ hM1 (lk_1r l0 (by decide)) (lk_1i l1 (by decide)) lk_1s hn2
  · replace h := ed_neg q1 h
    exact iq_ret J_HSheet_rotate_d4 rfl ⟨rfl, _, hM, ed_some h⟩
theorem f_HSheet_rotate_fr {w : Bool} {p0 : Int32} {M : im_M} {r : Bool × im_M} (h : f_HSheet_rotate w p0 M = some r) : fr 1610612736 [(28, 0), (28, 1)] M r.2 := by
  replace h : ed (f_HSheet_rotate w p0 M) (fun x => x = r) := ⟨r, h, rfl⟩
  unfold f_HSheet_rotate at h
  by_cases q1 : ¬ p0 = 0
  · replace h := ed_pos q1 h
    obtain ⟨Q1, hQ1, h⟩ := bd1_ed h
    obtain ⟨M1, e1, h⟩ := h
    replace h := hQ1 _ h
    obtain ⟨Q2, hQ2, h⟩ := bd1_ed h
    have K2 : ∀ (M3 : im_M), fr 1610612736 [(28, 0), (28, 1)] M M3 → Q2 M3 → fr 1610612736 [(28, 0), (28, 1)] M r.2 := by
      intro M3 hM3 h
      replace h := hQ2 _ h
      by_cases q86 : p0 = 2
      · replace h := ed_pos q86 h
        exact fr_ret h (fr_R (fr_R hM3))
      · replace h := ed_neg q86 h
        exact fr_ret h (fr_F (by decide) (fr_F (by decide) (fr_R (fr_R hM3))))
    obtain ⟨r2, hr2, hq2⟩ := h
    obtain ⟨n2, hn2⟩ := lp_n hr2
    have I2 : ∀ (n : Nat) (x4 : Int32) (M5 : im_M), fr 1610612736 [(28, 0), (28, 1)] M M5 → lpn (uc2 (f_HSheet_rotate_L15 w p0)) n (x4, M5) = some r2 → fr 1610612736 [(28, 0), (28, 1)] M r.2 := by
      intro n
      induction n with
      | zero => intro x4 M5 hM5 hn; exact (lpn_0 hn).elim
      | succ n ih =>
        intro x4 M5 hM5 hn
        have h := lpn_ed2 hn
        unfold f_HSheet_rotate_L15 at h
        by_cases q20 : (im_i M5 28 1) ≤ x4
        · replace h := ed_pos q20 h
          exact K2 _ hM5 (lq_r h hq2)
        · replace h := ed_neg q20 h
          obtain ⟨Q6, hQ6, h⟩ := bd1_ed h
          have K6 : ∀ (M7 : im_M), fr 1610612736 [(28, 0), (28, 1)] M M7 → Q6 M7 → fr 1610612736 [(28, 0), (28, 1)] M r.2 := by
            intro M7 hM7 h
            replace h := hQ6 _ h
            exact ih _ _ hM7 (lq_l h)
          obtain ⟨r6, hr6, hq6⟩ := h
          obtain ⟨n6, hn6⟩ := lp_n hr6
          have I6 : ∀ (n : Nat) (x8 : Int32) (M9 : im_M), fr 1610612736 [(28, 0), (28, 1)] M M9 → lpn (uc2 (f_HSheet_rotate_L25 w p0 x4)) n (x8, M9) = some r6 → fr 1610612736 [(28, 0), (28, 1)] M r.2 := by
            intro n
            induction n with
            | zero => intro x8 M9 hM9 hn; exact (lpn_0 hn).elim
            | succ n ih =>
              intro x8 M9 hM9 hn
              have h := lpn_ed2 hn
              unfold f_HSheet_rotate_L25 at h
              by_cases q28 : 8 ≤ x8
              · replace h := ed_pos q28 h
                exact K6 _ hM9 (lq_r h hq6)
              · replace h := ed_neg q28 h
                obtain ⟨g41, h⟩ := ed_gd h
                obtain ⟨Q10, hQ10, h⟩ := bd1_ed h
                have J10 : ∀ (M12 : im_M), fr 1610612736 [(28, 0), (28, 1)] M M12 → Q10 M12 → fr 1610612736 [(28, 0), (28, 1)] M r.2 := by
                  intro M12 hM12 h
                  replace h := hQ10 _ h
                  exact ih _ _ hM12 (lq_l h)
                by_cases q44 : (lg_cmp (im_l M9 (sw w) (Int32.toNatClampNeg ((x4 * 8) + x8))) 0) = 0
                · replace h := ed_pos q44 h
                  exact J10 _ hM9 (ed_some h)
                · replace h := ed_neg q44 h
                  obtain ⟨Q11, hQ11, h⟩ := bd1_ed h
                  obtain ⟨M11, e11, h⟩ := h
                  replace h := hQ11 _ h
                  exact J10 _ (fr_tr (fr_mono (by decide) (by decide +kernel) (f_HSheet_rotateWord_fr e11)) hM9) (ed_some h)
          exact I6 n6 _ _ hM5 hn6
    exact I2 n2 _ _ (fr_tr (fr_mono (by decide) (by decide +kernel) (f_Arrays_fill2_1_fr e1)) fr_refl) hn2
  · replace h := ed_neg q1 h
    exact fr_ret h fr_refl
noncomputable def f_H_turn (w : Bool) (p0 : Int32) (M : im_M) : Option (Bool × im_M) := if p0 < 0 then none else if p0 ≤ 3 then bd2 (f_HSheet_rotate w p0 (im_setI M 59 0 0)) fun (w1 : Bool) (M1 : im_M) => some (w1, M1) else none
theorem J_H_turn_d17 : decode J_H_turn.2.1 17 = .ok (.aload_n 0, 1) := by decide +kernel
theorem J_H_turn_d18 : decode J_H_turn.2.1 18 = .ok (.getfield 69, 3) := by decide +kernel
theorem J_H_turn_d21 : decode J_H_turn.2.1 21 = .ok (.iconst 0, 1) := by decide +kernel
theorem J_H_turn_d22 : decode J_H_turn.2.1 22 = .ok (.putfield 146, 3) := by decide +kernel
theorem J_H_turn_d25 : decode J_H_turn.2.1 25 = .ok (.aload_n 0, 1) := by decide +kernel
theorem J_H_turn_d26 : decode J_H_turn.2.1 26 = .ok (.getfield 37, 3) := by decide +kernel
theorem J_H_turn_d29 : decode J_H_turn.2.1 29 = .ok (.iload_n 1, 1) := by decide +kernel
theorem J_H_turn_d30 : decode J_H_turn.2.1 30 = .ok (.invokevirtual 160, 3) := by decide +kernel
theorem J_H_turn_d33 : decode J_H_turn.2.1 33 = .ok (.return_, 1) := by decide +kernel
theorem f_H_turn_ok {L : Nat} {xs : Nat → Int32} {dep : Nat} {w : Bool} {p0 : Int32} {M : im_M} {Q : Bool × im_M → Prop} (hM : lw_S w M) (h : ed (f_H_turn w p0 M) Q) : ia (tb_G L xs) (dep + 2) J_H_turn (rtV Q) (0, lv_args 0 [.ref 0, .int p0], [], M) := by
  have hS : im_St (tb_G L xs) (dep + 2) J_H_turn (ia (tb_G L xs) (dep + 2) J_H_turn (rtV Q)) := ia_St
  unfold f_H_turn at h
  have l0 : im_lk (lv_args 0 [.ref 0, .int p0]) 0 = some (.ref 0) := rfl
  have l1 : im_lk (lv_args 0 [.ref 0, .int p0]) 1 = some (.int p0) := rfl
  refine iq_iload_n hS 1 J_H_turn_d0 l1 rfl ?_
  refine iq_if_lt hS 4 J_H_turn_d1 (t := 9) rfl (fun q1 => ?_) rfl (fun q1 => ?_)
  · replace h := ed_pos q1 h
    exact (ed_none h).elim
  · replace h := ed_neg q1 h
    refine iq_iload_n hS 5 J_H_turn_d4 l1 rfl ?_
    refine iq_iconst hS 6 J_H_turn_d5 (v := 3) (by decide +kernel) rfl ?_
    refine iq_icmp_le hS 9 J_H_turn_d6 (t := 17) rfl (fun q6 => ?_) rfl (fun q6 => ?_)
    · replace h := ed_pos q6 h
      refine iq_aload_n hS 18 J_H_turn_d17 l0 rfl ?_
      refine iq_getR hS 21 J_H_turn_d18 lf_11_69 (Or.inl ⟨_, rfl⟩) (ka_0 hM) (ra_0_7 hM) rfl ?_
      refine iq_iconst hS 22 J_H_turn_d21 (v := 0) (by decide +kernel) rfl ?_
      refine iq_putI hS 25 J_H_turn_d22 lf_11_146 (Or.inl rfl) rfl (ka_59 hM) rfl ?_
      refine iq_aload_n hS 26 J_H_turn_d25 l0 rfl ?_
      refine iq_getR hS 29 J_H_turn_d26 lf_11_37 (Or.inl ⟨_, rfl⟩) (ka_0 (lw_sI hM)) (ra_0_3 (lw_sI hM)) rfl ?_
      refine iq_iload_n hS 30 J_H_turn_d29 l1 rfl ?_
      obtain ⟨Q1, hQ1, h⟩ := bd2_ed h
      refine iq_ctV hS 33 J_H_turn_d30 rfl (pr_inst (vs := [_]) lc_11_160 lT_189 rfl rfl (by decide) (by decide) rfl (Nat.le_of_ble_eq_true rfl) (Nat.le_of_ble_eq_true rfl) (fun _ => Or.inl (pr_b (ka_28 (lw_sI hM)) (by decide) rfl))) (f_HSheet_rotate_ok (dep := dep + 0) (lw_sI hM) h) rfl ?_
      intro w1 M1 hM1 h
      replace h := hQ1 _ _ h
      exact iq_ret J_H_turn_d33 rfl ⟨rfl, _, hM1, ed_some h⟩
    · replace h := ed_neg q6 h
      exact (ed_none h).elim
theorem f_H_turn_fr {w : Bool} {p0 : Int32} {M : im_M} {r : Bool × im_M} (h : f_H_turn w p0 M = some r) : fr 1610612736 [(28, 0), (28, 1), (59, 0)] M r.2 := by
  replace h : ed (f_H_turn w p0 M) (fun x => x = r) := ⟨r, h, rfl⟩
  unfold f_H_turn at h
  by_cases q1 : p0 < 0
  · replace h := ed_pos q1 h
    exact (ed_none h).elim
  · replace h := ed_neg q1 h
    by_cases q6 : p0 ≤ 3
    · replace h := ed_pos q6 h
      obtain ⟨Q1, hQ1, h⟩ := bd2_ed h
      obtain ⟨⟨w1, M1⟩, e1, h⟩ := h
      replace h := hQ1 _ _ h
      exact fr_ret h (fr_tr (fr_mono (by decide) (by decide +kernel) (f_HSheet_rotate_fr e1)) (fr_F (by decide) fr_refl))
    · replace h := ed_neg q6 h
      exact (ed_none h).elim
noncomputable def f_HSheet_edgeBit_L14 (v3 : Int64) (v4 : Int32) (M7 : im_M) (x5 : Int32) (x6 : Int32) : Option ((Int32 × Int32) ⊕ (Int32)) := if 63 ≤ x6 then some (.inr x5) else if ¬ (lg_cmp ((Int64.toUInt64 v3 >>> ((Int32.toInt64 x5).toUInt64 &&& Int64.toUInt64 63)).toInt64 &&& 1) 0) = 0 then some (.inr x5) else some (.inl ((x5 + v4), (x6 + 1)))
noncomputable def f_HSheet_edgeBit (p0 : Int64) (p1 : Int32) (M : im_M) : Option (Int32) := bd1 (lp (uc2 (f_HSheet_edgeBit_L14 p0 p1 M)) (((if p1 ≤ 0 then 63 else 0) : Int32), 0)) fun (y8 : Int32) => some y8
theorem J_HSheet_edgeBit_d0 : decode J_HSheet_edgeBit.2.1 0 = .ok (.iload_n 2, 1) := by decide +kernel
theorem J_HSheet_edgeBit_d1 : decode J_HSheet_edgeBit.2.1 1 = .ok (.ifCond .le 7, 3) := by decide +kernel
theorem J_HSheet_edgeBit_d4 : decode J_HSheet_edgeBit.2.1 4 = .ok (.iconst 0, 1) := by decide +kernel
theorem J_HSheet_edgeBit_d5 : decode J_HSheet_edgeBit.2.1 5 = .ok (.goto 5, 3) := by decide +kernel
theorem J_HSheet_edgeBit_d8 : decode J_HSheet_edgeBit.2.1 8 = .ok (.bipush 63, 2) := by decide +kernel
theorem J_HSheet_edgeBit_d10 : decode J_HSheet_edgeBit.2.1 10 = .ok (.istore_n 3, 1) := by decide +kernel
theorem J_HSheet_edgeBit_d11 : decode J_HSheet_edgeBit.2.1 11 = .ok (.iconst 0, 1) := by decide +kernel
theorem J_HSheet_edgeBit_d12 : decode J_HSheet_edgeBit.2.1 12 = .ok (.istore 4, 2) := by decide +kernel
theorem J_HSheet_edgeBit_d14 : decode J_HSheet_edgeBit.2.1 14 = .ok (.iload 4, 2) := by decide +kernel
theorem J_HSheet_edgeBit_d16 : decode J_HSheet_edgeBit.2.1 16 = .ok (.bipush 63, 2) := by decide +kernel
theorem J_HSheet_edgeBit_d18 : decode J_HSheet_edgeBit.2.1 18 = .ok (.if_icmp .ge 23, 3) := by decide +kernel
theorem J_HSheet_edgeBit_d21 : decode J_HSheet_edgeBit.2.1 21 = .ok (.lload_n 0, 1) := by decide +kernel
theorem J_HSheet_edgeBit_d22 : decode J_HSheet_edgeBit.2.1 22 = .ok (.iload_n 3, 1) := by decide +kernel
theorem J_HSheet_edgeBit_d23 : decode J_HSheet_edgeBit.2.1 23 = .ok (.lushr, 1) := by decide +kernel
theorem J_HSheet_edgeBit_d24 : decode J_HSheet_edgeBit.2.1 24 = .ok (.lconst 1, 1) := by decide +kernel
theorem J_HSheet_edgeBit_d25 : decode J_HSheet_edgeBit.2.1 25 = .ok (.land, 1) := by decide +kernel
theorem J_HSheet_edgeBit_d26 : decode J_HSheet_edgeBit.2.1 26 = .ok (.lconst 0, 1) := by decide +kernel
theorem J_HSheet_edgeBit_d27 : decode J_HSheet_edgeBit.2.1 27 = .ok (.lcmp, 1) := by decide +kernel
theorem J_HSheet_edgeBit_d28 : decode J_HSheet_edgeBit.2.1 28 = .ok (.ifCond .ne 13, 3) := by decide +kernel
theorem J_HSheet_edgeBit_d31 : decode J_HSheet_edgeBit.2.1 31 = .ok (.iload_n 3, 1) := by decide +kernel
theorem J_HSheet_edgeBit_d32 : decode J_HSheet_edgeBit.2.1 32 = .ok (.iload_n 2, 1) := by decide +kernel
theorem J_HSheet_edgeBit_d33 : decode J_HSheet_edgeBit.2.1 33 = .ok (.iadd, 1) := by decide +kernel
theorem J_HSheet_edgeBit_d34 : decode J_HSheet_edgeBit.2.1 34 = .ok (.istore_n 3, 1) := by decide +kernel
theorem J_HSheet_edgeBit_d35 : decode J_HSheet_edgeBit.2.1 35 = .ok (.iinc 4 1, 3) := by decide +kernel
theorem J_HSheet_edgeBit_d38 : decode J_HSheet_edgeBit.2.1 38 = .ok (.goto (-24), 3) := by decide +kernel
theorem J_HSheet_edgeBit_d41 : decode J_HSheet_edgeBit.2.1 41 = .ok (.iload_n 3, 1) := by decide +kernel
theorem J_HSheet_edgeBit_d42 : decode J_HSheet_edgeBit.2.1 42 = .ok (.ireturn, 1) := by decide +kernel
theorem f_HSheet_edgeBit_ok {L : Nat} {xs : Nat → Int32} {dep : Nat} {w : Bool} {p0 : Int64} {p1 : Int32} {M : im_M} {Q : Int32 → Prop} (hM : lw_S w M) (h : ed (f_HSheet_edgeBit p0 p1 M) Q) : ia (tb_G L xs) dep J_HSheet_edgeBit (rpI M Q) (0, lv_args 0 [.long p0, .int p1], [], M) := by
  have hS : im_St (tb_G L xs) dep J_HSheet_edgeBit (ia (tb_G L xs) dep J_HSheet_edgeBit (rpI M Q)) := ia_St
  unfold f_HSheet_edgeBit at h
  have l0 : im_lk (lv_args 0 [.long p0, .int p1]) 0 = some (.long p0) := rfl
  have l2 : im_lk (lv_args 0 [.long p0, .int p1]) 2 = some (.int p1) := rfl
  refine iq_iload_n hS 1 J_HSheet_edgeBit_d0 l2 rfl ?_
  have J1 : ∀ (z2 : Int32) (L' : List (Nat × Value)), z2 = ((if p1 ≤ 0 then 63 else 0) : Int32) → im_lk L' 0 = some (.long p0) → im_lk L' 2 = some (.int p1) → ia (tb_G L xs) dep J_HSheet_edgeBit (rpI M Q) (10, L', [.int z2], M) := by
    intro z2 L' e3 l4 l5
    subst e3
    refine iq_istore_n hS 11 J_HSheet_edgeBit_d10 (by decide) rfl ?_
    refine iq_iconst hS 12 J_HSheet_edgeBit_d11 (v := 0) (by decide +kernel) rfl ?_
    refine iq_istore hS 14 J_HSheet_edgeBit_d12 (by decide) rfl ?_
    obtain ⟨Q6, hQ6, h⟩ := bd1_ed h
    have K6 : ∀ (y7 : Int32) (L' : List (Nat × Value)), im_lk L' 3 = some (.int y7) → Q6 y7 → ia (tb_G L xs) dep J_HSheet_edgeBit (rpI M Q) (41, L', [], M) := by
      intro y7 L' l8 h
      replace h := hQ6 _ h
      refine iq_iload_n hS 42 J_HSheet_edgeBit_d41 l8 rfl ?_
      exact iq_iret J_HSheet_edgeBit_d42 rfl rfl ⟨_, rfl, rfl, ed_some h⟩
    obtain ⟨r6, hr6, hq6⟩ := h
    obtain ⟨n6, hn6⟩ := lp_n hr6
    have I6 : ∀ (n : Nat) (x9 : Int32) (x10 : Int32) (L' : List (Nat × Value)), im_lk L' 0 = some (.long p0) → im_lk L' 2 = some (.int p1) → im_lk L' 3 = some (.int x9) → im_lk L' 4 = some (.int x10) → lpn (uc2 (f_HSheet_edgeBit_L14 p0 p1 M)) n (x9, x10) = some r6 → ia (tb_G L xs) dep J_HSheet_edgeBit (rpI M Q) (14, L', [], M) := by
      intro n
      induction n with
      | zero => intro x9 x10 L' l11 l12 l13 l14 hn; exact (lpn_0 hn).elim
      | succ n ih =>
        intro x9 x10 L' l11 l12 l13 l14 hn
        have h := lpn_ed2 hn
        unfold f_HSheet_edgeBit_L14 at h
        refine iq_iload hS 16 J_HSheet_edgeBit_d14 l14 rfl ?_
        refine iq_bipush hS 18 J_HSheet_edgeBit_d16 (v := 63) (by decide +kernel) rfl ?_
        refine iq_icmp_ge hS 21 J_HSheet_edgeBit_d18 (t := 41) rfl (fun q18 => ?_) rfl (fun q18 => ?_)
        · replace h := ed_pos q18 h
          exact K6 _ _ l13 (lq_r h hq6)
        · replace h := ed_neg q18 h
          refine iq_lload_n hS 22 J_HSheet_edgeBit_d21 l11 rfl ?_
          refine iq_iload_n hS 23 J_HSheet_edgeBit_d22 l13 rfl ?_
          refine iq_lushr hS 24 J_HSheet_edgeBit_d23 rfl ?_
          refine iq_lconst hS 25 J_HSheet_edgeBit_d24 (v := 1) (by decide +kernel) rfl ?_
          refine iq_land hS 26 J_HSheet_edgeBit_d25 rfl ?_
          refine iq_lconst hS 27 J_HSheet_edgeBit_d26 (v := 0) (by decide +kernel) rfl ?_
          refine iq_lcmp hS 28 J_HSheet_edgeBit_d27 rfl ?_
          refine iq_if_ne hS 31 J_HSheet_edgeBit_d28 (t := 41) rfl (fun q28 => ?_) rfl (fun q28 => ?_)
          · replace h := ed_pos q28 h
            exact K6 _ _ l13 (lq_r h hq6)
          · replace h := ed_neg q28 h
            refine iq_iload_n hS 32 J_HSheet_edgeBit_d31 l13 rfl ?_
            refine iq_iload_n hS 33 J_HSheet_edgeBit_d32 l12 rfl ?_
            refine iq_iadd hS 34 J_HSheet_edgeBit_d33 rfl ?_
            refine iq_istore_n hS 35 J_HSheet_edgeBit_d34 (by decide) rfl ?_
            refine iq_iincv hS 38 J_HSheet_edgeBit_d35 (c := 1) (by decide +kernel) (lk_1i l14 (by decide)) (by decide) rfl ?_
            refine iq_goto hS J_HSheet_edgeBit_d38 (t := 14) rfl ?_
            exact ih _ _ _ (lk_1l (lk_1l l11 (by decide) (by decide)) (by decide) (by decide)) (lk_1i (lk_1i l12 (by decide)) (by decide)) (lk_1i lk_1s (by decide)) lk_1s (lq_l h)
    exact I6 n6 _ _ _ (lk_1l (lk_1l l4 (by decide) (by decide)) (by decide) (by decide)) (lk_1i (lk_1i l5 (by decide)) (by decide)) (lk_1i lk_1s (by decide)) lk_1s hn6
  refine iq_if_le hS 4 J_HSheet_edgeBit_d1 (t := 8) rfl (fun q1 => ?_) rfl (fun q1 => ?_)
  · refine iq_bipush hS 10 J_HSheet_edgeBit_d8 (v := 63) (by decide +kernel) rfl ?_
    exact J1 _ _ (by simp only [if_pos q1]) l0 l2
  · refine iq_iconst hS 5 J_HSheet_edgeBit_d4 (v := 0) (by decide +kernel) rfl ?_
    refine iq_goto hS J_HSheet_edgeBit_d5 (t := 10) rfl ?_
    exact J1 _ _ (by simp only [if_neg q1]) l0 l2
noncomputable def f_HSheet_edgeColumn_L25 (w : Bool) (v8 : Int32) (v9 : Int32) (v10 : Int32) (M13 : im_M) (x11 : Int64) (x12 : Int32) : Option ((Int64 × Int32) ⊕ (Int64)) := if (im_i M13 28 1) ≤ x12 then some (.inr x11) else gd (inb ((x12 * 8) + v9) 4096) <| some (.inl ((x11 ||| (im_l M13 (sw w) (Int32.toNatClampNeg ((x12 * 8) + v9)))), (x12 + 1)))
noncomputable def f_HSheet_edgeColumn_L13 (w : Bool) (v3 : Int32) (M6 : im_M) (x4 : Int32) (x5 : Int32) : Option ((Int32 × Int32) ⊕ ((Unit) ⊕ (Int32))) := if 8 ≤ x5 then some (.inr (.inl ())) else bd1 (lp (uc2 (f_HSheet_edgeColumn_L25 w v3 x4 x5 M6)) (0, 0)) fun (y14 : Int64) => if (lg_cmp y14 0) = 0 then some (.inl ((x4 + v3), (x5 + 1))) else bd1 (f_HSheet_edgeBit y14 v3 M6) fun (x15 : Int32) => some (.inr (.inr (((64 : Int32) * x4) + x15)))
noncomputable def f_HSheet_edgeColumn (w : Bool) (p0 : Int32) (M : im_M) : Option (Int32) := bs0 (lp (uc2 (f_HSheet_edgeColumn_L13 w p0 M)) (((if p0 ≤ 0 then 7 else 0) : Int32), 0)) (fun (_ : Unit) => some (-1)) (fun t => some t)
theorem J_HSheet_edgeColumn_d0 : decode J_HSheet_edgeColumn.2.1 0 = .ok (.iload_n 1, 1) := by decide +kernel
theorem J_HSheet_edgeColumn_d1 : decode J_HSheet_edgeColumn.2.1 1 = .ok (.ifCond .le 7, 3) := by decide +kernel
theorem J_HSheet_edgeColumn_d4 : decode J_HSheet_edgeColumn.2.1 4 = .ok (.iconst 0, 1) := by decide +kernel
theorem J_HSheet_edgeColumn_d5 : decode J_HSheet_edgeColumn.2.1 5 = .ok (.goto 5, 3) := by decide +kernel
theorem J_HSheet_edgeColumn_d8 : decode J_HSheet_edgeColumn.2.1 8 = .ok (.bipush 7, 2) := by decide +kernel
theorem J_HSheet_edgeColumn_d10 : decode J_HSheet_edgeColumn.2.1 10 = .ok (.istore_n 2, 1) := by decide +kernel
theorem J_HSheet_edgeColumn_d11 : decode J_HSheet_edgeColumn.2.1 11 = .ok (.iconst 0, 1) := by decide +kernel
theorem J_HSheet_edgeColumn_d12 : decode J_HSheet_edgeColumn.2.1 12 = .ok (.istore_n 3, 1) := by decide +kernel
theorem J_HSheet_edgeColumn_d13 : decode J_HSheet_edgeColumn.2.1 13 = .ok (.iload_n 3, 1) := by decide +kernel
theorem J_HSheet_edgeColumn_d14 : decode J_HSheet_edgeColumn.2.1 14 = .ok (.bipush 8, 2) := by decide +kernel
theorem J_HSheet_edgeColumn_d16 : decode J_HSheet_edgeColumn.2.1 16 = .ok (.if_icmp .ge 70, 3) := by decide +kernel
theorem J_HSheet_edgeColumn_d19 : decode J_HSheet_edgeColumn.2.1 19 = .ok (.lconst 0, 1) := by decide +kernel
theorem J_HSheet_edgeColumn_d20 : decode J_HSheet_edgeColumn.2.1 20 = .ok (.lstore 4, 2) := by decide +kernel
theorem J_HSheet_edgeColumn_d22 : decode J_HSheet_edgeColumn.2.1 22 = .ok (.iconst 0, 1) := by decide +kernel
theorem J_HSheet_edgeColumn_d23 : decode J_HSheet_edgeColumn.2.1 23 = .ok (.istore 6, 2) := by decide +kernel
theorem J_HSheet_edgeColumn_d25 : decode J_HSheet_edgeColumn.2.1 25 = .ok (.iload 6, 2) := by decide +kernel
theorem J_HSheet_edgeColumn_d27 : decode J_HSheet_edgeColumn.2.1 27 = .ok (.aload_n 0, 1) := by decide +kernel
theorem J_HSheet_edgeColumn_d28 : decode J_HSheet_edgeColumn.2.1 28 = .ok (.getfield 15, 3) := by decide +kernel
theorem J_HSheet_edgeColumn_d31 : decode J_HSheet_edgeColumn.2.1 31 = .ok (.if_icmp .ge 26, 3) := by decide +kernel
theorem J_HSheet_edgeColumn_d34 : decode J_HSheet_edgeColumn.2.1 34 = .ok (.lload 4, 2) := by decide +kernel
theorem J_HSheet_edgeColumn_d36 : decode J_HSheet_edgeColumn.2.1 36 = .ok (.aload_n 0, 1) := by decide +kernel
theorem J_HSheet_edgeColumn_d37 : decode J_HSheet_edgeColumn.2.1 37 = .ok (.getfield 18, 3) := by decide +kernel
theorem J_HSheet_edgeColumn_d40 : decode J_HSheet_edgeColumn.2.1 40 = .ok (.iload 6, 2) := by decide +kernel
theorem J_HSheet_edgeColumn_d42 : decode J_HSheet_edgeColumn.2.1 42 = .ok (.bipush 8, 2) := by decide +kernel
theorem J_HSheet_edgeColumn_d44 : decode J_HSheet_edgeColumn.2.1 44 = .ok (.imul, 1) := by decide +kernel
theorem J_HSheet_edgeColumn_d45 : decode J_HSheet_edgeColumn.2.1 45 = .ok (.iload_n 2, 1) := by decide +kernel
theorem J_HSheet_edgeColumn_d46 : decode J_HSheet_edgeColumn.2.1 46 = .ok (.iadd, 1) := by decide +kernel
theorem J_HSheet_edgeColumn_d47 : decode J_HSheet_edgeColumn.2.1 47 = .ok (.laload, 1) := by decide +kernel
theorem J_HSheet_edgeColumn_d48 : decode J_HSheet_edgeColumn.2.1 48 = .ok (.lor, 1) := by decide +kernel
theorem J_HSheet_edgeColumn_d49 : decode J_HSheet_edgeColumn.2.1 49 = .ok (.lstore 4, 2) := by decide +kernel
theorem J_HSheet_edgeColumn_d51 : decode J_HSheet_edgeColumn.2.1 51 = .ok (.iinc 6 1, 3) := by decide +kernel
theorem J_HSheet_edgeColumn_d54 : decode J_HSheet_edgeColumn.2.1 54 = .ok (.goto (-29), 3) := by decide +kernel
theorem J_HSheet_edgeColumn_d57 : decode J_HSheet_edgeColumn.2.1 57 = .ok (.lload 4, 2) := by decide +kernel
theorem J_HSheet_edgeColumn_d59 : decode J_HSheet_edgeColumn.2.1 59 = .ok (.lconst 0, 1) := by decide +kernel
theorem J_HSheet_edgeColumn_d60 : decode J_HSheet_edgeColumn.2.1 60 = .ok (.lcmp, 1) := by decide +kernel
theorem J_HSheet_edgeColumn_d61 : decode J_HSheet_edgeColumn.2.1 61 = .ok (.ifCond .eq 15, 3) := by decide +kernel
theorem J_HSheet_edgeColumn_d64 : decode J_HSheet_edgeColumn.2.1 64 = .ok (.bipush 64, 2) := by decide +kernel
theorem J_HSheet_edgeColumn_d66 : decode J_HSheet_edgeColumn.2.1 66 = .ok (.iload_n 2, 1) := by decide +kernel
theorem J_HSheet_edgeColumn_d67 : decode J_HSheet_edgeColumn.2.1 67 = .ok (.imul, 1) := by decide +kernel
theorem J_HSheet_edgeColumn_d68 : decode J_HSheet_edgeColumn.2.1 68 = .ok (.lload 4, 2) := by decide +kernel
theorem J_HSheet_edgeColumn_d70 : decode J_HSheet_edgeColumn.2.1 70 = .ok (.iload_n 1, 1) := by decide +kernel
theorem J_HSheet_edgeColumn_d71 : decode J_HSheet_edgeColumn.2.1 71 = .ok (.invokestatic 69, 3) := by decide +kernel
theorem J_HSheet_edgeColumn_d74 : decode J_HSheet_edgeColumn.2.1 74 = .ok (.iadd, 1) := by decide +kernel
theorem J_HSheet_edgeColumn_d75 : decode J_HSheet_edgeColumn.2.1 75 = .ok (.ireturn, 1) := by decide +kernel
theorem J_HSheet_edgeColumn_d76 : decode J_HSheet_edgeColumn.2.1 76 = .ok (.iload_n 2, 1) := by decide +kernel
theorem J_HSheet_edgeColumn_d77 : decode J_HSheet_edgeColumn.2.1 77 = .ok (.iload_n 1, 1) := by decide +kernel
theorem J_HSheet_edgeColumn_d78 : decode J_HSheet_edgeColumn.2.1 78 = .ok (.iadd, 1) := by decide +kernel
theorem J_HSheet_edgeColumn_d79 : decode J_HSheet_edgeColumn.2.1 79 = .ok (.istore_n 2, 1) := by decide +kernel
theorem J_HSheet_edgeColumn_d80 : decode J_HSheet_edgeColumn.2.1 80 = .ok (.iinc 3 1, 3) := by decide +kernel
theorem J_HSheet_edgeColumn_d83 : decode J_HSheet_edgeColumn.2.1 83 = .ok (.goto (-70), 3) := by decide +kernel
theorem J_HSheet_edgeColumn_d86 : decode J_HSheet_edgeColumn.2.1 86 = .ok (.iconst (-1), 1) := by decide +kernel
theorem J_HSheet_edgeColumn_d87 : decode J_HSheet_edgeColumn.2.1 87 = .ok (.ireturn, 1) := by decide +kernel
theorem f_HSheet_edgeColumn_ok {L : Nat} {xs : Nat → Int32} {dep : Nat} {w : Bool} {p0 : Int32} {M : im_M} {Q : Int32 → Prop} (hM : lw_S w M) (h : ed (f_HSheet_edgeColumn w p0 M) Q) : ia (tb_G L xs) (dep + 1) J_HSheet_edgeColumn (rpI M Q) (0, lv_args 0 [.ref 28, .int p0], [], M) := by
  have hS : im_St (tb_G L xs) (dep + 1) J_HSheet_edgeColumn (ia (tb_G L xs) (dep + 1) J_HSheet_edgeColumn (rpI M Q)) := ia_St
  unfold f_HSheet_edgeColumn at h
  have l0 : im_lk (lv_args 0 [.ref 28, .int p0]) 0 = some (.ref 28) := rfl
  have l1 : im_lk (lv_args 0 [.ref 28, .int p0]) 1 = some (.int p0) := rfl
  refine iq_iload_n hS 1 J_HSheet_edgeColumn_d0 l1 rfl ?_
  have J1 : ∀ (z2 : Int32) (L' : List (Nat × Value)), z2 = ((if p0 ≤ 0 then 7 else 0) : Int32) → im_lk L' 0 = some (.ref 28) → im_lk L' 1 = some (.int p0) → ia (tb_G L xs) (dep + 1) J_HSheet_edgeColumn (rpI M Q) (10, L', [.int z2], M) := by
    intro z2 L' e3 l4 l5
    subst e3
    refine iq_istore_n hS 11 J_HSheet_edgeColumn_d10 (by decide) rfl ?_
    refine iq_iconst hS 12 J_HSheet_edgeColumn_d11 (v := 0) (by decide +kernel) rfl ?_
    refine iq_istore_n hS 13 J_HSheet_edgeColumn_d12 (by decide) rfl ?_
    obtain ⟨Q6, hQ6, hR6, h⟩ := bs0_ed h
    have K6 : ∀  (L' : List (Nat × Value)), Q6 (.inl ()) → ia (tb_G L xs) (dep + 1) J_HSheet_edgeColumn (rpI M Q) (86, L', [], M) := by
      intro  L'  h
      replace h := hQ6  h
      refine iq_iconst hS 87 J_HSheet_edgeColumn_d86 (v := (-1)) (by decide +kernel) rfl ?_
      exact iq_iret J_HSheet_edgeColumn_d87 rfl rfl ⟨_, rfl, rfl, ed_some h⟩
    obtain ⟨r6, hr6, hq6⟩ := h
    obtain ⟨n6, hn6⟩ := lp_n hr6
    have I6 : ∀ (n : Nat) (x7 : Int32) (x8 : Int32) (L' : List (Nat × Value)), im_lk L' 0 = some (.ref 28) → im_lk L' 1 = some (.int p0) → im_lk L' 2 = some (.int x7) → im_lk L' 3 = some (.int x8) → lpn (uc2 (f_HSheet_edgeColumn_L13 w p0 M)) n (x7, x8) = some r6 → ia (tb_G L xs) (dep + 1) J_HSheet_edgeColumn (rpI M Q) (13, L', [], M) := by
      intro n
      induction n with
      | zero => intro x7 x8 L' l9 l10 l11 l12 hn; exact (lpn_0 hn).elim
      | succ n ih =>
        intro x7 x8 L' l9 l10 l11 l12 hn
        have h := lpn_ed2 hn
        unfold f_HSheet_edgeColumn_L13 at h
        refine iq_iload_n hS 14 J_HSheet_edgeColumn_d13 l12 rfl ?_
        refine iq_bipush hS 16 J_HSheet_edgeColumn_d14 (v := 8) (by decide +kernel) rfl ?_
        refine iq_icmp_ge hS 19 J_HSheet_edgeColumn_d16 (t := 86) rfl (fun q16 => ?_) rfl (fun q16 => ?_)
        · replace h := ed_pos q16 h
          exact K6  _  (lq_r h hq6)
        · replace h := ed_neg q16 h
          refine iq_lconst hS 20 J_HSheet_edgeColumn_d19 (v := 0) (by decide +kernel) rfl ?_
          refine iq_lstore hS 22 J_HSheet_edgeColumn_d20 (by decide) rfl ?_
          refine iq_iconst hS 23 J_HSheet_edgeColumn_d22 (v := 0) (by decide +kernel) rfl ?_
          refine iq_istore hS 25 J_HSheet_edgeColumn_d23 (by decide) rfl ?_
          obtain ⟨Q13, hQ13, h⟩ := bd1_ed h
          have K13 : ∀ (y14 : Int64) (L' : List (Nat × Value)), im_lk L' 0 = some (.ref 28) → im_lk L' 1 = some (.int p0) → im_lk L' 2 = some (.int x7) → im_lk L' 3 = some (.int x8) → im_lk L' 4 = some (.long y14) → Q13 y14 → ia (tb_G L xs) (dep + 1) J_HSheet_edgeColumn (rpI M Q) (57, L', [], M) := by
            intro y14 L' l15 l16 l17 l18 l19 h
            replace h := hQ13 _ h
            refine iq_lload hS 59 J_HSheet_edgeColumn_d57 l19 rfl ?_
            refine iq_lconst hS 60 J_HSheet_edgeColumn_d59 (v := 0) (by decide +kernel) rfl ?_
            refine iq_lcmp hS 61 J_HSheet_edgeColumn_d60 rfl ?_
            refine iq_if_eq hS 64 J_HSheet_edgeColumn_d61 (t := 76) rfl (fun q61 => ?_) rfl (fun q61 => ?_)
            · replace h := ed_pos q61 h
              refine iq_iload_n hS 77 J_HSheet_edgeColumn_d76 l17 rfl ?_
              refine iq_iload_n hS 78 J_HSheet_edgeColumn_d77 l16 rfl ?_
              refine iq_iadd hS 79 J_HSheet_edgeColumn_d78 rfl ?_
              refine iq_istore_n hS 80 J_HSheet_edgeColumn_d79 (by decide) rfl ?_
              refine iq_iincv hS 83 J_HSheet_edgeColumn_d80 (c := 1) (by decide +kernel) (lk_1i l18 (by decide)) (by decide) rfl ?_
              refine iq_goto hS J_HSheet_edgeColumn_d83 (t := 13) rfl ?_
              exact ih _ _ _ (lk_1r (lk_1r l15 (by decide)) (by decide)) (lk_1i (lk_1i l16 (by decide)) (by decide)) (lk_1i lk_1s (by decide)) lk_1s (lq_l h)
            · replace h := ed_neg q61 h
              refine iq_bipush hS 66 J_HSheet_edgeColumn_d64 (v := 64) (by decide +kernel) rfl ?_
              refine iq_iload_n hS 67 J_HSheet_edgeColumn_d66 l17 rfl ?_
              refine iq_imul hS 68 J_HSheet_edgeColumn_d67 rfl ?_
              refine iq_lload hS 70 J_HSheet_edgeColumn_d68 l19 rfl ?_
              refine iq_iload_n hS 71 J_HSheet_edgeColumn_d70 l16 rfl ?_
              obtain ⟨Q20, hQ20, h⟩ := bd1_ed h
              refine iq_cpI hS 74 J_HSheet_edgeColumn_d71 rfl (pr_stat (vs := [_, _]) lc_9_69 lT_193 rfl rfl (by decide) rfl (Nat.le_of_ble_eq_true rfl) (Nat.le_of_ble_eq_true rfl)) (f_HSheet_edgeBit_ok (dep := dep + 0) hM h) rfl ?_
              intro x20 h
              replace h := hQ20 _ h
              refine iq_iadd hS 75 J_HSheet_edgeColumn_d74 rfl ?_
              exact iq_iret J_HSheet_edgeColumn_d75 rfl rfl ⟨_, rfl, rfl, ed_some (hR6 _ (lq_r h hq6))⟩
          obtain ⟨r13, hr13, hq13⟩ := h
          obtain ⟨n13, hn13⟩ := lp_n hr13
          have I13 : ∀ (n : Nat) (x21 : Int64) (x22 : Int32) (L' : List (Nat × Value)), im_lk L' 0 = some (.ref 28) → im_lk L' 1 = some (.int p0) → im_lk L' 2 = some (.int x7) → im_lk L' 3 = some (.int x8) → im_lk L' 4 = some (.long x21) → im_lk L' 6 = some (.int x22) → lpn (uc2 (f_HSheet_edgeColumn_L25 w p0 x7 x8 M)) n (x21, x22) = some r13 → ia (tb_G L xs) (dep + 1) J_HSheet_edgeColumn (rpI M Q) (25, L', [], M) := by
            intro n
            induction n with
            | zero => intro x21 x22 L' l23 l24 l25 l26 l27 l28 hn; exact (lpn_0 hn).elim
            | succ n ih =>
              intro x21 x22 L' l23 l24 l25 l26 l27 l28 hn
              have h := lpn_ed2 hn
              unfold f_HSheet_edgeColumn_L25 at h
              refine iq_iload hS 27 J_HSheet_edgeColumn_d25 l28 rfl ?_
              refine iq_aload_n hS 28 J_HSheet_edgeColumn_d27 l23 rfl ?_
              refine iq_getI hS 31 J_HSheet_edgeColumn_d28 lf_9_15 (Or.inl rfl) (ka_28 hM) rfl ?_
              refine iq_icmp_ge hS 34 J_HSheet_edgeColumn_d31 (t := 57) rfl (fun q31 => ?_) rfl (fun q31 => ?_)
              · replace h := ed_pos q31 h
                exact K13 _ _ l23 l24 l25 l26 l27 (lq_r h hq13)
              · replace h := ed_neg q31 h
                refine iq_lload hS 36 J_HSheet_edgeColumn_d34 l27 rfl ?_
                refine iq_aload_n hS 37 J_HSheet_edgeColumn_d36 l23 rfl ?_
                refine iq_getR hS 40 J_HSheet_edgeColumn_d37 lf_9_18 (Or.inr ⟨_, rfl⟩) (ka_28 hM) (ra_28_sw hM) rfl ?_
                refine iq_iload hS 42 J_HSheet_edgeColumn_d40 l28 rfl ?_
                refine iq_bipush hS 44 J_HSheet_edgeColumn_d42 (v := 8) (by decide +kernel) rfl ?_
                refine iq_imul hS 45 J_HSheet_edgeColumn_d44 rfl ?_
                refine iq_iload_n hS 46 J_HSheet_edgeColumn_d45 l25 rfl ?_
                refine iq_iadd hS 47 J_HSheet_edgeColumn_d46 rfl ?_
                obtain ⟨g47, h⟩ := ed_gd h
                refine iq_laload hS 48 J_HSheet_edgeColumn_d47 ⟨(ka_sw hM).1, (ka_sw hM).2, g47.1, ix_lt (kl_sw hM) g47.2⟩ rfl ?_
                refine iq_lor hS 49 J_HSheet_edgeColumn_d48 rfl ?_
                refine iq_lstore hS 51 J_HSheet_edgeColumn_d49 (by decide) rfl ?_
                refine iq_iincv hS 54 J_HSheet_edgeColumn_d51 (c := 1) (by decide +kernel) (lk_2i l28 (by decide) (by decide)) (by decide) rfl ?_
                refine iq_goto hS J_HSheet_edgeColumn_d54 (t := 25) rfl ?_
                exact ih _ _ _ (lk_1r (lk_2r l23 (by decide) (by decide)) (by decide)) (lk_1i (lk_2i l24 (by decide) (by decide)) (by decide)) (lk_1i (lk_2i l25 (by decide) (by decide)) (by decide)) (lk_1i (lk_2i l26 (by decide) (by decide)) (by decide)) (lk_1l lk_2s (by decide) (by decide)) lk_1s (lq_l h)
          exact I13 n13 _ _ _ (lk_1r (lk_2r l9 (by decide) (by decide)) (by decide)) (lk_1i (lk_2i l10 (by decide) (by decide)) (by decide)) (lk_1i (lk_2i l11 (by decide) (by decide)) (by decide)) (lk_1i (lk_2i l12 (by decide) (by decide)) (by decide)) (lk_1l lk_2s (by decide) (by decide)) lk_1s hn13
    exact I6 n6 _ _ _ (lk_1r (lk_1r l4 (by decide)) (by decide)) (lk_1i (lk_1i l5 (by decide)) (by decide)) (lk_1i lk_1s (by decide)) lk_1s hn6
  refine iq_if_le hS 4 J_HSheet_edgeColumn_d1 (t := 8) rfl (fun q1 => ?_) rfl (fun q1 => ?_)
  · refine iq_bipush hS 10 J_HSheet_edgeColumn_d8 (v := 7) (by decide +kernel) rfl ?_
    exact J1 _ _ (by simp only [if_pos q1]) l0 l1
  · refine iq_iconst hS 5 J_HSheet_edgeColumn_d4 (v := 0) (by decide +kernel) rfl ?_
    refine iq_goto hS J_HSheet_edgeColumn_d5 (t := 10) rfl ?_
    exact J1 _ _ (by simp only [if_neg q1]) l0 l1
noncomputable def f_HSheet_edgeRow_L28 (w : Bool) (v8 : Int32) (v9 : Int32) (v10 : Int32) (M12 : im_M) (x11 : Int32) : Option ((Int32) ⊕ ((Unit) ⊕ (Int32))) := if 8 ≤ x11 then some (.inr (.inl ())) else gd (inb ((v9 * 8) + x11) 4096) <| if (lg_cmp (im_l M12 (sw w) (Int32.toNatClampNeg ((v9 * 8) + x11))) 0) = 0 then some (.inl (x11 + 1)) else some (.inr (.inr v9))
noncomputable def f_HSheet_edgeRow_L17 (w : Bool) (v3 : Int32) (M6 : im_M) (x4 : Int32) (x5 : Int32) : Option ((Int32 × Int32) ⊕ ((Unit) ⊕ (Int32))) := if (im_i M6 28 1) ≤ x5 then some (.inr (.inl ())) else bs0 (lp (uc1 (f_HSheet_edgeRow_L28 w v3 x4 x5 M6)) 0) (fun (_ : Unit) => some (.inl ((x4 + v3), (x5 + 1)))) (fun t => some (.inr (.inr t)))
noncomputable def f_HSheet_edgeRow (w : Bool) (p0 : Int32) (M : im_M) : Option (Int32) := bs0 (lp (uc2 (f_HSheet_edgeRow_L17 w p0 M)) (((if p0 ≤ 0 then ((im_i M 28 1) - 1) else 0) : Int32), 0)) (fun (_ : Unit) => some (-1)) (fun t => some t)
theorem J_HSheet_edgeRow_d0 : decode J_HSheet_edgeRow.2.1 0 = .ok (.iload_n 1, 1) := by decide +kernel
theorem J_HSheet_edgeRow_d1 : decode J_HSheet_edgeRow.2.1 1 = .ok (.ifCond .le 7, 3) := by decide +kernel
theorem J_HSheet_edgeRow_d4 : decode J_HSheet_edgeRow.2.1 4 = .ok (.iconst 0, 1) := by decide +kernel
theorem J_HSheet_edgeRow_d5 : decode J_HSheet_edgeRow.2.1 5 = .ok (.goto 9, 3) := by decide +kernel
theorem J_HSheet_edgeRow_d8 : decode J_HSheet_edgeRow.2.1 8 = .ok (.aload_n 0, 1) := by decide +kernel
theorem J_HSheet_edgeRow_d9 : decode J_HSheet_edgeRow.2.1 9 = .ok (.getfield 15, 3) := by decide +kernel
theorem J_HSheet_edgeRow_d12 : decode J_HSheet_edgeRow.2.1 12 = .ok (.iconst 1, 1) := by decide +kernel
theorem J_HSheet_edgeRow_d13 : decode J_HSheet_edgeRow.2.1 13 = .ok (.isub, 1) := by decide +kernel
theorem J_HSheet_edgeRow_d14 : decode J_HSheet_edgeRow.2.1 14 = .ok (.istore_n 2, 1) := by decide +kernel
theorem J_HSheet_edgeRow_d15 : decode J_HSheet_edgeRow.2.1 15 = .ok (.iconst 0, 1) := by decide +kernel
theorem J_HSheet_edgeRow_d16 : decode J_HSheet_edgeRow.2.1 16 = .ok (.istore_n 3, 1) := by decide +kernel
theorem J_HSheet_edgeRow_d17 : decode J_HSheet_edgeRow.2.1 17 = .ok (.iload_n 3, 1) := by decide +kernel
theorem J_HSheet_edgeRow_d18 : decode J_HSheet_edgeRow.2.1 18 = .ok (.aload_n 0, 1) := by decide +kernel
theorem J_HSheet_edgeRow_d19 : decode J_HSheet_edgeRow.2.1 19 = .ok (.getfield 15, 3) := by decide +kernel
theorem J_HSheet_edgeRow_d22 : decode J_HSheet_edgeRow.2.1 22 = .ok (.if_icmp .ge 48, 3) := by decide +kernel
theorem J_HSheet_edgeRow_d25 : decode J_HSheet_edgeRow.2.1 25 = .ok (.iconst 0, 1) := by decide +kernel
theorem J_HSheet_edgeRow_d26 : decode J_HSheet_edgeRow.2.1 26 = .ok (.istore 4, 2) := by decide +kernel
theorem J_HSheet_edgeRow_d28 : decode J_HSheet_edgeRow.2.1 28 = .ok (.iload 4, 2) := by decide +kernel
theorem J_HSheet_edgeRow_d30 : decode J_HSheet_edgeRow.2.1 30 = .ok (.bipush 8, 2) := by decide +kernel
theorem J_HSheet_edgeRow_d32 : decode J_HSheet_edgeRow.2.1 32 = .ok (.if_icmp .ge 28, 3) := by decide +kernel
theorem J_HSheet_edgeRow_d35 : decode J_HSheet_edgeRow.2.1 35 = .ok (.aload_n 0, 1) := by decide +kernel
theorem J_HSheet_edgeRow_d36 : decode J_HSheet_edgeRow.2.1 36 = .ok (.getfield 18, 3) := by decide +kernel
theorem J_HSheet_edgeRow_d39 : decode J_HSheet_edgeRow.2.1 39 = .ok (.iload_n 2, 1) := by decide +kernel
theorem J_HSheet_edgeRow_d40 : decode J_HSheet_edgeRow.2.1 40 = .ok (.bipush 8, 2) := by decide +kernel
theorem J_HSheet_edgeRow_d42 : decode J_HSheet_edgeRow.2.1 42 = .ok (.imul, 1) := by decide +kernel
theorem J_HSheet_edgeRow_d43 : decode J_HSheet_edgeRow.2.1 43 = .ok (.iload 4, 2) := by decide +kernel
theorem J_HSheet_edgeRow_d45 : decode J_HSheet_edgeRow.2.1 45 = .ok (.iadd, 1) := by decide +kernel
theorem J_HSheet_edgeRow_d46 : decode J_HSheet_edgeRow.2.1 46 = .ok (.laload, 1) := by decide +kernel
theorem J_HSheet_edgeRow_d47 : decode J_HSheet_edgeRow.2.1 47 = .ok (.lconst 0, 1) := by decide +kernel
theorem J_HSheet_edgeRow_d48 : decode J_HSheet_edgeRow.2.1 48 = .ok (.lcmp, 1) := by decide +kernel
theorem J_HSheet_edgeRow_d49 : decode J_HSheet_edgeRow.2.1 49 = .ok (.ifCond .eq 5, 3) := by decide +kernel
theorem J_HSheet_edgeRow_d52 : decode J_HSheet_edgeRow.2.1 52 = .ok (.iload_n 2, 1) := by decide +kernel
theorem J_HSheet_edgeRow_d53 : decode J_HSheet_edgeRow.2.1 53 = .ok (.ireturn, 1) := by decide +kernel
theorem J_HSheet_edgeRow_d54 : decode J_HSheet_edgeRow.2.1 54 = .ok (.iinc 4 1, 3) := by decide +kernel
theorem J_HSheet_edgeRow_d57 : decode J_HSheet_edgeRow.2.1 57 = .ok (.goto (-29), 3) := by decide +kernel
theorem J_HSheet_edgeRow_d60 : decode J_HSheet_edgeRow.2.1 60 = .ok (.iload_n 2, 1) := by decide +kernel
theorem J_HSheet_edgeRow_d61 : decode J_HSheet_edgeRow.2.1 61 = .ok (.iload_n 1, 1) := by decide +kernel
theorem J_HSheet_edgeRow_d62 : decode J_HSheet_edgeRow.2.1 62 = .ok (.iadd, 1) := by decide +kernel
theorem J_HSheet_edgeRow_d63 : decode J_HSheet_edgeRow.2.1 63 = .ok (.istore_n 2, 1) := by decide +kernel
theorem J_HSheet_edgeRow_d64 : decode J_HSheet_edgeRow.2.1 64 = .ok (.iinc 3 1, 3) := by decide +kernel
theorem J_HSheet_edgeRow_d67 : decode J_HSheet_edgeRow.2.1 67 = .ok (.goto (-50), 3) := by decide +kernel
theorem J_HSheet_edgeRow_d70 : decode J_HSheet_edgeRow.2.1 70 = .ok (.iconst (-1), 1) := by decide +kernel
theorem J_HSheet_edgeRow_d71 : decode J_HSheet_edgeRow.2.1 71 = .ok (.ireturn, 1) := by decide +kernel
theorem f_HSheet_edgeRow_ok {L : Nat} {xs : Nat → Int32} {dep : Nat} {w : Bool} {p0 : Int32} {M : im_M} {Q : Int32 → Prop} (hM : lw_S w M) (h : ed (f_HSheet_edgeRow w p0 M) Q) : ia (tb_G L xs) dep J_HSheet_edgeRow (rpI M Q) (0, lv_args 0 [.ref 28, .int p0], [], M) := by
  have hS : im_St (tb_G L xs) dep J_HSheet_edgeRow (ia (tb_G L xs) dep J_HSheet_edgeRow (rpI M Q)) := ia_St
  unfold f_HSheet_edgeRow at h
  have l0 : im_lk (lv_args 0 [.ref 28, .int p0]) 0 = some (.ref 28) := rfl
  have l1 : im_lk (lv_args 0 [.ref 28, .int p0]) 1 = some (.int p0) := rfl
  refine iq_iload_n hS 1 J_HSheet_edgeRow_d0 l1 rfl ?_
  have J1 : ∀ (z2 : Int32) (L' : List (Nat × Value)), z2 = ((if p0 ≤ 0 then ((im_i M 28 1) - 1) else 0) : Int32) → im_lk L' 0 = some (.ref 28) → im_lk L' 1 = some (.int p0) → ia (tb_G L xs) dep J_HSheet_edgeRow (rpI M Q) (14, L', [.int z2], M) := by
    intro z2 L' e3 l4 l5
    subst e3
    refine iq_istore_n hS 15 J_HSheet_edgeRow_d14 (by decide) rfl ?_
    refine iq_iconst hS 16 J_HSheet_edgeRow_d15 (v := 0) (by decide +kernel) rfl ?_
    refine iq_istore_n hS 17 J_HSheet_edgeRow_d16 (by decide) rfl ?_
    obtain ⟨Q6, hQ6, hR6, h⟩ := bs0_ed h
    have K6 : ∀  (L' : List (Nat × Value)), Q6 (.inl ()) → ia (tb_G L xs) dep J_HSheet_edgeRow (rpI M Q) (70, L', [], M) := by
      intro  L'  h
      replace h := hQ6  h
      refine iq_iconst hS 71 J_HSheet_edgeRow_d70 (v := (-1)) (by decide +kernel) rfl ?_
      exact iq_iret J_HSheet_edgeRow_d71 rfl rfl ⟨_, rfl, rfl, ed_some h⟩
    obtain ⟨r6, hr6, hq6⟩ := h
    obtain ⟨n6, hn6⟩ := lp_n hr6
    have I6 : ∀ (n : Nat) (x7 : Int32) (x8 : Int32) (L' : List (Nat × Value)), im_lk L' 0 = some (.ref 28) → im_lk L' 1 = some (.int p0) → im_lk L' 2 = some (.int x7) → im_lk L' 3 = some (.int x8) → lpn (uc2 (f_HSheet_edgeRow_L17 w p0 M)) n (x7, x8) = some r6 → ia (tb_G L xs) dep J_HSheet_edgeRow (rpI M Q) (17, L', [], M) := by
      intro n
      induction n with
      | zero => intro x7 x8 L' l9 l10 l11 l12 hn; exact (lpn_0 hn).elim
      | succ n ih =>
        intro x7 x8 L' l9 l10 l11 l12 hn
        have h := lpn_ed2 hn
        unfold f_HSheet_edgeRow_L17 at h
        refine iq_iload_n hS 18 J_HSheet_edgeRow_d17 l12 rfl ?_
        refine iq_aload_n hS 19 J_HSheet_edgeRow_d18 l9 rfl ?_
        refine iq_getI hS 22 J_HSheet_edgeRow_d19 lf_9_15 (Or.inl rfl) (ka_28 hM) rfl ?_
        refine iq_icmp_ge hS 25 J_HSheet_edgeRow_d22 (t := 70) rfl (fun q22 => ?_) rfl (fun q22 => ?_)
        · replace h := ed_pos q22 h
          exact K6  _  (lq_r h hq6)
        · replace h := ed_neg q22 h
          refine iq_iconst hS 26 J_HSheet_edgeRow_d25 (v := 0) (by decide +kernel) rfl ?_
          refine iq_istore hS 28 J_HSheet_edgeRow_d26 (by decide) rfl ?_
          obtain ⟨Q13, hQ13, hR13, h⟩ := bs0_ed h
          have K13 : ∀  (L' : List (Nat × Value)), im_lk L' 0 = some (.ref 28) → im_lk L' 1 = some (.int p0) → im_lk L' 2 = some (.int x7) → im_lk L' 3 = some (.int x8) → Q13 (.inl ()) → ia (tb_G L xs) dep J_HSheet_edgeRow (rpI M Q) (60, L', [], M) := by
            intro  L' l14 l15 l16 l17 h
            replace h := hQ13  h
            refine iq_iload_n hS 61 J_HSheet_edgeRow_d60 l16 rfl ?_
            refine iq_iload_n hS 62 J_HSheet_edgeRow_d61 l15 rfl ?_
            refine iq_iadd hS 63 J_HSheet_edgeRow_d62 rfl ?_
            refine iq_istore_n hS 64 J_HSheet_edgeRow_d63 (by decide) rfl ?_
            refine iq_iincv hS 67 J_HSheet_edgeRow_d64 (c := 1) (by decide +kernel) (lk_1i l17 (by decide)) (by decide) rfl ?_
            refine iq_goto hS J_HSheet_edgeRow_d67 (t := 17) rfl ?_
            exact ih _ _ _ (lk_1r (lk_1r l14 (by decide)) (by decide)) (lk_1i (lk_1i l15 (by decide)) (by decide)) (lk_1i lk_1s (by decide)) lk_1s (lq_l h)
          obtain ⟨r13, hr13, hq13⟩ := h
          obtain ⟨n13, hn13⟩ := lp_n hr13
          have I13 : ∀ (n : Nat) (x18 : Int32) (L' : List (Nat × Value)), im_lk L' 0 = some (.ref 28) → im_lk L' 1 = some (.int p0) → im_lk L' 2 = some (.int x7) → im_lk L' 3 = some (.int x8) → im_lk L' 4 = some (.int x18) → lpn (uc1 (f_HSheet_edgeRow_L28 w p0 x7 x8 M)) n x18 = some r13 → ia (tb_G L xs) dep J_HSheet_edgeRow (rpI M Q) (28, L', [], M) := by
            intro n
            induction n with
            | zero => intro x18 L' l19 l20 l21 l22 l23 hn; exact (lpn_0 hn).elim
            | succ n ih =>
              intro x18 L' l19 l20 l21 l22 l23 hn
              have h := lpn_ed1 hn
              unfold f_HSheet_edgeRow_L28 at h
              refine iq_iload hS 30 J_HSheet_edgeRow_d28 l23 rfl ?_
              refine iq_bipush hS 32 J_HSheet_edgeRow_d30 (v := 8) (by decide +kernel) rfl ?_
              refine iq_icmp_ge hS 35 J_HSheet_edgeRow_d32 (t := 60) rfl (fun q32 => ?_) rfl (fun q32 => ?_)
              · replace h := ed_pos q32 h
                exact K13  _ l19 l20 l21 l22 (lq_r h hq13)
              · replace h := ed_neg q32 h
                refine iq_aload_n hS 36 J_HSheet_edgeRow_d35 l19 rfl ?_
                refine iq_getR hS 39 J_HSheet_edgeRow_d36 lf_9_18 (Or.inr ⟨_, rfl⟩) (ka_28 hM) (ra_28_sw hM) rfl ?_
                refine iq_iload_n hS 40 J_HSheet_edgeRow_d39 l21 rfl ?_
                refine iq_bipush hS 42 J_HSheet_edgeRow_d40 (v := 8) (by decide +kernel) rfl ?_
                refine iq_imul hS 43 J_HSheet_edgeRow_d42 rfl ?_
                refine iq_iload hS 45 J_HSheet_edgeRow_d43 l23 rfl ?_
                refine iq_iadd hS 46 J_HSheet_edgeRow_d45 rfl ?_
                obtain ⟨g46, h⟩ := ed_gd h
                refine iq_laload hS 47 J_HSheet_edgeRow_d46 ⟨(ka_sw hM).1, (ka_sw hM).2, g46.1, ix_lt (kl_sw hM) g46.2⟩ rfl ?_
                refine iq_lconst hS 48 J_HSheet_edgeRow_d47 (v := 0) (by decide +kernel) rfl ?_
                refine iq_lcmp hS 49 J_HSheet_edgeRow_d48 rfl ?_
                refine iq_if_eq hS 52 J_HSheet_edgeRow_d49 (t := 54) rfl (fun q49 => ?_) rfl (fun q49 => ?_)
                · replace h := ed_pos q49 h
                  refine iq_iincv hS 57 J_HSheet_edgeRow_d54 (c := 1) (by decide +kernel) l23 (by decide) rfl ?_
                  refine iq_goto hS J_HSheet_edgeRow_d57 (t := 28) rfl ?_
                  exact ih _ _ (lk_1r l19 (by decide)) (lk_1i l20 (by decide)) (lk_1i l21 (by decide)) (lk_1i l22 (by decide)) lk_1s (lq_l h)
                · replace h := ed_neg q49 h
                  refine iq_iload_n hS 53 J_HSheet_edgeRow_d52 l21 rfl ?_
                  exact iq_iret J_HSheet_edgeRow_d53 rfl rfl ⟨_, rfl, rfl, ed_some (hR6 _ (lq_r (hR13 _ (lq_r h hq13)) hq6))⟩
          exact I13 n13 _ _ (lk_1r l9 (by decide)) (lk_1i l10 (by decide)) (lk_1i l11 (by decide)) (lk_1i l12 (by decide)) lk_1s hn13
    exact I6 n6 _ _ _ (lk_1r (lk_1r l4 (by decide)) (by decide)) (lk_1i (lk_1i l5 (by decide)) (by decide)) (lk_1i lk_1s (by decide)) lk_1s hn6
  refine iq_if_le hS 4 J_HSheet_edgeRow_d1 (t := 8) rfl (fun q1 => ?_) rfl (fun q1 => ?_)
  · refine iq_aload_n hS 9 J_HSheet_edgeRow_d8 l0 rfl ?_
    refine iq_getI hS 12 J_HSheet_edgeRow_d9 lf_9_15 (Or.inl rfl) (ka_28 hM) rfl ?_
    refine iq_iconst hS 13 J_HSheet_edgeRow_d12 (v := 1) (by decide +kernel) rfl ?_
    refine iq_isub hS 14 J_HSheet_edgeRow_d13 rfl ?_
    exact J1 _ _ (by simp only [if_pos q1]) l0 l1
  · refine iq_iconst hS 5 J_HSheet_edgeRow_d4 (v := 0) (by decide +kernel) rfl ?_
    refine iq_goto hS J_HSheet_edgeRow_d5 (t := 14) rfl ?_
    exact J1 _ _ (by simp only [if_neg q1]) l0 l1
noncomputable def f_Long_bitCount (p0 : Int64) (M : im_M) : Option (Int32) := some ((Int64.toInt32 ((((((((p0 - ((Int64.toUInt64 p0 >>> ((Int32.toInt64 1).toUInt64 &&& Int64.toUInt64 63)).toInt64 &&& 6148914691236517205)) &&& 3689348814741910323) + ((Int64.toUInt64 (p0 - ((Int64.toUInt64 p0 >>> ((Int32.toInt64 1).toUInt64 &&& Int64.toUInt64 63)).toInt64 &&& 6148914691236517205)) >>> ((Int32.toInt64 2).toUInt64 &&& Int64.toUInt64 63)).toInt64 &&& 3689348814741910323)) + (Int64.toUInt64 (((p0 - ((Int64.toUInt64 p0 >>> ((Int32.toInt64 1).toUInt64 &&& Int64.toUInt64 63)).toInt64 &&& 6148914691236517205)) &&& 3689348814741910323) + ((Int64.toUInt64 (p0 - ((Int64.toUInt64 p0 >>> ((Int32.toInt64 1).toUInt64 &&& Int64.toUInt64 63)).toInt64 &&& 6148914691236517205)) >>> ((Int32.toInt64 2).toUInt64 &&& Int64.toUInt64 63)).toInt64 &&& 3689348814741910323)) >>> ((Int32.toInt64 4).toUInt64 &&& Int64.toUInt64 63)).toInt64) &&& 1085102592571150095) + (Int64.toUInt64 (((((p0 - ((Int64.toUInt64 p0 >>> ((Int32.toInt64 1).toUInt64 &&& Int64.toUInt64 63)).toInt64 &&& 6148914691236517205)) &&& 3689348814741910323) + ((Int64.toUInt64 (p0 - ((Int64.toUInt64 p0 >>> ((Int32.toInt64 1).toUInt64 &&& Int64.toUInt64 63)).toInt64 &&& 6148914691236517205)) >>> ((Int32.toInt64 2).toUInt64 &&& Int64.toUInt64 63)).toInt64 &&& 3689348814741910323)) + (Int64.toUInt64 (((p0 - ((Int64.toUInt64 p0 >>> ((Int32.toInt64 1).toUInt64 &&& Int64.toUInt64 63)).toInt64 &&& 6148914691236517205)) &&& 3689348814741910323) + ((Int64.toUInt64 (p0 - ((Int64.toUInt64 p0 >>> ((Int32.toInt64 1).toUInt64 &&& Int64.toUInt64 63)).toInt64 &&& 6148914691236517205)) >>> ((Int32.toInt64 2).toUInt64 &&& Int64.toUInt64 63)).toInt64 &&& 3689348814741910323)) >>> ((Int32.toInt64 4).toUInt64 &&& Int64.toUInt64 63)).toInt64) &&& 1085102592571150095) >>> ((Int32.toInt64 8).toUInt64 &&& Int64.toUInt64 63)).toInt64) + (Int64.toUInt64 ((((((p0 - ((Int64.toUInt64 p0 >>> ((Int32.toInt64 1).toUInt64 &&& Int64.toUInt64 63)).toInt64 &&& 6148914691236517205)) &&& 3689348814741910323) + ((Int64.toUInt64 (p0 - ((Int64.toUInt64 p0 >>> ((Int32.toInt64 1).toUInt64 &&& Int64.toUInt64 63)).toInt64 &&& 6148914691236517205)) >>> ((Int32.toInt64 2).toUInt64 &&& Int64.toUInt64 63)).toInt64 &&& 3689348814741910323)) + (Int64.toUInt64 (((p0 - ((Int64.toUInt64 p0 >>> ((Int32.toInt64 1).toUInt64 &&& Int64.toUInt64 63)).toInt64 &&& 6148914691236517205)) &&& 3689348814741910323) + ((Int64.toUInt64 (p0 - ((Int64.toUInt64 p0 >>> ((Int32.toInt64 1).toUInt64 &&& Int64.toUInt64 63)).toInt64 &&& 6148914691236517205)) >>> ((Int32.toInt64 2).toUInt64 &&& Int64.toUInt64 63)).toInt64 &&& 3689348814741910323)) >>> ((Int32.toInt64 4).toUInt64 &&& Int64.toUInt64 63)).toInt64) &&& 1085102592571150095) + (Int64.toUInt64 (((((p0 - ((Int64.toUInt64 p0 >>> ((Int32.toInt64 1).toUInt64 &&& Int64.toUInt64 63)).toInt64 &&& 6148914691236517205)) &&& 3689348814741910323) + ((Int64.toUInt64 (p0 - ((Int64.toUInt64 p0 >>> ((Int32.toInt64 1).toUInt64 &&& Int64.toUInt64 63)).toInt64 &&& 6148914691236517205)) >>> ((Int32.toInt64 2).toUInt64 &&& Int64.toUInt64 63)).toInt64 &&& 3689348814741910323)) + (Int64.toUInt64 (((p0 - ((Int64.toUInt64 p0 >>> ((Int32.toInt64 1).toUInt64 &&& Int64.toUInt64 63)).toInt64 &&& 6148914691236517205)) &&& 3689348814741910323) + ((Int64.toUInt64 (p0 - ((Int64.toUInt64 p0 >>> ((Int32.toInt64 1).toUInt64 &&& Int64.toUInt64 63)).toInt64 &&& 6148914691236517205)) >>> ((Int32.toInt64 2).toUInt64 &&& Int64.toUInt64 63)).toInt64 &&& 3689348814741910323)) >>> ((Int32.toInt64 4).toUInt64 &&& Int64.toUInt64 63)).toInt64) &&& 1085102592571150095) >>> ((Int32.toInt64 8).toUInt64 &&& Int64.toUInt64 63)).toInt64) >>> ((Int32.toInt64 16).toUInt64 &&& Int64.toUInt64 63)).toInt64) + (Int64.toUInt64 (((((((p0 - ((Int64.toUInt64 p0 >>> ((Int32.toInt64 1).toUInt64 &&& Int64.toUInt64 63)).toInt64 &&& 6148914691236517205)) &&& 3689348814741910323) + ((Int64.toUInt64 (p0 - ((Int64.toUInt64 p0 >>> ((Int32.toInt64 1).toUInt64 &&& Int64.toUInt64 63)).toInt64 &&& 6148914691236517205)) >>> ((Int32.toInt64 2).toUInt64 &&& Int64.toUInt64 63)).toInt64 &&& 3689348814741910323)) + (Int64.toUInt64 (((p0 - ((Int64.toUInt64 p0 >>> ((Int32.toInt64 1).toUInt64 &&& Int64.toUInt64 63)).toInt64 &&& 6148914691236517205)) &&& 3689348814741910323) + ((Int64.toUInt64 (p0 - ((Int64.toUInt64 p0 >>> ((Int32.toInt64 1).toUInt64 &&& Int64.toUInt64 63)).toInt64 &&& 6148914691236517205)) >>> ((Int32.toInt64 2).toUInt64 &&& Int64.toUInt64 63)).toInt64 &&& 3689348814741910323)) >>> ((Int32.toInt64 4).toUInt64 &&& Int64.toUInt64 63)).toInt64) &&& 1085102592571150095) + (Int64.toUInt64 (((((p0 - ((Int64.toUInt64 p0 >>> ((Int32.toInt64 1).toUInt64 &&& Int64.toUInt64 63)).toInt64 &&& 6148914691236517205)) &&& 3689348814741910323) + ((Int64.toUInt64 (p0 - ((Int64.toUInt64 p0 >>> ((Int32.toInt64 1).toUInt64 &&& Int64.toUInt64 63)).toInt64 &&& 6148914691236517205)) >>> ((Int32.toInt64 2).toUInt64 &&& Int64.toUInt64 63)).toInt64 &&& 3689348814741910323)) + (Int64.toUInt64 (((p0 - ((Int64.toUInt64 p0 >>> ((Int32.toInt64 1).toUInt64 &&& Int64.toUInt64 63)).toInt64 &&& 6148914691236517205)) &&& 3689348814741910323) + ((Int64.toUInt64 (p0 - ((Int64.toUInt64 p0 >>> ((Int32.toInt64 1).toUInt64 &&& Int64.toUInt64 63)).toInt64 &&& 6148914691236517205)) >>> ((Int32.toInt64 2).toUInt64 &&& Int64.toUInt64 63)).toInt64 &&& 3689348814741910323)) >>> ((Int32.toInt64 4).toUInt64 &&& Int64.toUInt64 63)).toInt64) &&& 1085102592571150095) >>> ((Int32.toInt64 8).toUInt64 &&& Int64.toUInt64 63)).toInt64) + (Int64.toUInt64 ((((((p0 - ((Int64.toUInt64 p0 >>> ((Int32.toInt64 1).toUInt64 &&& Int64.toUInt64 63)).toInt64 &&& 6148914691236517205)) &&& 3689348814741910323) + ((Int64.toUInt64 (p0 - ((Int64.toUInt64 p0 >>> ((Int32.toInt64 1).toUInt64 &&& Int64.toUInt64 63)).toInt64 &&& 6148914691236517205)) >>> ((Int32.toInt64 2).toUInt64 &&& Int64.toUInt64 63)).toInt64 &&& 3689348814741910323)) + (Int64.toUInt64 (((p0 - ((Int64.toUInt64 p0 >>> ((Int32.toInt64 1).toUInt64 &&& Int64.toUInt64 63)).toInt64 &&& 6148914691236517205)) &&& 3689348814741910323) + ((Int64.toUInt64 (p0 - ((Int64.toUInt64 p0 >>> ((Int32.toInt64 1).toUInt64 &&& Int64.toUInt64 63)).toInt64 &&& 6148914691236517205)) >>> ((Int32.toInt64 2).toUInt64 &&& Int64.toUInt64 63)).toInt64 &&& 3689348814741910323)) >>> ((Int32.toInt64 4).toUInt64 &&& Int64.toUInt64 63)).toInt64) &&& 1085102592571150095) + (Int64.toUInt64 (((((p0 - ((Int64.toUInt64 p0 >>> ((Int32.toInt64 1).toUInt64 &&& Int64.toUInt64 63)).toInt64 &&& 6148914691236517205)) &&& 3689348814741910323) + ((Int64.toUInt64 (p0 - ((Int64.toUInt64 p0 >>> ((Int32.toInt64 1).toUInt64 &&& Int64.toUInt64 63)).toInt64 &&& 6148914691236517205)) >>> ((Int32.toInt64 2).toUInt64 &&& Int64.toUInt64 63)).toInt64 &&& 3689348814741910323)) + (Int64.toUInt64 (((p0 - ((Int64.toUInt64 p0 >>> ((Int32.toInt64 1).toUInt64 &&& Int64.toUInt64 63)).toInt64 &&& 6148914691236517205)) &&& 3689348814741910323) + ((Int64.toUInt64 (p0 - ((Int64.toUInt64 p0 >>> ((Int32.toInt64 1).toUInt64 &&& Int64.toUInt64 63)).toInt64 &&& 6148914691236517205)) >>> ((Int32.toInt64 2).toUInt64 &&& Int64.toUInt64 63)).toInt64 &&& 3689348814741910323)) >>> ((Int32.toInt64 4).toUInt64 &&& Int64.toUInt64 63)).toInt64) &&& 1085102592571150095) >>> ((Int32.toInt64 8).toUInt64 &&& Int64.toUInt64 63)).toInt64) >>> ((Int32.toInt64 16).toUInt64 &&& Int64.toUInt64 63)).toInt64) >>> ((Int32.toInt64 32).toUInt64 &&& Int64.toUInt64 63)).toInt64)) &&& 127)
theorem J_Long_bitCount_d0 : decode J_Long_bitCount.2.1 0 = .ok (.lload_n 0, 1) := by decide +kernel
theorem J_Long_bitCount_d1 : decode J_Long_bitCount.2.1 1 = .ok (.lload_n 0, 1) := by decide +kernel
theorem J_Long_bitCount_d2 : decode J_Long_bitCount.2.1 2 = .ok (.iconst 1, 1) := by decide +kernel
theorem J_Long_bitCount_d3 : decode J_Long_bitCount.2.1 3 = .ok (.lushr, 1) := by decide +kernel
theorem J_Long_bitCount_d4 : decode J_Long_bitCount.2.1 4 = .ok (.ldc2_w 314, 3) := by decide +kernel
theorem J_Long_bitCount_d7 : decode J_Long_bitCount.2.1 7 = .ok (.land, 1) := by decide +kernel
theorem J_Long_bitCount_d8 : decode J_Long_bitCount.2.1 8 = .ok (.lsub, 1) := by decide +kernel
theorem J_Long_bitCount_d9 : decode J_Long_bitCount.2.1 9 = .ok (.lstore_n 0, 1) := by decide +kernel
theorem J_Long_bitCount_d10 : decode J_Long_bitCount.2.1 10 = .ok (.lload_n 0, 1) := by decide +kernel
theorem J_Long_bitCount_d11 : decode J_Long_bitCount.2.1 11 = .ok (.ldc2_w 316, 3) := by decide +kernel
theorem J_Long_bitCount_d14 : decode J_Long_bitCount.2.1 14 = .ok (.land, 1) := by decide +kernel
theorem J_Long_bitCount_d15 : decode J_Long_bitCount.2.1 15 = .ok (.lload_n 0, 1) := by decide +kernel
theorem J_Long_bitCount_d16 : decode J_Long_bitCount.2.1 16 = .ok (.iconst 2, 1) := by decide +kernel
theorem J_Long_bitCount_d17 : decode J_Long_bitCount.2.1 17 = .ok (.lushr, 1) := by decide +kernel
theorem J_Long_bitCount_d18 : decode J_Long_bitCount.2.1 18 = .ok (.ldc2_w 316, 3) := by decide +kernel
theorem J_Long_bitCount_d21 : decode J_Long_bitCount.2.1 21 = .ok (.land, 1) := by decide +kernel
theorem J_Long_bitCount_d22 : decode J_Long_bitCount.2.1 22 = .ok (.ladd, 1) := by decide +kernel
theorem J_Long_bitCount_d23 : decode J_Long_bitCount.2.1 23 = .ok (.lstore_n 0, 1) := by decide +kernel
theorem J_Long_bitCount_d24 : decode J_Long_bitCount.2.1 24 = .ok (.lload_n 0, 1) := by decide +kernel
theorem J_Long_bitCount_d25 : decode J_Long_bitCount.2.1 25 = .ok (.lload_n 0, 1) := by decide +kernel
theorem J_Long_bitCount_d26 : decode J_Long_bitCount.2.1 26 = .ok (.iconst 4, 1) := by decide +kernel
theorem J_Long_bitCount_d27 : decode J_Long_bitCount.2.1 27 = .ok (.lushr, 1) := by decide +kernel
theorem J_Long_bitCount_d28 : decode J_Long_bitCount.2.1 28 = .ok (.ladd, 1) := by decide +kernel
theorem J_Long_bitCount_d29 : decode J_Long_bitCount.2.1 29 = .ok (.ldc2_w 318, 3) := by decide +kernel
theorem J_Long_bitCount_d32 : decode J_Long_bitCount.2.1 32 = .ok (.land, 1) := by decide +kernel
theorem J_Long_bitCount_d33 : decode J_Long_bitCount.2.1 33 = .ok (.lstore_n 0, 1) := by decide +kernel
theorem J_Long_bitCount_d34 : decode J_Long_bitCount.2.1 34 = .ok (.lload_n 0, 1) := by decide +kernel
theorem J_Long_bitCount_d35 : decode J_Long_bitCount.2.1 35 = .ok (.lload_n 0, 1) := by decide +kernel
theorem J_Long_bitCount_d36 : decode J_Long_bitCount.2.1 36 = .ok (.bipush 8, 2) := by decide +kernel
theorem J_Long_bitCount_d38 : decode J_Long_bitCount.2.1 38 = .ok (.lushr, 1) := by decide +kernel
theorem J_Long_bitCount_d39 : decode J_Long_bitCount.2.1 39 = .ok (.ladd, 1) := by decide +kernel
theorem J_Long_bitCount_d40 : decode J_Long_bitCount.2.1 40 = .ok (.lstore_n 0, 1) := by decide +kernel
theorem J_Long_bitCount_d41 : decode J_Long_bitCount.2.1 41 = .ok (.lload_n 0, 1) := by decide +kernel
theorem J_Long_bitCount_d42 : decode J_Long_bitCount.2.1 42 = .ok (.lload_n 0, 1) := by decide +kernel
theorem J_Long_bitCount_d43 : decode J_Long_bitCount.2.1 43 = .ok (.bipush 16, 2) := by decide +kernel
theorem J_Long_bitCount_d45 : decode J_Long_bitCount.2.1 45 = .ok (.lushr, 1) := by decide +kernel
theorem J_Long_bitCount_d46 : decode J_Long_bitCount.2.1 46 = .ok (.ladd, 1) := by decide +kernel
theorem J_Long_bitCount_d47 : decode J_Long_bitCount.2.1 47 = .ok (.lstore_n 0, 1) := by decide +kernel
theorem J_Long_bitCount_d48 : decode J_Long_bitCount.2.1 48 = .ok (.lload_n 0, 1) := by decide +kernel
theorem J_Long_bitCount_d49 : decode J_Long_bitCount.2.1 49 = .ok (.lload_n 0, 1) := by decide +kernel
theorem J_Long_bitCount_d50 : decode J_Long_bitCount.2.1 50 = .ok (.bipush 32, 2) := by decide +kernel
theorem J_Long_bitCount_d52 : decode J_Long_bitCount.2.1 52 = .ok (.lushr, 1) := by decide +kernel
theorem J_Long_bitCount_d53 : decode J_Long_bitCount.2.1 53 = .ok (.ladd, 1) := by decide +kernel
theorem J_Long_bitCount_d54 : decode J_Long_bitCount.2.1 54 = .ok (.lstore_n 0, 1) := by decide +kernel
theorem J_Long_bitCount_d55 : decode J_Long_bitCount.2.1 55 = .ok (.lload_n 0, 1) := by decide +kernel
theorem J_Long_bitCount_d56 : decode J_Long_bitCount.2.1 56 = .ok (.l2i, 1) := by decide +kernel
theorem J_Long_bitCount_d57 : decode J_Long_bitCount.2.1 57 = .ok (.bipush 127, 2) := by decide +kernel
theorem J_Long_bitCount_d59 : decode J_Long_bitCount.2.1 59 = .ok (.iand, 1) := by decide +kernel
theorem J_Long_bitCount_d60 : decode J_Long_bitCount.2.1 60 = .ok (.ireturn, 1) := by decide +kernel
theorem f_Long_bitCount_ok {L : Nat} {xs : Nat → Int32} {dep : Nat} {w : Bool} {p0 : Int64} {M : im_M} {Q : Int32 → Prop} (hM : lw_S w M) (h : ed (f_Long_bitCount p0 M) Q) : ia (tb_G L xs) dep J_Long_bitCount (rpI M Q) (0, lv_args 0 [.long p0], [], M) := by
  have hS : im_St (tb_G L xs) dep J_Long_bitCount (ia (tb_G L xs) dep J_Long_bitCount (rpI M Q)) := ia_St
  unfold f_Long_bitCount at h
  have l0 : im_lk (lv_args 0 [.long p0]) 0 = some (.long p0) := rfl
  refine iq_lload_n hS 1 J_Long_bitCount_d0 l0 rfl ?_
  refine iq_lload_n hS 2 J_Long_bitCount_d1 l0 rfl ?_
  refine iq_iconst hS 3 J_Long_bitCount_d2 (v := 1) (by decide +kernel) rfl ?_
  refine iq_lushr hS 4 J_Long_bitCount_d3 rfl ?_
  refine iq_ldc2_w hS 7 J_Long_bitCount_d4 lk_24_314 rfl ?_
  refine iq_land hS 8 J_Long_bitCount_d7 rfl ?_
  refine iq_lsub hS 9 J_Long_bitCount_d8 rfl ?_
  refine iq_lstore_n hS 10 J_Long_bitCount_d9 (by decide) rfl ?_
  refine iq_lload_n hS 11 J_Long_bitCount_d10 lk_2s rfl ?_
  refine iq_ldc2_w hS 14 J_Long_bitCount_d11 lk_24_316 rfl ?_
  refine iq_land hS 15 J_Long_bitCount_d14 rfl ?_
  refine iq_lload_n hS 16 J_Long_bitCount_d15 lk_2s rfl ?_
  refine iq_iconst hS 17 J_Long_bitCount_d16 (v := 2) (by decide +kernel) rfl ?_
  refine iq_lushr hS 18 J_Long_bitCount_d17 rfl ?_
  refine iq_ldc2_w hS 21 J_Long_bitCount_d18 lk_24_316 rfl ?_
  refine iq_land hS 22 J_Long_bitCount_d21 rfl ?_
  refine iq_ladd hS 23 J_Long_bitCount_d22 rfl ?_
  refine iq_lstore_n hS 24 J_Long_bitCount_d23 (by decide) rfl ?_
  refine iq_lload_n hS 25 J_Long_bitCount_d24 lk_2s rfl ?_
  refine iq_lload_n hS 26 J_Long_bitCount_d25 lk_2s rfl ?_
  refine iq_iconst hS 27 J_Long_bitCount_d26 (v := 4) (by decide +kernel) rfl ?_
  refine iq_lushr hS 28 J_Long_bitCount_d27 rfl ?_
  refine iq_ladd hS 29 J_Long_bitCount_d28 rfl ?_
  refine iq_ldc2_w hS 32 J_Long_bitCount_d29 lk_24_318 rfl ?_
  refine iq_land hS 33 J_Long_bitCount_d32 rfl ?_
  refine iq_lstore_n hS 34 J_Long_bitCount_d33 (by decide) rfl ?_
  refine iq_lload_n hS 35 J_Long_bitCount_d34 lk_2s rfl ?_
  refine iq_lload_n hS 36 J_Long_bitCount_d35 lk_2s rfl ?_
  refine iq_bipush hS 38 J_Long_bitCount_d36 (v := 8) (by decide +kernel) rfl ?_
  refine iq_lushr hS 39 J_Long_bitCount_d38 rfl ?_
  refine iq_ladd hS 40 J_Long_bitCount_d39 rfl ?_
  refine iq_lstore_n hS 41 J_Long_bitCount_d40 (by decide) rfl ?_
  refine iq_lload_n hS 42 J_Long_bitCount_d41 lk_2s rfl ?_
  refine iq_lload_n hS 43 J_Long_bitCount_d42 lk_2s rfl ?_
  refine iq_bipush hS 45 J_Long_bitCount_d43 (v := 16) (by decide +kernel) rfl ?_
  refine iq_lushr hS 46 J_Long_bitCount_d45 rfl ?_
  refine iq_ladd hS 47 J_Long_bitCount_d46 rfl ?_
  refine iq_lstore_n hS 48 J_Long_bitCount_d47 (by decide) rfl ?_
  refine iq_lload_n hS 49 J_Long_bitCount_d48 lk_2s rfl ?_
  refine iq_lload_n hS 50 J_Long_bitCount_d49 lk_2s rfl ?_
  refine iq_bipush hS 52 J_Long_bitCount_d50 (v := 32) (by decide +kernel) rfl ?_
  refine iq_lushr hS 53 J_Long_bitCount_d52 rfl ?_
  refine iq_ladd hS 54 J_Long_bitCount_d53 rfl ?_
  refine iq_lstore_n hS 55 J_Long_bitCount_d54 (by decide) rfl ?_
  refine iq_lload_n hS 56 J_Long_bitCount_d55 lk_2s rfl ?_
  refine iq_l2i hS 57 J_Long_bitCount_d56 rfl ?_
  refine iq_bipush hS 59 J_Long_bitCount_d57 (v := 127) (by decide +kernel) rfl ?_
  refine iq_iand hS 60 J_Long_bitCount_d59 rfl ?_
  exact iq_iret J_Long_bitCount_d60 rfl rfl ⟨_, rfl, rfl, ed_some h⟩
noncomputable def f_HSheet_darkCount_L4 (w : Bool) (M4 : im_M) (x2 : Int32) (x3 : Int32) : Option ((Int32 × Int32) ⊕ (Int32)) := if ((im_i M4 28 1) * 8) ≤ x3 then some (.inr x2) else gd (inb x3 4096) <| bd1 (f_Long_bitCount (im_l M4 (sw w) (Int32.toNatClampNeg x3)) M4) fun (x5 : Int32) => some (.inl ((x2 + x5), (x3 + 1)))
noncomputable def f_HSheet_darkCount (w : Bool) (M : im_M) : Option (Int32) := bd1 (lp (uc2 (f_HSheet_darkCount_L4 w M)) (0, 0)) fun (y6 : Int32) => some y6
theorem J_HSheet_darkCount_d0 : decode J_HSheet_darkCount.2.1 0 = .ok (.iconst 0, 1) := by decide +kernel
theorem J_HSheet_darkCount_d1 : decode J_HSheet_darkCount.2.1 1 = .ok (.istore_n 1, 1) := by decide +kernel
theorem J_HSheet_darkCount_d2 : decode J_HSheet_darkCount.2.1 2 = .ok (.iconst 0, 1) := by decide +kernel
theorem J_HSheet_darkCount_d3 : decode J_HSheet_darkCount.2.1 3 = .ok (.istore_n 2, 1) := by decide +kernel
theorem J_HSheet_darkCount_d4 : decode J_HSheet_darkCount.2.1 4 = .ok (.iload_n 2, 1) := by decide +kernel
theorem J_HSheet_darkCount_d5 : decode J_HSheet_darkCount.2.1 5 = .ok (.aload_n 0, 1) := by decide +kernel
theorem J_HSheet_darkCount_d6 : decode J_HSheet_darkCount.2.1 6 = .ok (.getfield 15, 3) := by decide +kernel
theorem J_HSheet_darkCount_d9 : decode J_HSheet_darkCount.2.1 9 = .ok (.bipush 8, 2) := by decide +kernel
theorem J_HSheet_darkCount_d11 : decode J_HSheet_darkCount.2.1 11 = .ok (.imul, 1) := by decide +kernel
theorem J_HSheet_darkCount_d12 : decode J_HSheet_darkCount.2.1 12 = .ok (.if_icmp .ge 21, 3) := by decide +kernel
theorem J_HSheet_darkCount_d15 : decode J_HSheet_darkCount.2.1 15 = .ok (.iload_n 1, 1) := by decide +kernel
theorem J_HSheet_darkCount_d16 : decode J_HSheet_darkCount.2.1 16 = .ok (.aload_n 0, 1) := by decide +kernel
theorem J_HSheet_darkCount_d17 : decode J_HSheet_darkCount.2.1 17 = .ok (.getfield 18, 3) := by decide +kernel
theorem J_HSheet_darkCount_d20 : decode J_HSheet_darkCount.2.1 20 = .ok (.iload_n 2, 1) := by decide +kernel
theorem J_HSheet_darkCount_d21 : decode J_HSheet_darkCount.2.1 21 = .ok (.laload, 1) := by decide +kernel
theorem J_HSheet_darkCount_d22 : decode J_HSheet_darkCount.2.1 22 = .ok (.invokestatic 63, 3) := by decide +kernel
theorem J_HSheet_darkCount_d25 : decode J_HSheet_darkCount.2.1 25 = .ok (.iadd, 1) := by decide +kernel
theorem J_HSheet_darkCount_d26 : decode J_HSheet_darkCount.2.1 26 = .ok (.istore_n 1, 1) := by decide +kernel
theorem J_HSheet_darkCount_d27 : decode J_HSheet_darkCount.2.1 27 = .ok (.iinc 2 1, 3) := by decide +kernel
theorem J_HSheet_darkCount_d30 : decode J_HSheet_darkCount.2.1 30 = .ok (.goto (-26), 3) := by decide +kernel
theorem J_HSheet_darkCount_d33 : decode J_HSheet_darkCount.2.1 33 = .ok (.iload_n 1, 1) := by decide +kernel
theorem J_HSheet_darkCount_d34 : decode J_HSheet_darkCount.2.1 34 = .ok (.ireturn, 1) := by decide +kernel
theorem f_HSheet_darkCount_ok {L : Nat} {xs : Nat → Int32} {dep : Nat} {w : Bool} {M : im_M} {Q : Int32 → Prop} (hM : lw_S w M) (h : ed (f_HSheet_darkCount w M) Q) : ia (tb_G L xs) (dep + 1) J_HSheet_darkCount (rpI M Q) (0, lv_args 0 [.ref 28], [], M) := by
  have hS : im_St (tb_G L xs) (dep + 1) J_HSheet_darkCount (ia (tb_G L xs) (dep + 1) J_HSheet_darkCount (rpI M Q)) := ia_St
  unfold f_HSheet_darkCount at h
  have l0 : im_lk (lv_args 0 [.ref 28]) 0 = some (.ref 28) := rfl
  refine iq_iconst hS 1 J_HSheet_darkCount_d0 (v := 0) (by decide +kernel) rfl ?_
  refine iq_istore_n hS 2 J_HSheet_darkCount_d1 (by decide) rfl ?_
  refine iq_iconst hS 3 J_HSheet_darkCount_d2 (v := 0) (by decide +kernel) rfl ?_
  refine iq_istore_n hS 4 J_HSheet_darkCount_d3 (by decide) rfl ?_
  obtain ⟨Q1, hQ1, h⟩ := bd1_ed h
  have K1 : ∀ (y2 : Int32) (L' : List (Nat × Value)), im_lk L' 1 = some (.int y2) → Q1 y2 → ia (tb_G L xs) (dep + 1) J_HSheet_darkCount (rpI M Q) (33, L', [], M) := by
    intro y2 L' l3 h
    replace h := hQ1 _ h
    refine iq_iload_n hS 34 J_HSheet_darkCount_d33 l3 rfl ?_
    exact iq_iret J_HSheet_darkCount_d34 rfl rfl ⟨_, rfl, rfl, ed_some h⟩
  obtain ⟨r1, hr1, hq1⟩ := h
  obtain ⟨n1, hn1⟩ := lp_n hr1
  have I1 : ∀ (n : Nat) (x4 : Int32) (x5 : Int32) (L' : List (Nat × Value)), im_lk L' 0 = some (.ref 28) → im_lk L' 1 = some (.int x4) → im_lk L' 2 = some (.int x5) → lpn (uc2 (f_HSheet_darkCount_L4 w M)) n (x4, x5) = some r1 → ia (tb_G L xs) (dep + 1) J_HSheet_darkCount (rpI M Q) (4, L', [], M) := by
    intro n
    induction n with
    | zero => intro x4 x5 L' l6 l7 l8 hn; exact (lpn_0 hn).elim
    | succ n ih =>
      intro x4 x5 L' l6 l7 l8 hn
      have h := lpn_ed2 hn
      unfold f_HSheet_darkCount_L4 at h
      refine iq_iload_n hS 5 J_HSheet_darkCount_d4 l8 rfl ?_
      refine iq_aload_n hS 6 J_HSheet_darkCount_d5 l6 rfl ?_
      refine iq_getI hS 9 J_HSheet_darkCount_d6 lf_9_15 (Or.inl rfl) (ka_28 hM) rfl ?_
      refine iq_bipush hS 11 J_HSheet_darkCount_d9 (v := 8) (by decide +kernel) rfl ?_
      refine iq_imul hS 12 J_HSheet_darkCount_d11 rfl ?_
      refine iq_icmp_ge hS 15 J_HSheet_darkCount_d12 (t := 33) rfl (fun q12 => ?_) rfl (fun q12 => ?_)
      · replace h := ed_pos q12 h
        exact K1 _ _ l7 (lq_r h hq1)
      · replace h := ed_neg q12 h
        refine iq_iload_n hS 16 J_HSheet_darkCount_d15 l7 rfl ?_
        refine iq_aload_n hS 17 J_HSheet_darkCount_d16 l6 rfl ?_
        refine iq_getR hS 20 J_HSheet_darkCount_d17 lf_9_18 (Or.inr ⟨_, rfl⟩) (ka_28 hM) (ra_28_sw hM) rfl ?_
        refine iq_iload_n hS 21 J_HSheet_darkCount_d20 l8 rfl ?_
        obtain ⟨g21, h⟩ := ed_gd h
        refine iq_laload hS 22 J_HSheet_darkCount_d21 ⟨(ka_sw hM).1, (ka_sw hM).2, g21.1, ix_lt (kl_sw hM) g21.2⟩ rfl ?_
        obtain ⟨Q9, hQ9, h⟩ := bd1_ed h
        refine iq_cpI hS 25 J_HSheet_darkCount_d22 rfl (pr_stat (vs := [_]) lc_9_63 lT_196 rfl rfl (by decide) rfl (Nat.le_of_ble_eq_true rfl) (Nat.le_of_ble_eq_true rfl)) (f_Long_bitCount_ok (dep := dep + 0) hM h) rfl ?_
        intro x9 h
        replace h := hQ9 _ h
        refine iq_iadd hS 26 J_HSheet_darkCount_d25 rfl ?_
        refine iq_istore_n hS 27 J_HSheet_darkCount_d26 (by decide) rfl ?_
        refine iq_iincv hS 30 J_HSheet_darkCount_d27 (c := 1) (by decide +kernel) (lk_1i l8 (by decide)) (by decide) rfl ?_
        refine iq_goto hS J_HSheet_darkCount_d30 (t := 4) rfl ?_
        exact ih _ _ _ (lk_1r (lk_1r l6 (by decide)) (by decide)) (lk_1i lk_1s (by decide)) lk_1s (lq_l h)
  exact I1 n1 _ _ _ (lk_1r (lk_1r l0 (by decide)) (by decide)) (lk_1i lk_1s (by decide)) lk_1s hn1
noncomputable def f_H_told (w : Bool) (p0 : Int32) (M : im_M) : Option (Int32) := if p0 < 0 then none else if p0 ≤ 6 then if p0 = 0 then some (im_i M 28 0) else if p0 = 1 then some (im_i M 28 1) else if p0 = 2 then bd1 (f_HSheet_edgeColumn w 1 M) fun (x1 : Int32) => some x1 else if p0 = 3 then bd1 (f_HSheet_edgeRow w 1 M) fun (x2 : Int32) => some x2 else if p0 = 4 then bd1 (f_HSheet_edgeColumn w (-1) M) fun (x3 : Int32) => some x3 else if p0 = 5 then bd1 (f_HSheet_edgeRow w (-1) M) fun (x4 : Int32) => some x4 else bd1 (f_HSheet_darkCount w M) fun (x5 : Int32) => some x5 else none
theorem J_H_told_d18 : decode J_H_told.2.1 18 = .ok (.iload_n 1, 1) := by decide +kernel
theorem J_H_told_d19 : decode J_H_told.2.1 19 = .ok (.tableswitch 89 0 5 #[37, 45, 53, 62, 71, 80], 37) := by decide +kernel
theorem J_H_told_d56 : decode J_H_told.2.1 56 = .ok (.aload_n 0, 1) := by decide +kernel
theorem J_H_told_d57 : decode J_H_told.2.1 57 = .ok (.getfield 37, 3) := by decide +kernel
theorem J_H_told_d60 : decode J_H_told.2.1 60 = .ok (.getfield 163, 3) := by decide +kernel
theorem J_H_told_d63 : decode J_H_told.2.1 63 = .ok (.ireturn, 1) := by decide +kernel
theorem J_H_told_d64 : decode J_H_told.2.1 64 = .ok (.aload_n 0, 1) := by decide +kernel
theorem J_H_told_d65 : decode J_H_told.2.1 65 = .ok (.getfield 37, 3) := by decide +kernel
theorem J_H_told_d68 : decode J_H_told.2.1 68 = .ok (.getfield 166, 3) := by decide +kernel
theorem J_H_told_d71 : decode J_H_told.2.1 71 = .ok (.ireturn, 1) := by decide +kernel
theorem J_H_told_d72 : decode J_H_told.2.1 72 = .ok (.aload_n 0, 1) := by decide +kernel
theorem J_H_told_d73 : decode J_H_told.2.1 73 = .ok (.getfield 37, 3) := by decide +kernel
theorem J_H_told_d76 : decode J_H_told.2.1 76 = .ok (.iconst 1, 1) := by decide +kernel
theorem J_H_told_d77 : decode J_H_told.2.1 77 = .ok (.invokevirtual 169, 3) := by decide +kernel
theorem J_H_told_d80 : decode J_H_told.2.1 80 = .ok (.ireturn, 1) := by decide +kernel
theorem J_H_told_d81 : decode J_H_told.2.1 81 = .ok (.aload_n 0, 1) := by decide +kernel
theorem J_H_told_d82 : decode J_H_told.2.1 82 = .ok (.getfield 37, 3) := by decide +kernel
theorem J_H_told_d85 : decode J_H_told.2.1 85 = .ok (.iconst 1, 1) := by decide +kernel
theorem J_H_told_d86 : decode J_H_told.2.1 86 = .ok (.invokevirtual 172, 3) := by decide +kernel
theorem J_H_told_d89 : decode J_H_told.2.1 89 = .ok (.ireturn, 1) := by decide +kernel
theorem J_H_told_d90 : decode J_H_told.2.1 90 = .ok (.aload_n 0, 1) := by decide +kernel
theorem J_H_told_d91 : decode J_H_told.2.1 91 = .ok (.getfield 37, 3) := by decide +kernel
theorem J_H_told_d94 : decode J_H_told.2.1 94 = .ok (.iconst (-1), 1) := by decide +kernel
theorem J_H_told_d95 : decode J_H_told.2.1 95 = .ok (.invokevirtual 169, 3) := by decide +kernel
theorem J_H_told_d98 : decode J_H_told.2.1 98 = .ok (.ireturn, 1) := by decide +kernel
theorem J_H_told_d99 : decode J_H_told.2.1 99 = .ok (.aload_n 0, 1) := by decide +kernel
theorem J_H_told_d100 : decode J_H_told.2.1 100 = .ok (.getfield 37, 3) := by decide +kernel
theorem J_H_told_d103 : decode J_H_told.2.1 103 = .ok (.iconst (-1), 1) := by decide +kernel
theorem J_H_told_d104 : decode J_H_told.2.1 104 = .ok (.invokevirtual 172, 3) := by decide +kernel
theorem J_H_told_d107 : decode J_H_told.2.1 107 = .ok (.ireturn, 1) := by decide +kernel
theorem J_H_told_d108 : decode J_H_told.2.1 108 = .ok (.aload_n 0, 1) := by decide +kernel
theorem J_H_told_d109 : decode J_H_told.2.1 109 = .ok (.getfield 37, 3) := by decide +kernel
theorem J_H_told_d112 : decode J_H_told.2.1 112 = .ok (.invokevirtual 175, 3) := by decide +kernel
theorem J_H_told_d115 : decode J_H_told.2.1 115 = .ok (.ireturn, 1) := by decide +kernel
theorem f_H_told_ok {L : Nat} {xs : Nat → Int32} {dep : Nat} {w : Bool} {p0 : Int32} {M : im_M} {Q : Int32 → Prop} (hM : lw_S w M) (h : ed (f_H_told w p0 M) Q) : ia (tb_G L xs) (dep + 2) J_H_told (rpI M Q) (0, lv_args 0 [.ref 0, .int p0], [], M) := by
  have hS : im_St (tb_G L xs) (dep + 2) J_H_told (ia (tb_G L xs) (dep + 2) J_H_told (rpI M Q)) := ia_St
  unfold f_H_told at h
  have l0 : im_lk (lv_args 0 [.ref 0, .int p0]) 0 = some (.ref 0) := rfl
  have l1 : im_lk (lv_args 0 [.ref 0, .int p0]) 1 = some (.int p0) := rfl
  refine iq_iload_n hS 1 J_H_told_d0 l1 rfl ?_
  refine iq_if_lt hS 4 J_H_told_d1 (t := 10) rfl (fun q1 => ?_) rfl (fun q1 => ?_)
  · replace h := ed_pos q1 h
    exact (ed_none h).elim
  · replace h := ed_neg q1 h
    refine iq_iload_n hS 5 J_H_told_d4 l1 rfl ?_
    refine iq_bipush hS 7 J_H_told_d5 (v := 6) (by decide +kernel) rfl ?_
    refine iq_icmp_le hS 10 J_H_told_d7 (t := 18) rfl (fun q7 => ?_) rfl (fun q7 => ?_)
    · replace h := ed_pos q7 h
      refine iq_iload_n hS 19 J_H_told_d18 l1 rfl ?_
      by_cases q19_0 : p0 = 0
      · replace h := ed_pos q19_0 h
        refine iq_tsw hS J_H_told_d19 (t := 56) (sw_v q19_0 (by decide +kernel)) ?_
        refine iq_aload_n hS 57 J_H_told_d56 l0 rfl ?_
        refine iq_getR hS 60 J_H_told_d57 lf_11_37 (Or.inl ⟨_, rfl⟩) (ka_0 hM) (ra_0_3 hM) rfl ?_
        refine iq_getI hS 63 J_H_told_d60 lf_11_163 (Or.inl rfl) (ka_28 hM) rfl ?_
        exact iq_iret J_H_told_d63 rfl rfl ⟨_, rfl, rfl, ed_some h⟩
      replace h := ed_neg q19_0 h
      by_cases q19_1 : p0 = 1
      · replace h := ed_pos q19_1 h
        refine iq_tsw hS J_H_told_d19 (t := 64) (sw_v q19_1 (by decide +kernel)) ?_
        refine iq_aload_n hS 65 J_H_told_d64 l0 rfl ?_
        refine iq_getR hS 68 J_H_told_d65 lf_11_37 (Or.inl ⟨_, rfl⟩) (ka_0 hM) (ra_0_3 hM) rfl ?_
        refine iq_getI hS 71 J_H_told_d68 lf_11_166 (Or.inl rfl) (ka_28 hM) rfl ?_
        exact iq_iret J_H_told_d71 rfl rfl ⟨_, rfl, rfl, ed_some h⟩
      replace h := ed_neg q19_1 h
      by_cases q19_2 : p0 = 2
      · replace h := ed_pos q19_2 h
        refine iq_tsw hS J_H_told_d19 (t := 72) (sw_v q19_2 (by decide +kernel)) ?_
        refine iq_aload_n hS 73 J_H_told_d72 l0 rfl ?_
        refine iq_getR hS 76 J_H_told_d73 lf_11_37 (Or.inl ⟨_, rfl⟩) (ka_0 hM) (ra_0_3 hM) rfl ?_
        refine iq_iconst hS 77 J_H_told_d76 (v := 1) (by decide +kernel) rfl ?_
        obtain ⟨Q1, hQ1, h⟩ := bd1_ed h
        refine iq_cpI hS 80 J_H_told_d77 rfl (pr_inst (vs := [_]) lc_11_169 lT_192 rfl rfl (by decide) (by decide) rfl (Nat.le_of_ble_eq_true rfl) (Nat.le_of_ble_eq_true rfl) (fun _ => Or.inl (pr_b (ka_28 hM) (by decide) rfl))) (f_HSheet_edgeColumn_ok (dep := dep + 0) hM h) rfl ?_
        intro x1 h
        replace h := hQ1 _ h
        exact iq_iret J_H_told_d80 rfl rfl ⟨_, rfl, rfl, ed_some h⟩
      replace h := ed_neg q19_2 h
      by_cases q19_3 : p0 = 3
      · replace h := ed_pos q19_3 h
        refine iq_tsw hS J_H_told_d19 (t := 81) (sw_v q19_3 (by decide +kernel)) ?_
        refine iq_aload_n hS 82 J_H_told_d81 l0 rfl ?_
        refine iq_getR hS 85 J_H_told_d82 lf_11_37 (Or.inl ⟨_, rfl⟩) (ka_0 hM) (ra_0_3 hM) rfl ?_
        refine iq_iconst hS 86 J_H_told_d85 (v := 1) (by decide +kernel) rfl ?_
        obtain ⟨Q2, hQ2, h⟩ := bd1_ed h
        refine iq_cpI hS 89 J_H_told_d86 rfl (pr_inst (vs := [_]) lc_11_172 lT_194 rfl rfl (by decide) (by decide) rfl (Nat.le_of_ble_eq_true rfl) (Nat.le_of_ble_eq_true rfl) (fun _ => Or.inl (pr_b (ka_28 hM) (by decide) rfl))) (f_HSheet_edgeRow_ok (dep := dep + 1) hM h) rfl ?_
        intro x2 h
        replace h := hQ2 _ h
        exact iq_iret J_H_told_d89 rfl rfl ⟨_, rfl, rfl, ed_some h⟩
      replace h := ed_neg q19_3 h
      by_cases q19_4 : p0 = 4
      · replace h := ed_pos q19_4 h
        refine iq_tsw hS J_H_told_d19 (t := 90) (sw_v q19_4 (by decide +kernel)) ?_
        refine iq_aload_n hS 91 J_H_told_d90 l0 rfl ?_
        refine iq_getR hS 94 J_H_told_d91 lf_11_37 (Or.inl ⟨_, rfl⟩) (ka_0 hM) (ra_0_3 hM) rfl ?_
        refine iq_iconst hS 95 J_H_told_d94 (v := (-1)) (by decide +kernel) rfl ?_
        obtain ⟨Q3, hQ3, h⟩ := bd1_ed h
        refine iq_cpI hS 98 J_H_told_d95 rfl (pr_inst (vs := [_]) lc_11_169 lT_192 rfl rfl (by decide) (by decide) rfl (Nat.le_of_ble_eq_true rfl) (Nat.le_of_ble_eq_true rfl) (fun _ => Or.inl (pr_b (ka_28 hM) (by decide) rfl))) (f_HSheet_edgeColumn_ok (dep := dep + 0) hM h) rfl ?_
        intro x3 h
        replace h := hQ3 _ h
        exact iq_iret J_H_told_d98 rfl rfl ⟨_, rfl, rfl, ed_some h⟩
      replace h := ed_neg q19_4 h
      by_cases q19_5 : p0 = 5
      · replace h := ed_pos q19_5 h
        refine iq_tsw hS J_H_told_d19 (t := 99) (sw_v q19_5 (by decide +kernel)) ?_
        refine iq_aload_n hS 100 J_H_told_d99 l0 rfl ?_
        refine iq_getR hS 103 J_H_told_d100 lf_11_37 (Or.inl ⟨_, rfl⟩) (ka_0 hM) (ra_0_3 hM) rfl ?_
        refine iq_iconst hS 104 J_H_told_d103 (v := (-1)) (by decide +kernel) rfl ?_
        obtain ⟨Q4, hQ4, h⟩ := bd1_ed h
        refine iq_cpI hS 107 J_H_told_d104 rfl (pr_inst (vs := [_]) lc_11_172 lT_194 rfl rfl (by decide) (by decide) rfl (Nat.le_of_ble_eq_true rfl) (Nat.le_of_ble_eq_true rfl) (fun _ => Or.inl (pr_b (ka_28 hM) (by decide) rfl))) (f_HSheet_edgeRow_ok (dep := dep + 1) hM h) rfl ?_
        intro x4 h
        replace h := hQ4 _ h
        exact iq_iret J_H_told_d107 rfl rfl ⟨_, rfl, rfl, ed_some h⟩
      replace h := ed_neg q19_5 h
      refine iq_tsw hS J_H_told_d19 (t := 108) (sw_d [0, 1, 2, 3, 4, 5] (by decide) (by decide) (by decide +kernel) (sw_nc q19_0 (sw_nc q19_1 (sw_nc q19_2 (sw_nc q19_3 (sw_nc q19_4 (sw_nc q19_5 sw_nn))))))) ?_
      refine iq_aload_n hS 109 J_H_told_d108 l0 rfl ?_
      refine iq_getR hS 112 J_H_told_d109 lf_11_37 (Or.inl ⟨_, rfl⟩) (ka_0 hM) (ra_0_3 hM) rfl ?_
      obtain ⟨Q5, hQ5, h⟩ := bd1_ed h
      refine iq_cpI hS 115 J_H_told_d112 rfl (pr_inst (vs := []) lc_11_175 lT_195 rfl rfl (by decide) (by decide) rfl (Nat.le_of_ble_eq_true rfl) (Nat.le_of_ble_eq_true rfl) (fun _ => Or.inl (pr_b (ka_28 hM) (by decide) rfl))) (f_HSheet_darkCount_ok (dep := dep + 0) hM h) rfl ?_
      intro x5 h
      replace h := hQ5 _ h
      exact iq_iret J_H_told_d115 rfl rfl ⟨_, rfl, rfl, ed_some h⟩
    · replace h := ed_neg q7 h
      exact (ed_none h).elim
noncomputable def f_HSheet_has (p0 : Int32) (p1 : Int32) (M : im_M) : Option (Int32) := if p0 < 0 then some 0 else if (im_i M 28 0) ≤ p0 then some 0 else if p1 < 0 then some 0 else if (im_i M 28 1) ≤ p1 then some 0 else some 1
theorem J_HSheet_has_d0 : decode J_HSheet_has.2.1 0 = .ok (.iload_n 1, 1) := by decide +kernel
theorem J_HSheet_has_d1 : decode J_HSheet_has.2.1 1 = .ok (.ifCond .lt 27, 3) := by decide +kernel
theorem J_HSheet_has_d4 : decode J_HSheet_has.2.1 4 = .ok (.iload_n 1, 1) := by decide +kernel
theorem J_HSheet_has_d5 : decode J_HSheet_has.2.1 5 = .ok (.aload_n 0, 1) := by decide +kernel
theorem J_HSheet_has_d6 : decode J_HSheet_has.2.1 6 = .ok (.getfield 9, 3) := by decide +kernel
theorem J_HSheet_has_d9 : decode J_HSheet_has.2.1 9 = .ok (.if_icmp .ge 19, 3) := by decide +kernel
theorem J_HSheet_has_d12 : decode J_HSheet_has.2.1 12 = .ok (.iload_n 2, 1) := by decide +kernel
theorem J_HSheet_has_d13 : decode J_HSheet_has.2.1 13 = .ok (.ifCond .lt 15, 3) := by decide +kernel
theorem J_HSheet_has_d16 : decode J_HSheet_has.2.1 16 = .ok (.iload_n 2, 1) := by decide +kernel
theorem J_HSheet_has_d17 : decode J_HSheet_has.2.1 17 = .ok (.aload_n 0, 1) := by decide +kernel
theorem J_HSheet_has_d18 : decode J_HSheet_has.2.1 18 = .ok (.getfield 15, 3) := by decide +kernel
theorem J_HSheet_has_d21 : decode J_HSheet_has.2.1 21 = .ok (.if_icmp .ge 7, 3) := by decide +kernel
theorem J_HSheet_has_d24 : decode J_HSheet_has.2.1 24 = .ok (.iconst 1, 1) := by decide +kernel
theorem J_HSheet_has_d25 : decode J_HSheet_has.2.1 25 = .ok (.goto 4, 3) := by decide +kernel
theorem J_HSheet_has_d28 : decode J_HSheet_has.2.1 28 = .ok (.iconst 0, 1) := by decide +kernel
theorem J_HSheet_has_d29 : decode J_HSheet_has.2.1 29 = .ok (.ireturn, 1) := by decide +kernel
theorem f_HSheet_has_ok {L : Nat} {xs : Nat → Int32} {dep : Nat} {w : Bool} {p0 : Int32} {p1 : Int32} {M : im_M} {Q : Int32 → Prop} (hM : lw_S w M) (h : ed (f_HSheet_has p0 p1 M) Q) : ia (tb_G L xs) dep J_HSheet_has (rpI M Q) (0, lv_args 0 [.ref 28, .int p0, .int p1], [], M) := by
  have hS : im_St (tb_G L xs) dep J_HSheet_has (ia (tb_G L xs) dep J_HSheet_has (rpI M Q)) := ia_St
  unfold f_HSheet_has at h
  have l0 : im_lk (lv_args 0 [.ref 28, .int p0, .int p1]) 0 = some (.ref 28) := rfl
  have l1 : im_lk (lv_args 0 [.ref 28, .int p0, .int p1]) 1 = some (.int p0) := rfl
  have l2 : im_lk (lv_args 0 [.ref 28, .int p0, .int p1]) 2 = some (.int p1) := rfl
  refine iq_iload_n hS 1 J_HSheet_has_d0 l1 rfl ?_
  refine iq_if_lt hS 4 J_HSheet_has_d1 (t := 28) rfl (fun q1 => ?_) rfl (fun q1 => ?_)
  · replace h := ed_pos q1 h
    refine iq_iconst hS 29 J_HSheet_has_d28 (v := 0) (by decide +kernel) rfl ?_
    exact iq_iret J_HSheet_has_d29 rfl rfl ⟨_, rfl, rfl, ed_some h⟩
  · replace h := ed_neg q1 h
    refine iq_iload_n hS 5 J_HSheet_has_d4 l1 rfl ?_
    refine iq_aload_n hS 6 J_HSheet_has_d5 l0 rfl ?_
    refine iq_getI hS 9 J_HSheet_has_d6 lf_9_9 (Or.inl rfl) (ka_28 hM) rfl ?_
    refine iq_icmp_ge hS 12 J_HSheet_has_d9 (t := 28) rfl (fun q9 => ?_) rfl (fun q9 => ?_)
    · replace h := ed_pos q9 h
      refine iq_iconst hS 29 J_HSheet_has_d28 (v := 0) (by decide +kernel) rfl ?_
      exact iq_iret J_HSheet_has_d29 rfl rfl ⟨_, rfl, rfl, ed_some h⟩
    · replace h := ed_neg q9 h
      refine iq_iload_n hS 13 J_HSheet_has_d12 l2 rfl ?_
      refine iq_if_lt hS 16 J_HSheet_has_d13 (t := 28) rfl (fun q13 => ?_) rfl (fun q13 => ?_)
      · replace h := ed_pos q13 h
        refine iq_iconst hS 29 J_HSheet_has_d28 (v := 0) (by decide +kernel) rfl ?_
        exact iq_iret J_HSheet_has_d29 rfl rfl ⟨_, rfl, rfl, ed_some h⟩
      · replace h := ed_neg q13 h
        refine iq_iload_n hS 17 J_HSheet_has_d16 l2 rfl ?_
        refine iq_aload_n hS 18 J_HSheet_has_d17 l0 rfl ?_
        refine iq_getI hS 21 J_HSheet_has_d18 lf_9_15 (Or.inl rfl) (ka_28 hM) rfl ?_
        refine iq_icmp_ge hS 24 J_HSheet_has_d21 (t := 28) rfl (fun q21 => ?_) rfl (fun q21 => ?_)
        · replace h := ed_pos q21 h
          refine iq_iconst hS 29 J_HSheet_has_d28 (v := 0) (by decide +kernel) rfl ?_
          exact iq_iret J_HSheet_has_d29 rfl rfl ⟨_, rfl, rfl, ed_some h⟩
        · replace h := ed_neg q21 h
          refine iq_iconst hS 25 J_HSheet_has_d24 (v := 1) (by decide +kernel) rfl ?_
          refine iq_goto hS J_HSheet_has_d25 (t := 29) rfl ?_
          exact iq_iret J_HSheet_has_d29 rfl rfl ⟨_, rfl, rfl, ed_some h⟩
noncomputable def f_HSheet_isDark (w : Bool) (p0 : Int32) (p1 : Int32) (M : im_M) : Option (Int32) := gd (inb ((p1 * 8) + (p0 >>> (6 &&& 31 : Int32) : Int32)) 4096) <| if (lg_cmp ((Int64.toUInt64 (im_l M (sw w) (Int32.toNatClampNeg ((p1 * 8) + (p0 >>> (6 &&& 31 : Int32) : Int32)))) >>> ((Int32.toInt64 (p0 &&& 63)).toUInt64 &&& Int64.toUInt64 63)).toInt64 &&& 1) 0) = 0 then some 0 else some 1
theorem J_HSheet_isDark_d0 : decode J_HSheet_isDark.2.1 0 = .ok (.aload_n 0, 1) := by decide +kernel
theorem J_HSheet_isDark_d1 : decode J_HSheet_isDark.2.1 1 = .ok (.getfield 18, 3) := by decide +kernel
theorem J_HSheet_isDark_d4 : decode J_HSheet_isDark.2.1 4 = .ok (.iload_n 2, 1) := by decide +kernel
theorem J_HSheet_isDark_d5 : decode J_HSheet_isDark.2.1 5 = .ok (.bipush 8, 2) := by decide +kernel
theorem J_HSheet_isDark_d7 : decode J_HSheet_isDark.2.1 7 = .ok (.imul, 1) := by decide +kernel
theorem J_HSheet_isDark_d8 : decode J_HSheet_isDark.2.1 8 = .ok (.iload_n 1, 1) := by decide +kernel
theorem J_HSheet_isDark_d9 : decode J_HSheet_isDark.2.1 9 = .ok (.bipush 6, 2) := by decide +kernel
theorem J_HSheet_isDark_d11 : decode J_HSheet_isDark.2.1 11 = .ok (.ishr, 1) := by decide +kernel
theorem J_HSheet_isDark_d12 : decode J_HSheet_isDark.2.1 12 = .ok (.iadd, 1) := by decide +kernel
theorem J_HSheet_isDark_d13 : decode J_HSheet_isDark.2.1 13 = .ok (.laload, 1) := by decide +kernel
theorem J_HSheet_isDark_d14 : decode J_HSheet_isDark.2.1 14 = .ok (.iload_n 1, 1) := by decide +kernel
theorem J_HSheet_isDark_d15 : decode J_HSheet_isDark.2.1 15 = .ok (.bipush 63, 2) := by decide +kernel
theorem J_HSheet_isDark_d17 : decode J_HSheet_isDark.2.1 17 = .ok (.iand, 1) := by decide +kernel
theorem J_HSheet_isDark_d18 : decode J_HSheet_isDark.2.1 18 = .ok (.lushr, 1) := by decide +kernel
theorem J_HSheet_isDark_d19 : decode J_HSheet_isDark.2.1 19 = .ok (.lconst 1, 1) := by decide +kernel
theorem J_HSheet_isDark_d20 : decode J_HSheet_isDark.2.1 20 = .ok (.land, 1) := by decide +kernel
theorem J_HSheet_isDark_d21 : decode J_HSheet_isDark.2.1 21 = .ok (.lconst 0, 1) := by decide +kernel
theorem J_HSheet_isDark_d22 : decode J_HSheet_isDark.2.1 22 = .ok (.lcmp, 1) := by decide +kernel
theorem J_HSheet_isDark_d23 : decode J_HSheet_isDark.2.1 23 = .ok (.ifCond .eq 7, 3) := by decide +kernel
theorem J_HSheet_isDark_d26 : decode J_HSheet_isDark.2.1 26 = .ok (.iconst 1, 1) := by decide +kernel
theorem J_HSheet_isDark_d27 : decode J_HSheet_isDark.2.1 27 = .ok (.goto 4, 3) := by decide +kernel
theorem J_HSheet_isDark_d30 : decode J_HSheet_isDark.2.1 30 = .ok (.iconst 0, 1) := by decide +kernel
theorem J_HSheet_isDark_d31 : decode J_HSheet_isDark.2.1 31 = .ok (.ireturn, 1) := by decide +kernel
theorem f_HSheet_isDark_ok {L : Nat} {xs : Nat → Int32} {dep : Nat} {w : Bool} {p0 : Int32} {p1 : Int32} {M : im_M} {Q : Int32 → Prop} (hM : lw_S w M) (h : ed (f_HSheet_isDark w p0 p1 M) Q) : ia (tb_G L xs) dep J_HSheet_isDark (rpI M Q) (0, lv_args 0 [.ref 28, .int p0, .int p1], [], M) := by
  have hS : im_St (tb_G L xs) dep J_HSheet_isDark (ia (tb_G L xs) dep J_HSheet_isDark (rpI M Q)) := ia_St
  unfold f_HSheet_isDark at h
  have l0 : im_lk (lv_args 0 [.ref 28, .int p0, .int p1]) 0 = some (.ref 28) := rfl
  have l1 : im_lk (lv_args 0 [.ref 28, .int p0, .int p1]) 1 = some (.int p0) := rfl
  have l2 : im_lk (lv_args 0 [.ref 28, .int p0, .int p1]) 2 = some (.int p1) := rfl
  refine iq_aload_n hS 1 J_HSheet_isDark_d0 l0 rfl ?_
  refine iq_getR hS 4 J_HSheet_isDark_d1 lf_9_18 (Or.inr ⟨_, rfl⟩) (ka_28 hM) (ra_28_sw hM) rfl ?_
  refine iq_iload_n hS 5 J_HSheet_isDark_d4 l2 rfl ?_
  refine iq_bipush hS 7 J_HSheet_isDark_d5 (v := 8) (by decide +kernel) rfl ?_
  refine iq_imul hS 8 J_HSheet_isDark_d7 rfl ?_
  refine iq_iload_n hS 9 J_HSheet_isDark_d8 l1 rfl ?_
  refine iq_bipush hS 11 J_HSheet_isDark_d9 (v := 6) (by decide +kernel) rfl ?_
  refine iq_ishr hS 12 J_HSheet_isDark_d11 rfl ?_
  refine iq_iadd hS 13 J_HSheet_isDark_d12 rfl ?_
  obtain ⟨g13, h⟩ := ed_gd h
  refine iq_laload hS 14 J_HSheet_isDark_d13 ⟨(ka_sw hM).1, (ka_sw hM).2, g13.1, ix_lt (kl_sw hM) g13.2⟩ rfl ?_
  refine iq_iload_n hS 15 J_HSheet_isDark_d14 l1 rfl ?_
  refine iq_bipush hS 17 J_HSheet_isDark_d15 (v := 63) (by decide +kernel) rfl ?_
  refine iq_iand hS 18 J_HSheet_isDark_d17 rfl ?_
  refine iq_lushr hS 19 J_HSheet_isDark_d18 rfl ?_
  refine iq_lconst hS 20 J_HSheet_isDark_d19 (v := 1) (by decide +kernel) rfl ?_
  refine iq_land hS 21 J_HSheet_isDark_d20 rfl ?_
  refine iq_lconst hS 22 J_HSheet_isDark_d21 (v := 0) (by decide +kernel) rfl ?_
  refine iq_lcmp hS 23 J_HSheet_isDark_d22 rfl ?_
  refine iq_if_eq hS 26 J_HSheet_isDark_d23 (t := 30) rfl (fun q23 => ?_) rfl (fun q23 => ?_)
  · replace h := ed_pos q23 h
    refine iq_iconst hS 31 J_HSheet_isDark_d30 (v := 0) (by decide +kernel) rfl ?_
    exact iq_iret J_HSheet_isDark_d31 rfl rfl ⟨_, rfl, rfl, ed_some h⟩
  · replace h := ed_neg q23 h
    refine iq_iconst hS 27 J_HSheet_isDark_d26 (v := 1) (by decide +kernel) rfl ?_
    refine iq_goto hS J_HSheet_isDark_d27 (t := 31) rfl ?_
    exact iq_iret J_HSheet_isDark_d31 rfl rfl ⟨_, rfl, rfl, ed_some h⟩
noncomputable def f_HSheet_takeRuns_L43 (w : Bool) (v5 : Int32) (v6 : Int32) (v7 : Int32) (v8 : Int32) (x9 : Int32) (x10 : Int32) (x11 : Int32) (M12 : im_M) : Option ((Int32 × Int32 × Int32 × im_M) ⊕ (Int32 × im_M)) := if v8 ≤ x11 then some (.inr (x9, M12)) else bd1 (if v7 = 0 then bd1 (f_HSheet_isDark w (v5 + x11) v6 M12) fun (x14 : Int32) => some x14 else bd1 (f_HSheet_isDark w v5 (v6 + x11) M12) fun (x15 : Int32) => some x15) fun (y16 : Int32) => bd3 (if y16 = x10 then some (x9, x10, M12) else gd (inb x9 512) <| some ((x9 + 1), y16, (im_setI M12 32 (Int32.toNatClampNeg x9) 0))) fun (y27 : Int32) (y28 : Int32) (M29 : im_M) => gd (inb (y27 - 1) 512) <| gd (inb (y27 - 1) 512) <| some (.inl (y27, y28, (x11 + 1), (im_setI M29 32 (Int32.toNatClampNeg (y27 - 1)) ((im_i M29 32 (Int32.toNatClampNeg (y27 - 1))) + 1))))
noncomputable def f_HSheet_takeRuns (w : Bool) (p0 : Int32) (p1 : Int32) (p2 : Int32) (M : im_M) : Option (Int32 × im_M) := bd1 (f_HSheet_isDark w p0 p1 M) fun (x2 : Int32) => bd2 (lp (uc4 (f_HSheet_takeRuns_L43 w p0 p1 p2 ((if p2 = 0 then ((im_i M 28 0) - p0) else ((im_i M 28 1) - p1)) : Int32))) (0, ((if ¬ x2 = 0 then 0 else 1) : Int32), 0, M)) fun (y39 : Int32) (M40 : im_M) => some (y39, M40)
theorem J_HSheet_takeRuns_d0 : decode J_HSheet_takeRuns.2.1 0 = .ok (.iconst 0, 1) := by decide +kernel
theorem J_HSheet_takeRuns_d1 : decode J_HSheet_takeRuns.2.1 1 = .ok (.istore 5, 2) := by decide +kernel
theorem J_HSheet_takeRuns_d3 : decode J_HSheet_takeRuns.2.1 3 = .ok (.iload_n 3, 1) := by decide +kernel
theorem J_HSheet_takeRuns_d4 : decode J_HSheet_takeRuns.2.1 4 = .ok (.ifCond .eq 12, 3) := by decide +kernel
theorem J_HSheet_takeRuns_d7 : decode J_HSheet_takeRuns.2.1 7 = .ok (.aload_n 0, 1) := by decide +kernel
theorem J_HSheet_takeRuns_d8 : decode J_HSheet_takeRuns.2.1 8 = .ok (.getfield 15, 3) := by decide +kernel
theorem J_HSheet_takeRuns_d11 : decode J_HSheet_takeRuns.2.1 11 = .ok (.iload_n 2, 1) := by decide +kernel
theorem J_HSheet_takeRuns_d12 : decode J_HSheet_takeRuns.2.1 12 = .ok (.isub, 1) := by decide +kernel
theorem J_HSheet_takeRuns_d13 : decode J_HSheet_takeRuns.2.1 13 = .ok (.goto 9, 3) := by decide +kernel
theorem J_HSheet_takeRuns_d16 : decode J_HSheet_takeRuns.2.1 16 = .ok (.aload_n 0, 1) := by decide +kernel
theorem J_HSheet_takeRuns_d17 : decode J_HSheet_takeRuns.2.1 17 = .ok (.getfield 9, 3) := by decide +kernel
theorem J_HSheet_takeRuns_d20 : decode J_HSheet_takeRuns.2.1 20 = .ok (.iload_n 1, 1) := by decide +kernel
theorem J_HSheet_takeRuns_d21 : decode J_HSheet_takeRuns.2.1 21 = .ok (.isub, 1) := by decide +kernel
theorem J_HSheet_takeRuns_d22 : decode J_HSheet_takeRuns.2.1 22 = .ok (.istore 6, 2) := by decide +kernel
theorem J_HSheet_takeRuns_d24 : decode J_HSheet_takeRuns.2.1 24 = .ok (.aload_n 0, 1) := by decide +kernel
theorem J_HSheet_takeRuns_d25 : decode J_HSheet_takeRuns.2.1 25 = .ok (.iload_n 1, 1) := by decide +kernel
theorem J_HSheet_takeRuns_d26 : decode J_HSheet_takeRuns.2.1 26 = .ok (.iload_n 2, 1) := by decide +kernel
theorem J_HSheet_takeRuns_d27 : decode J_HSheet_takeRuns.2.1 27 = .ok (.invokevirtual 73, 3) := by decide +kernel
theorem J_HSheet_takeRuns_d30 : decode J_HSheet_takeRuns.2.1 30 = .ok (.ifCond .ne 7, 3) := by decide +kernel
theorem J_HSheet_takeRuns_d33 : decode J_HSheet_takeRuns.2.1 33 = .ok (.iconst 1, 1) := by decide +kernel
theorem J_HSheet_takeRuns_d34 : decode J_HSheet_takeRuns.2.1 34 = .ok (.goto 4, 3) := by decide +kernel
theorem J_HSheet_takeRuns_d37 : decode J_HSheet_takeRuns.2.1 37 = .ok (.iconst 0, 1) := by decide +kernel
theorem J_HSheet_takeRuns_d38 : decode J_HSheet_takeRuns.2.1 38 = .ok (.istore 7, 2) := by decide +kernel
theorem J_HSheet_takeRuns_d40 : decode J_HSheet_takeRuns.2.1 40 = .ok (.iconst 0, 1) := by decide +kernel
theorem J_HSheet_takeRuns_d41 : decode J_HSheet_takeRuns.2.1 41 = .ok (.istore 8, 2) := by decide +kernel
theorem J_HSheet_takeRuns_d43 : decode J_HSheet_takeRuns.2.1 43 = .ok (.iload 8, 2) := by decide +kernel
theorem J_HSheet_takeRuns_d45 : decode J_HSheet_takeRuns.2.1 45 = .ok (.iload 6, 2) := by decide +kernel
theorem J_HSheet_takeRuns_d47 : decode J_HSheet_takeRuns.2.1 47 = .ok (.if_icmp .ge 67, 3) := by decide +kernel
theorem J_HSheet_takeRuns_d50 : decode J_HSheet_takeRuns.2.1 50 = .ok (.iload_n 3, 1) := by decide +kernel
theorem J_HSheet_takeRuns_d51 : decode J_HSheet_takeRuns.2.1 51 = .ok (.ifCond .eq 15, 3) := by decide +kernel
theorem J_HSheet_takeRuns_d54 : decode J_HSheet_takeRuns.2.1 54 = .ok (.aload_n 0, 1) := by decide +kernel
theorem J_HSheet_takeRuns_d55 : decode J_HSheet_takeRuns.2.1 55 = .ok (.iload_n 1, 1) := by decide +kernel
theorem J_HSheet_takeRuns_d56 : decode J_HSheet_takeRuns.2.1 56 = .ok (.iload_n 2, 1) := by decide +kernel
theorem J_HSheet_takeRuns_d57 : decode J_HSheet_takeRuns.2.1 57 = .ok (.iload 8, 2) := by decide +kernel
theorem J_HSheet_takeRuns_d59 : decode J_HSheet_takeRuns.2.1 59 = .ok (.iadd, 1) := by decide +kernel
theorem J_HSheet_takeRuns_d60 : decode J_HSheet_takeRuns.2.1 60 = .ok (.invokevirtual 73, 3) := by decide +kernel
theorem J_HSheet_takeRuns_d63 : decode J_HSheet_takeRuns.2.1 63 = .ok (.goto 12, 3) := by decide +kernel
theorem J_HSheet_takeRuns_d66 : decode J_HSheet_takeRuns.2.1 66 = .ok (.aload_n 0, 1) := by decide +kernel
theorem J_HSheet_takeRuns_d67 : decode J_HSheet_takeRuns.2.1 67 = .ok (.iload_n 1, 1) := by decide +kernel
theorem J_HSheet_takeRuns_d68 : decode J_HSheet_takeRuns.2.1 68 = .ok (.iload 8, 2) := by decide +kernel
theorem J_HSheet_takeRuns_d70 : decode J_HSheet_takeRuns.2.1 70 = .ok (.iadd, 1) := by decide +kernel
theorem J_HSheet_takeRuns_d71 : decode J_HSheet_takeRuns.2.1 71 = .ok (.iload_n 2, 1) := by decide +kernel
theorem J_HSheet_takeRuns_d72 : decode J_HSheet_takeRuns.2.1 72 = .ok (.invokevirtual 73, 3) := by decide +kernel
theorem J_HSheet_takeRuns_d75 : decode J_HSheet_takeRuns.2.1 75 = .ok (.istore 9, 2) := by decide +kernel
theorem J_HSheet_takeRuns_d77 : decode J_HSheet_takeRuns.2.1 77 = .ok (.iload 9, 2) := by decide +kernel
theorem J_HSheet_takeRuns_d79 : decode J_HSheet_takeRuns.2.1 79 = .ok (.iload 7, 2) := by decide +kernel
theorem J_HSheet_takeRuns_d81 : decode J_HSheet_takeRuns.2.1 81 = .ok (.if_icmp .eq 16, 3) := by decide +kernel
theorem J_HSheet_takeRuns_d84 : decode J_HSheet_takeRuns.2.1 84 = .ok (.aload 4, 2) := by decide +kernel
theorem J_HSheet_takeRuns_d86 : decode J_HSheet_takeRuns.2.1 86 = .ok (.iload 5, 2) := by decide +kernel
theorem J_HSheet_takeRuns_d88 : decode J_HSheet_takeRuns.2.1 88 = .ok (.iconst 0, 1) := by decide +kernel
theorem J_HSheet_takeRuns_d89 : decode J_HSheet_takeRuns.2.1 89 = .ok (.iastore, 1) := by decide +kernel
theorem J_HSheet_takeRuns_d90 : decode J_HSheet_takeRuns.2.1 90 = .ok (.iinc 5 1, 3) := by decide +kernel
theorem J_HSheet_takeRuns_d93 : decode J_HSheet_takeRuns.2.1 93 = .ok (.iload 9, 2) := by decide +kernel
theorem J_HSheet_takeRuns_d95 : decode J_HSheet_takeRuns.2.1 95 = .ok (.istore 7, 2) := by decide +kernel
theorem J_HSheet_takeRuns_d97 : decode J_HSheet_takeRuns.2.1 97 = .ok (.aload 4, 2) := by decide +kernel
theorem J_HSheet_takeRuns_d99 : decode J_HSheet_takeRuns.2.1 99 = .ok (.iload 5, 2) := by decide +kernel
theorem J_HSheet_takeRuns_d101 : decode J_HSheet_takeRuns.2.1 101 = .ok (.iconst 1, 1) := by decide +kernel
theorem J_HSheet_takeRuns_d102 : decode J_HSheet_takeRuns.2.1 102 = .ok (.isub, 1) := by decide +kernel
theorem J_HSheet_takeRuns_d103 : decode J_HSheet_takeRuns.2.1 103 = .ok (.dup2, 1) := by decide +kernel
theorem J_HSheet_takeRuns_d104 : decode J_HSheet_takeRuns.2.1 104 = .ok (.iaload, 1) := by decide +kernel
theorem J_HSheet_takeRuns_d105 : decode J_HSheet_takeRuns.2.1 105 = .ok (.iconst 1, 1) := by decide +kernel
theorem J_HSheet_takeRuns_d106 : decode J_HSheet_takeRuns.2.1 106 = .ok (.iadd, 1) := by decide +kernel
theorem J_HSheet_takeRuns_d107 : decode J_HSheet_takeRuns.2.1 107 = .ok (.iastore, 1) := by decide +kernel
theorem J_HSheet_takeRuns_d108 : decode J_HSheet_takeRuns.2.1 108 = .ok (.iinc 8 1, 3) := by decide +kernel
theorem J_HSheet_takeRuns_d111 : decode J_HSheet_takeRuns.2.1 111 = .ok (.goto (-68), 3) := by decide +kernel
theorem J_HSheet_takeRuns_d114 : decode J_HSheet_takeRuns.2.1 114 = .ok (.iload 5, 2) := by decide +kernel
theorem J_HSheet_takeRuns_d116 : decode J_HSheet_takeRuns.2.1 116 = .ok (.ireturn, 1) := by decide +kernel
theorem f_HSheet_takeRuns_ok {L : Nat} {xs : Nat → Int32} {dep : Nat} {w : Bool} {p0 : Int32} {p1 : Int32} {p2 : Int32} {M : im_M} {Q : Int32 × im_M → Prop} (hM : lw_S w M) (h : ed (f_HSheet_takeRuns w p0 p1 p2 M) Q) : ia (tb_G L xs) (dep + 1) J_HSheet_takeRuns (rwI w Q) (0, lv_args 0 [.ref 28, .int p0, .int p1, .int p2, .ref 32], [], M) := by
  have hS : im_St (tb_G L xs) (dep + 1) J_HSheet_takeRuns (ia (tb_G L xs) (dep + 1) J_HSheet_takeRuns (rwI w Q)) := ia_St
  unfold f_HSheet_takeRuns at h
  have l0 : im_lk (lv_args 0 [.ref 28, .int p0, .int p1, .int p2, .ref 32]) 0 = some (.ref 28) := rfl
  have l1 : im_lk (lv_args 0 [.ref 28, .int p0, .int p1, .int p2, .ref 32]) 1 = some (.int p0) := rfl
  have l2 : im_lk (lv_args 0 [.ref 28, .int p0, .int p1, .int p2, .ref 32]) 2 = some (.int p1) := rfl
  have l3 : im_lk (lv_args 0 [.ref 28, .int p0, .int p1, .int p2, .ref 32]) 3 = some (.int p2) := rfl
  have l4 : im_lk (lv_args 0 [.ref 28, .int p0, .int p1, .int p2, .ref 32]) 4 = some (.ref 32) := rfl
  refine iq_iconst hS 1 J_HSheet_takeRuns_d0 (v := 0) (by decide +kernel) rfl ?_
  refine iq_istore hS 3 J_HSheet_takeRuns_d1 (by decide) rfl ?_
  refine iq_iload_n hS 4 J_HSheet_takeRuns_d3 (lk_1i l3 (by decide)) rfl ?_
  have J1 : ∀ (z2 : Int32) (L' : List (Nat × Value)), z2 = ((if p2 = 0 then ((im_i M 28 0) - p0) else ((im_i M 28 1) - p1)) : Int32) → im_lk L' 0 = some (.ref 28) → im_lk L' 1 = some (.int p0) → im_lk L' 2 = some (.int p1) → im_lk L' 3 = some (.int p2) → im_lk L' 4 = some (.ref 32) → im_lk L' 5 = some (.int 0) → ia (tb_G L xs) (dep + 1) J_HSheet_takeRuns (rwI w Q) (22, L', [.int z2], M) := by
    intro z2 L' e3 l4 l5 l6 l7 l8 l9
    subst e3
    refine iq_istore hS 24 J_HSheet_takeRuns_d22 (by decide) rfl ?_
    refine iq_aload_n hS 25 J_HSheet_takeRuns_d24 (lk_1r l4 (by decide)) rfl ?_
    refine iq_iload_n hS 26 J_HSheet_takeRuns_d25 (lk_1i l5 (by decide)) rfl ?_
    refine iq_iload_n hS 27 J_HSheet_takeRuns_d26 (lk_1i l6 (by decide)) rfl ?_
    obtain ⟨Q10, hQ10, h⟩ := bd1_ed h
    refine iq_cpI hS 30 J_HSheet_takeRuns_d27 rfl (pr_inst (vs := [_, _]) lc_9_73 lT_200 rfl rfl (by decide) (by decide) rfl (Nat.le_of_ble_eq_true rfl) (Nat.le_of_ble_eq_true rfl) (fun _ => Or.inl (pr_b (ka_28 hM) (by decide) rfl))) (f_HSheet_isDark_ok (dep := dep + 0) hM h) rfl ?_
    intro x10 h
    replace h := hQ10 _ h
    have J11 : ∀ (z12 : Int32) (L' : List (Nat × Value)), z12 = ((if ¬ x10 = 0 then 0 else 1) : Int32) → im_lk L' 0 = some (.ref 28) → im_lk L' 1 = some (.int p0) → im_lk L' 2 = some (.int p1) → im_lk L' 3 = some (.int p2) → im_lk L' 4 = some (.ref 32) → im_lk L' 5 = some (.int 0) → im_lk L' 6 = some (.int ((if p2 = 0 then ((im_i M 28 0) - p0) else ((im_i M 28 1) - p1)) : Int32)) → ia (tb_G L xs) (dep + 1) J_HSheet_takeRuns (rwI w Q) (38, L', [.int z12], M) := by
      intro z12 L' e13 l14 l15 l16 l17 l18 l19 l20
      subst e13
      refine iq_istore hS 40 J_HSheet_takeRuns_d38 (by decide) rfl ?_
      refine iq_iconst hS 41 J_HSheet_takeRuns_d40 (v := 0) (by decide +kernel) rfl ?_
      refine iq_istore hS 43 J_HSheet_takeRuns_d41 (by decide) rfl ?_
      obtain ⟨Q21, hQ21, h⟩ := bd2_ed h
      have K21 : ∀ (y22 : Int32) (M23 : im_M) (L' : List (Nat × Value)), lw_S w M23 → im_lk L' 5 = some (.int y22) → Q21 (y22, M23) → ia (tb_G L xs) (dep + 1) J_HSheet_takeRuns (rwI w Q) (114, L', [], M23) := by
        intro y22 M23 L' hM23 l24 h
        replace h := hQ21 _ _ h
        refine iq_iload hS 116 J_HSheet_takeRuns_d114 l24 rfl ?_
        exact iq_iret J_HSheet_takeRuns_d116 rfl rfl ⟨_, rfl, hM23, ed_some h⟩
      obtain ⟨r21, hr21, hq21⟩ := h
      obtain ⟨n21, hn21⟩ := lp_n hr21
      have I21 : ∀ (n : Nat) (x25 : Int32) (x26 : Int32) (x27 : Int32) (M28 : im_M) (L' : List (Nat × Value)), lw_S w M28 → im_lk L' 0 = some (.ref 28) → im_lk L' 1 = some (.int p0) → im_lk L' 2 = some (.int p1) → im_lk L' 3 = some (.int p2) → im_lk L' 4 = some (.ref 32) → im_lk L' 5 = some (.int x25) → im_lk L' 6 = some (.int ((if p2 = 0 then ((im_i M 28 0) - p0) else ((im_i M 28 1) - p1)) : Int32)) → im_lk L' 7 = some (.int x26) → im_lk L' 8 = some (.int x27) → lpn (uc4 (f_HSheet_takeRuns_L43 w p0 p1 p2 ((if p2 = 0 then ((im_i M 28 0) - p0) else ((im_i M 28 1) - p1)) : Int32))) n (x25, x26, x27, M28) = some r21 → ia (tb_G L xs) (dep + 1) J_HSheet_takeRuns (rwI w Q) (43, L', [], M28) := by
        intro n
        induction n with
        | zero => intro x25 x26 x27 M28 L' hM28 l29 l30 l31 l32 l33 l34 l35 l36 l37 hn; exact (lpn_0 hn).elim
        | succ n ih =>
          intro x25 x26 x27 M28 L' hM28 l29 l30 l31 l32 l33 l34 l35 l36 l37 hn
          have h := lpn_ed4 hn
          unfold f_HSheet_takeRuns_L43 at h
          refine iq_iload hS 45 J_HSheet_takeRuns_d43 l37 rfl ?_
          refine iq_iload hS 47 J_HSheet_takeRuns_d45 l35 rfl ?_
          refine iq_icmp_ge hS 50 J_HSheet_takeRuns_d47 (t := 114) rfl (fun q47 => ?_) rfl (fun q47 => ?_)
          · replace h := ed_pos q47 h
            exact K21 _ _ _ hM28 l34 (lq_r h hq21)
          · replace h := ed_neg q47 h
            refine iq_iload_n hS 51 J_HSheet_takeRuns_d50 l32 rfl ?_
            obtain ⟨Q38, hQ38, h⟩ := bd1_ed h
            have J38 : ∀ (y41 : Int32) (L' : List (Nat × Value)), im_lk L' 0 = some (.ref 28) → im_lk L' 1 = some (.int p0) → im_lk L' 2 = some (.int p1) → im_lk L' 3 = some (.int p2) → im_lk L' 4 = some (.ref 32) → im_lk L' 5 = some (.int x25) → im_lk L' 6 = some (.int ((if p2 = 0 then ((im_i M 28 0) - p0) else ((im_i M 28 1) - p1)) : Int32)) → im_lk L' 7 = some (.int x26) → im_lk L' 8 = some (.int x27) → Q38 y41 → ia (tb_G L xs) (dep + 1) J_HSheet_takeRuns (rwI w Q) (75, L', [.int y41], M28) := by
              intro y41 L' l42 l43 l44 l45 l46 l47 l48 l49 l50 h
              replace h := hQ38 _ h
              refine iq_istore hS 77 J_HSheet_takeRuns_d75 (by decide) rfl ?_
              refine iq_iload hS 79 J_HSheet_takeRuns_d77 lk_1s rfl ?_
              refine iq_iload hS 81 J_HSheet_takeRuns_d79 (lk_1i l49 (by decide)) rfl ?_
              obtain ⟨Q51, hQ51, h⟩ := bd3_ed h
              have J51 : ∀ (y52 : Int32) (y53 : Int32) (M54 : im_M) (L' : List (Nat × Value)), lw_S w M54 → im_lk L' 0 = some (.ref 28) → im_lk L' 1 = some (.int p0) → im_lk L' 2 = some (.int p1) → im_lk L' 3 = some (.int p2) → im_lk L' 4 = some (.ref 32) → im_lk L' 5 = some (.int y52) → im_lk L' 6 = some (.int ((if p2 = 0 then ((im_i M 28 0) - p0) else ((im_i M 28 1) - p1)) : Int32)) → im_lk L' 7 = some (.int y53) → im_lk L' 8 = some (.int x27) → Q51 (y52, y53, M54) → ia (tb_G L xs) (dep + 1) J_HSheet_takeRuns (rwI w Q) (97, L', [], M54) := by
                intro y52 y53 M54 L' hM54 l55 l56 l57 l58 l59 l60 l61 l62 l63 h
                replace h := hQ51 _ _ _ h
                refine iq_aload hS 99 J_HSheet_takeRuns_d97 l59 rfl ?_
                refine iq_iload hS 101 J_HSheet_takeRuns_d99 l60 rfl ?_
                refine iq_iconst hS 102 J_HSheet_takeRuns_d101 (v := 1) (by decide +kernel) rfl ?_
                refine iq_isub hS 103 J_HSheet_takeRuns_d102 rfl ?_
                refine iq_dup2 hS 104 J_HSheet_takeRuns_d103 rfl rfl rfl ?_
                obtain ⟨g104, h⟩ := ed_gd h
                refine iq_iaload hS 105 J_HSheet_takeRuns_d104 ⟨(ka_32 hM54).1, (ka_32 hM54).2, g104.1, ix_lt (kl_32 hM54) g104.2⟩ rfl ?_
                refine iq_iconst hS 106 J_HSheet_takeRuns_d105 (v := 1) (by decide +kernel) rfl ?_
                refine iq_iadd hS 107 J_HSheet_takeRuns_d106 rfl ?_
                obtain ⟨g107, h⟩ := ed_gd h
                refine iq_iastore hS 108 J_HSheet_takeRuns_d107 ⟨(ka_32 hM54).1, (ka_32 hM54).2, g107.1, ix_lt (kl_32 hM54) g107.2⟩ rfl ?_
                refine iq_iincv hS 111 J_HSheet_takeRuns_d108 (c := 1) (by decide +kernel) l63 (by decide) rfl ?_
                refine iq_goto hS J_HSheet_takeRuns_d111 (t := 43) rfl ?_
                exact ih _ _ _ _ _ (lw_sI hM54) (lk_1r l55 (by decide)) (lk_1i l56 (by decide)) (lk_1i l57 (by decide)) (lk_1i l58 (by decide)) (lk_1r l59 (by decide)) (lk_1i l60 (by decide)) (lk_1i l61 (by decide)) (lk_1i l62 (by decide)) lk_1s (lq_l h)
              refine iq_icmp_eq hS 84 J_HSheet_takeRuns_d81 (t := 97) rfl (fun q81 => ?_) rfl (fun q81 => ?_)
              · replace h := ed_pos q81 h
                exact J51 _ _ _ _ hM28 (lk_1r l42 (by decide)) (lk_1i l43 (by decide)) (lk_1i l44 (by decide)) (lk_1i l45 (by decide)) (lk_1r l46 (by decide)) (lk_1i l47 (by decide)) (lk_1i l48 (by decide)) (lk_1i l49 (by decide)) (lk_1i l50 (by decide)) (ed_some h)
              · replace h := ed_neg q81 h
                refine iq_aload hS 86 J_HSheet_takeRuns_d84 (lk_1r l46 (by decide)) rfl ?_
                refine iq_iload hS 88 J_HSheet_takeRuns_d86 (lk_1i l47 (by decide)) rfl ?_
                refine iq_iconst hS 89 J_HSheet_takeRuns_d88 (v := 0) (by decide +kernel) rfl ?_
                obtain ⟨g89, h⟩ := ed_gd h
                refine iq_iastore hS 90 J_HSheet_takeRuns_d89 ⟨(ka_32 hM28).1, (ka_32 hM28).2, g89.1, ix_lt (kl_32 hM28) g89.2⟩ rfl ?_
                refine iq_iincv hS 93 J_HSheet_takeRuns_d90 (c := 1) (by decide +kernel) (lk_1i l47 (by decide)) (by decide) rfl ?_
                refine iq_iload hS 95 J_HSheet_takeRuns_d93 (lk_1i lk_1s (by decide)) rfl ?_
                refine iq_istore hS 97 J_HSheet_takeRuns_d95 (by decide) rfl ?_
                exact J51 _ _ _ _ (lw_sI hM28) (lk_1r (lk_1r (lk_1r l42 (by decide)) (by decide)) (by decide)) (lk_1i (lk_1i (lk_1i l43 (by decide)) (by decide)) (by decide)) (lk_1i (lk_1i (lk_1i l44 (by decide)) (by decide)) (by decide)) (lk_1i (lk_1i (lk_1i l45 (by decide)) (by decide)) (by decide)) (lk_1r (lk_1r (lk_1r l46 (by decide)) (by decide)) (by decide)) (lk_1i lk_1s (by decide)) (lk_1i (lk_1i (lk_1i l48 (by decide)) (by decide)) (by decide)) lk_1s (lk_1i (lk_1i (lk_1i l50 (by decide)) (by decide)) (by decide)) (ed_some h)
            refine iq_if_eq hS 54 J_HSheet_takeRuns_d51 (t := 66) rfl (fun q51 => ?_) rfl (fun q51 => ?_)
            · replace h := ed_pos q51 h
              refine iq_aload_n hS 67 J_HSheet_takeRuns_d66 l29 rfl ?_
              refine iq_iload_n hS 68 J_HSheet_takeRuns_d67 l30 rfl ?_
              refine iq_iload hS 70 J_HSheet_takeRuns_d68 l37 rfl ?_
              refine iq_iadd hS 71 J_HSheet_takeRuns_d70 rfl ?_
              refine iq_iload_n hS 72 J_HSheet_takeRuns_d71 l31 rfl ?_
              obtain ⟨Q39, hQ39, h⟩ := bd1_ed h
              refine iq_cpI hS 75 J_HSheet_takeRuns_d72 rfl (pr_inst (vs := [_, _]) lc_9_73 lT_200 rfl rfl (by decide) (by decide) rfl (Nat.le_of_ble_eq_true rfl) (Nat.le_of_ble_eq_true rfl) (fun _ => Or.inl (pr_b (ka_28 hM28) (by decide) rfl))) (f_HSheet_isDark_ok (dep := dep + 0) hM28 h) rfl ?_
              intro x39 h
              replace h := hQ39 _ h
              exact J38 _ _ l29 l30 l31 l32 l33 l34 l35 l36 l37 (ed_some h)
            · replace h := ed_neg q51 h
              refine iq_aload_n hS 55 J_HSheet_takeRuns_d54 l29 rfl ?_
              refine iq_iload_n hS 56 J_HSheet_takeRuns_d55 l30 rfl ?_
              refine iq_iload_n hS 57 J_HSheet_takeRuns_d56 l31 rfl ?_
              refine iq_iload hS 59 J_HSheet_takeRuns_d57 l37 rfl ?_
              refine iq_iadd hS 60 J_HSheet_takeRuns_d59 rfl ?_
              obtain ⟨Q40, hQ40, h⟩ := bd1_ed h
              refine iq_cpI hS 63 J_HSheet_takeRuns_d60 rfl (pr_inst (vs := [_, _]) lc_9_73 lT_200 rfl rfl (by decide) (by decide) rfl (Nat.le_of_ble_eq_true rfl) (Nat.le_of_ble_eq_true rfl) (fun _ => Or.inl (pr_b (ka_28 hM28) (by decide) rfl))) (f_HSheet_isDark_ok (dep := dep + 0) hM28 h) rfl ?_
              intro x40 h
              replace h := hQ40 _ h
              refine iq_goto hS J_HSheet_takeRuns_d63 (t := 75) rfl ?_
              exact J38 _ _ l29 l30 l31 l32 l33 l34 l35 l36 l37 (ed_some h)
      exact I21 n21 _ _ _ _ _ hM (lk_1r (lk_1r l14 (by decide)) (by decide)) (lk_1i (lk_1i l15 (by decide)) (by decide)) (lk_1i (lk_1i l16 (by decide)) (by decide)) (lk_1i (lk_1i l17 (by decide)) (by decide)) (lk_1r (lk_1r l18 (by decide)) (by decide)) (lk_1i (lk_1i l19 (by decide)) (by decide)) (lk_1i (lk_1i l20 (by decide)) (by decide)) (lk_1i lk_1s (by decide)) lk_1s hn21
    refine iq_if_ne hS 33 J_HSheet_takeRuns_d30 (t := 37) rfl (fun q30 => ?_) rfl (fun q30 => ?_)
    · refine iq_iconst hS 38 J_HSheet_takeRuns_d37 (v := 0) (by decide +kernel) rfl ?_
      exact J11 _ _ (by simp only [if_pos q30]) (lk_1r l4 (by decide)) (lk_1i l5 (by decide)) (lk_1i l6 (by decide)) (lk_1i l7 (by decide)) (lk_1r l8 (by decide)) (lk_1i l9 (by decide)) lk_1s
    · refine iq_iconst hS 34 J_HSheet_takeRuns_d33 (v := 1) (by decide +kernel) rfl ?_
      refine iq_goto hS J_HSheet_takeRuns_d34 (t := 38) rfl ?_
      exact J11 _ _ (by simp only [if_neg q30]) (lk_1r l4 (by decide)) (lk_1i l5 (by decide)) (lk_1i l6 (by decide)) (lk_1i l7 (by decide)) (lk_1r l8 (by decide)) (lk_1i l9 (by decide)) lk_1s
  refine iq_if_eq hS 7 J_HSheet_takeRuns_d4 (t := 16) rfl (fun q4 => ?_) rfl (fun q4 => ?_)
  · refine iq_aload_n hS 17 J_HSheet_takeRuns_d16 (lk_1r l0 (by decide)) rfl ?_
    refine iq_getI hS 20 J_HSheet_takeRuns_d17 lf_9_9 (Or.inl rfl) (ka_28 hM) rfl ?_
    refine iq_iload_n hS 21 J_HSheet_takeRuns_d20 (lk_1i l1 (by decide)) rfl ?_
    refine iq_isub hS 22 J_HSheet_takeRuns_d21 rfl ?_
    exact J1 _ _ (by simp only [if_pos q4]) (lk_1r l0 (by decide)) (lk_1i l1 (by decide)) (lk_1i l2 (by decide)) (lk_1i l3 (by decide)) (lk_1r l4 (by decide)) lk_1s
  · refine iq_aload_n hS 8 J_HSheet_takeRuns_d7 (lk_1r l0 (by decide)) rfl ?_
    refine iq_getI hS 11 J_HSheet_takeRuns_d8 lf_9_15 (Or.inl rfl) (ka_28 hM) rfl ?_
    refine iq_iload_n hS 12 J_HSheet_takeRuns_d11 (lk_1i l2 (by decide)) rfl ?_
    refine iq_isub hS 13 J_HSheet_takeRuns_d12 rfl ?_
    refine iq_goto hS J_HSheet_takeRuns_d13 (t := 22) rfl ?_
    exact J1 _ _ (by simp only [if_neg q4]) (lk_1r l0 (by decide)) (lk_1i l1 (by decide)) (lk_1i l2 (by decide)) (lk_1i l3 (by decide)) (lk_1r l4 (by decide)) lk_1s
theorem f_HSheet_takeRuns_fr {w : Bool} {p0 : Int32} {p1 : Int32} {p2 : Int32} {M : im_M} {r : Int32 × im_M} (h : f_HSheet_takeRuns w p0 p1 p2 M = some r) : fr 4294967296 [] M r.2 := by
  replace h : ed (f_HSheet_takeRuns w p0 p1 p2 M) (fun x => x = r) := ⟨r, h, rfl⟩
  unfold f_HSheet_takeRuns at h
  obtain ⟨Q2, hQ2, h⟩ := bd1_ed h
  obtain ⟨x2, e2, h⟩ := h
  replace h := hQ2 _ h
  obtain ⟨Q4, hQ4, h⟩ := bd2_ed h
  have K4 : ∀ (y5 : Int32) (M6 : im_M), fr 4294967296 [] M M6 → Q4 (y5, M6) → fr 4294967296 [] M r.2 := by
    intro y5 M6 hM6 h
    replace h := hQ4 _ _ h
    exact fr_ret h hM6
  obtain ⟨r4, hr4, hq4⟩ := h
  obtain ⟨n4, hn4⟩ := lp_n hr4
  have I4 : ∀ (n : Nat) (x7 : Int32) (x8 : Int32) (x9 : Int32) (M10 : im_M), fr 4294967296 [] M M10 → lpn (uc4 (f_HSheet_takeRuns_L43 w p0 p1 p2 ((if p2 = 0 then ((im_i M 28 0) - p0) else ((im_i M 28 1) - p1)) : Int32))) n (x7, x8, x9, M10) = some r4 → fr 4294967296 [] M r.2 := by
    intro n
    induction n with
    | zero => intro x7 x8 x9 M10 hM10 hn; exact (lpn_0 hn).elim
    | succ n ih =>
      intro x7 x8 x9 M10 hM10 hn
      have h := lpn_ed4 hn
      unfold f_HSheet_takeRuns_L43 at h
      by_cases q47 : ((if p2 = 0 then ((im_i M 28 0) - p0) else ((im_i M 28 1) - p1)) : Int32) ≤ x9
      · replace h := ed_pos q47 h
        exact K4 _ _ hM10 (lq_r h hq4)
      · replace h := ed_neg q47 h
        obtain ⟨Q11, hQ11, h⟩ := bd1_ed h
        have J11 : ∀ (y14 : Int32), Q11 y14 → fr 4294967296 [] M r.2 := by
          intro y14 h
          replace h := hQ11 _ h
          obtain ⟨Q24, hQ24, h⟩ := bd3_ed h
          have J24 : ∀ (y25 : Int32) (y26 : Int32) (M27 : im_M), fr 4294967296 [] M M27 → Q24 (y25, y26, M27) → fr 4294967296 [] M r.2 := by
            intro y25 y26 M27 hM27 h
            replace h := hQ24 _ _ _ h
            obtain ⟨g104, h⟩ := ed_gd h
            obtain ⟨g107, h⟩ := ed_gd h
            exact ih _ _ _ _ (fr_I (by decide) hM27) (lq_l h)
          by_cases q81 : y14 = x8
          · replace h := ed_pos q81 h
            exact J24 _ _ _ hM10 (ed_some h)
          · replace h := ed_neg q81 h
            obtain ⟨g89, h⟩ := ed_gd h
            exact J24 _ _ _ (fr_I (by decide) hM10) (ed_some h)
        by_cases q51 : p2 = 0
        · replace h := ed_pos q51 h
          obtain ⟨Q12, hQ12, h⟩ := bd1_ed h
          obtain ⟨x12, e12, h⟩ := h
          replace h := hQ12 _ h
          exact J11 _ (ed_some h)
        · replace h := ed_neg q51 h
          obtain ⟨Q13, hQ13, h⟩ := bd1_ed h
          obtain ⟨x13, e13, h⟩ := h
          replace h := hQ13 _ h
          exact J11 _ (ed_some h)
  exact I4 n4 _ _ _ _ fr_refl hn4
noncomputable def f_H_run (w : Bool) (p0 : Int32) (p1 : Int32) (p2 : Int32) (p3 : Int32) (M : im_M) : Option (Int32 × im_M) := bd1 (f_HSheet_has p0 p1 M) fun (x1 : Int32) => if ¬ x1 = 0 then bd2 (f_HSheet_takeRuns w p0 p1 p3 M) fun (x2 : Int32) (M2 : im_M) => jn0 (fun (_ : Unit) => some ((-1), M2)) fun k3 => if p2 < 0 then k3 () else if p2 < x2 then gd (inb p2 512) <| some ((im_i M2 32 (Int32.toNatClampNeg p2)), M2) else k3 () else none
theorem J_H_run_d0 : decode J_H_run.2.1 0 = .ok (.aload_n 0, 1) := by decide +kernel
theorem J_H_run_d1 : decode J_H_run.2.1 1 = .ok (.getfield 37, 3) := by decide +kernel
theorem J_H_run_d4 : decode J_H_run.2.1 4 = .ok (.iload_n 1, 1) := by decide +kernel
theorem J_H_run_d5 : decode J_H_run.2.1 5 = .ok (.iload_n 2, 1) := by decide +kernel
theorem J_H_run_d6 : decode J_H_run.2.1 6 = .ok (.invokevirtual 182, 3) := by decide +kernel
theorem J_H_run_d9 : decode J_H_run.2.1 9 = .ok (.ifCond .ne 11, 3) := by decide +kernel
theorem J_H_run_d20 : decode J_H_run.2.1 20 = .ok (.aload_n 0, 1) := by decide +kernel
theorem J_H_run_d21 : decode J_H_run.2.1 21 = .ok (.getfield 37, 3) := by decide +kernel
theorem J_H_run_d24 : decode J_H_run.2.1 24 = .ok (.iload_n 1, 1) := by decide +kernel
theorem J_H_run_d25 : decode J_H_run.2.1 25 = .ok (.iload_n 2, 1) := by decide +kernel
theorem J_H_run_d26 : decode J_H_run.2.1 26 = .ok (.iload 4, 2) := by decide +kernel
theorem J_H_run_d28 : decode J_H_run.2.1 28 = .ok (.aload_n 0, 1) := by decide +kernel
theorem J_H_run_d29 : decode J_H_run.2.1 29 = .ok (.getfield 44, 3) := by decide +kernel
theorem J_H_run_d32 : decode J_H_run.2.1 32 = .ok (.getfield 186, 3) := by decide +kernel
theorem J_H_run_d35 : decode J_H_run.2.1 35 = .ok (.invokevirtual 189, 3) := by decide +kernel
theorem J_H_run_d38 : decode J_H_run.2.1 38 = .ok (.istore 5, 2) := by decide +kernel
theorem J_H_run_d40 : decode J_H_run.2.1 40 = .ok (.iload_n 3, 1) := by decide +kernel
theorem J_H_run_d41 : decode J_H_run.2.1 41 = .ok (.ifCond .lt 9, 3) := by decide +kernel
theorem J_H_run_d44 : decode J_H_run.2.1 44 = .ok (.iload_n 3, 1) := by decide +kernel
theorem J_H_run_d45 : decode J_H_run.2.1 45 = .ok (.iload 5, 2) := by decide +kernel
theorem J_H_run_d47 : decode J_H_run.2.1 47 = .ok (.if_icmp .lt 7, 3) := by decide +kernel
theorem J_H_run_d50 : decode J_H_run.2.1 50 = .ok (.iconst (-1), 1) := by decide +kernel
theorem J_H_run_d51 : decode J_H_run.2.1 51 = .ok (.goto 12, 3) := by decide +kernel
theorem J_H_run_d54 : decode J_H_run.2.1 54 = .ok (.aload_n 0, 1) := by decide +kernel
theorem J_H_run_d55 : decode J_H_run.2.1 55 = .ok (.getfield 44, 3) := by decide +kernel
theorem J_H_run_d58 : decode J_H_run.2.1 58 = .ok (.getfield 186, 3) := by decide +kernel
theorem J_H_run_d61 : decode J_H_run.2.1 61 = .ok (.iload_n 3, 1) := by decide +kernel
theorem J_H_run_d62 : decode J_H_run.2.1 62 = .ok (.iaload, 1) := by decide +kernel
theorem J_H_run_d63 : decode J_H_run.2.1 63 = .ok (.ireturn, 1) := by decide +kernel
theorem f_H_run_ok {L : Nat} {xs : Nat → Int32} {dep : Nat} {w : Bool} {p0 : Int32} {p1 : Int32} {p2 : Int32} {p3 : Int32} {M : im_M} {Q : Int32 × im_M → Prop} (hM : lw_S w M) (h : ed (f_H_run w p0 p1 p2 p3 M) Q) : ia (tb_G L xs) (dep + 2) J_H_run (rwI w Q) (0, lv_args 0 [.ref 0, .int p0, .int p1, .int p2, .int p3], [], M) := by
  have hS : im_St (tb_G L xs) (dep + 2) J_H_run (ia (tb_G L xs) (dep + 2) J_H_run (rwI w Q)) := ia_St
  unfold f_H_run at h
  have l0 : im_lk (lv_args 0 [.ref 0, .int p0, .int p1, .int p2, .int p3]) 0 = some (.ref 0) := rfl
  have l1 : im_lk (lv_args 0 [.ref 0, .int p0, .int p1, .int p2, .int p3]) 1 = some (.int p0) := rfl
  have l2 : im_lk (lv_args 0 [.ref 0, .int p0, .int p1, .int p2, .int p3]) 2 = some (.int p1) := rfl
  have l3 : im_lk (lv_args 0 [.ref 0, .int p0, .int p1, .int p2, .int p3]) 3 = some (.int p2) := rfl
  have l4 : im_lk (lv_args 0 [.ref 0, .int p0, .int p1, .int p2, .int p3]) 4 = some (.int p3) := rfl
  refine iq_aload_n hS 1 J_H_run_d0 l0 rfl ?_
  refine iq_getR hS 4 J_H_run_d1 lf_11_37 (Or.inl ⟨_, rfl⟩) (ka_0 hM) (ra_0_3 hM) rfl ?_
  refine iq_iload_n hS 5 J_H_run_d4 l1 rfl ?_
  refine iq_iload_n hS 6 J_H_run_d5 l2 rfl ?_
  obtain ⟨Q1, hQ1, h⟩ := bd1_ed h
  refine iq_cpI hS 9 J_H_run_d6 rfl (pr_inst (vs := [_, _]) lc_11_182 lT_198 rfl rfl (by decide) (by decide) rfl (Nat.le_of_ble_eq_true rfl) (Nat.le_of_ble_eq_true rfl) (fun _ => Or.inl (pr_b (ka_28 hM) (by decide) rfl))) (f_HSheet_has_ok (dep := dep + 1) hM h) rfl ?_
  intro x1 h
  replace h := hQ1 _ h
  refine iq_if_ne hS 12 J_H_run_d9 (t := 20) rfl (fun q9 => ?_) rfl (fun q9 => ?_)
  · replace h := ed_pos q9 h
    refine iq_aload_n hS 21 J_H_run_d20 l0 rfl ?_
    refine iq_getR hS 24 J_H_run_d21 lf_11_37 (Or.inl ⟨_, rfl⟩) (ka_0 hM) (ra_0_3 hM) rfl ?_
    refine iq_iload_n hS 25 J_H_run_d24 l1 rfl ?_
    refine iq_iload_n hS 26 J_H_run_d25 l2 rfl ?_
    refine iq_iload hS 28 J_H_run_d26 l4 rfl ?_
    refine iq_aload_n hS 29 J_H_run_d28 l0 rfl ?_
    refine iq_getR hS 32 J_H_run_d29 lf_11_44 (Or.inl ⟨_, rfl⟩) (ka_0 hM) (ra_0_5 hM) rfl ?_
    refine iq_getR hS 35 J_H_run_d32 lf_11_186 (Or.inr ⟨_, rfl⟩) (ka_31 hM) (ra_31_0 hM) rfl ?_
    obtain ⟨Q2, hQ2, h⟩ := bd2_ed h
    refine iq_cwI hS 38 J_H_run_d35 rfl (pr_inst (vs := [_, _, _, _]) lc_11_189 lT_199 rfl rfl (by decide) (by decide) rfl (Nat.le_of_ble_eq_true rfl) (Nat.le_of_ble_eq_true rfl) (fun _ => Or.inl (pr_b (ka_28 hM) (by decide) rfl))) (f_HSheet_takeRuns_ok (dep := dep + 0) hM h) rfl ?_
    intro x2 M2 hM2 h
    replace h := hQ2 _ _ h
    refine iq_istore hS 40 J_H_run_d38 (by decide) rfl ?_
    refine iq_iload_n hS 41 J_H_run_d40 (lk_1i l3 (by decide)) rfl ?_
    obtain ⟨k3, Q3, hQ3, hk3, h⟩ := jn0_ed h
    have J3 : ∀  (L' : List (Nat × Value)), Q3 () → ia (tb_G L xs) (dep + 2) J_H_run (rwI w Q) (50, L', [], M2) := by
      intro  L'  h
      replace h := hQ3  h
      refine iq_iconst hS 51 J_H_run_d50 (v := (-1)) (by decide +kernel) rfl ?_
      refine iq_goto hS J_H_run_d51 (t := 63) rfl ?_
      exact iq_iret J_H_run_d63 rfl rfl ⟨_, rfl, hM2, ed_some h⟩
    refine iq_if_lt hS 44 J_H_run_d41 (t := 50) rfl (fun q41 => ?_) rfl (fun q41 => ?_)
    · replace h := ed_pos q41 h
      exact J3  _  (hk3  h)
    · replace h := ed_neg q41 h
      refine iq_iload_n hS 45 J_H_run_d44 (lk_1i l3 (by decide)) rfl ?_
      refine iq_iload hS 47 J_H_run_d45 lk_1s rfl ?_
      refine iq_icmp_lt hS 50 J_H_run_d47 (t := 54) rfl (fun q47 => ?_) rfl (fun q47 => ?_)
      · replace h := ed_pos q47 h
        refine iq_aload_n hS 55 J_H_run_d54 (lk_1r l0 (by decide)) rfl ?_
        refine iq_getR hS 58 J_H_run_d55 lf_11_44 (Or.inl ⟨_, rfl⟩) (ka_0 hM2) (ra_0_5 hM2) rfl ?_
        refine iq_getR hS 61 J_H_run_d58 lf_11_186 (Or.inr ⟨_, rfl⟩) (ka_31 hM2) (ra_31_0 hM2) rfl ?_
        refine iq_iload_n hS 62 J_H_run_d61 (lk_1i l3 (by decide)) rfl ?_
        obtain ⟨g62, h⟩ := ed_gd h
        refine iq_iaload hS 63 J_H_run_d62 ⟨(ka_32 hM2).1, (ka_32 hM2).2, g62.1, ix_lt (kl_32 hM2) g62.2⟩ rfl ?_
        exact iq_iret J_H_run_d63 rfl rfl ⟨_, rfl, hM2, ed_some h⟩
      · replace h := ed_neg q47 h
        exact J3  _  (hk3  h)
  · replace h := ed_neg q9 h
    exact (ed_none h).elim
theorem f_H_run_fr {w : Bool} {p0 : Int32} {p1 : Int32} {p2 : Int32} {p3 : Int32} {M : im_M} {r : Int32 × im_M} (h : f_H_run w p0 p1 p2 p3 M = some r) : fr 4294967296 [] M r.2 := by
  replace h : ed (f_H_run w p0 p1 p2 p3 M) (fun x => x = r) := ⟨r, h, rfl⟩
  unfold f_H_run at h
  obtain ⟨Q1, hQ1, h⟩ := bd1_ed h
  obtain ⟨x1, e1, h⟩ := h
  replace h := hQ1 _ h
  by_cases q9 : ¬ x1 = 0
  · replace h := ed_pos q9 h
    obtain ⟨Q2, hQ2, h⟩ := bd2_ed h
    obtain ⟨⟨x2, M2⟩, e2, h⟩ := h
    replace h := hQ2 _ _ h
    obtain ⟨k3, Q3, hQ3, hk3, h⟩ := jn0_ed h
    have J3 : Q3 () → fr 4294967296 [] M r.2 := by
      intro  h
      replace h := hQ3  h
      exact fr_ret h (fr_tr (fr_mono (by decide) (by decide +kernel) (f_HSheet_takeRuns_fr e2)) fr_refl)
    by_cases q41 : p2 < 0
    · replace h := ed_pos q41 h
      exact J3  (hk3  h)
    · replace h := ed_neg q41 h
      by_cases q47 : p2 < x2
      · replace h := ed_pos q47 h
        obtain ⟨g62, h⟩ := ed_gd h
        exact fr_ret h (fr_tr (fr_mono (by decide) (by decide +kernel) (f_HSheet_takeRuns_fr e2)) fr_refl)
      · replace h := ed_neg q47 h
        exact J3  (hk3  h)
  · replace h := ed_neg q9 h
    exact (ed_none h).elim
noncomputable def f_HFinder_addUp_L26 (w : Bool) (v5 : Int32) (v6 : Int32) (x7 : Int32) (x8 : Int32) (M9 : im_M) : Option ((Int32 × Int32 × im_M) ⊕ (im_M)) := if (im_i M9 28 0) ≤ x8 then some (.inr M9) else bd1 (f_HSheet_isDark w x8 v5 M9) fun (x10 : Int32) => gd (inb (((v6 + x8) + 1) - 513) 263169) <| gd (inb ((v6 + x8) + 1) 263169) <| some (.inl (((if x10 = 0 then x7 else (x7 + 1)) : Int32), (x8 + 1), (im_setI M9 60 (Int32.toNatClampNeg ((v6 + x8) + 1)) ((im_i M9 60 (Int32.toNatClampNeg (((v6 + x8) + 1) - 513))) + ((if x10 = 0 then x7 else (x7 + 1)) : Int32)))))
noncomputable def f_HFinder_addUp_L2 (w : Bool) (x2 : Int32) (M3 : im_M) : Option ((Int32 × im_M) ⊕ (im_M)) := if (im_i M3 28 1) ≤ x2 then some (.inr M3) else bd1 (lp (uc3 (f_HFinder_addUp_L26 w x2 ((x2 + 1) * 513))) (0, 0, M3)) fun (M12 : im_M) => some (.inl ((x2 + 1), M12))
noncomputable def f_HFinder_addUp (w : Bool) (M : im_M) : Option (im_M) := bd1 (lp (uc2 (f_HFinder_addUp_L2 w)) (0, M)) fun (M13 : im_M) => some M13
theorem J_HFinder_addUp_d0 : decode J_HFinder_addUp.2.1 0 = .ok (.iconst 0, 1) := by decide +kernel
theorem J_HFinder_addUp_d1 : decode J_HFinder_addUp.2.1 1 = .ok (.istore_n 1, 1) := by decide +kernel
theorem J_HFinder_addUp_d2 : decode J_HFinder_addUp.2.1 2 = .ok (.iload_n 1, 1) := by decide +kernel
theorem J_HFinder_addUp_d3 : decode J_HFinder_addUp.2.1 3 = .ok (.aload_n 0, 1) := by decide +kernel
theorem J_HFinder_addUp_d4 : decode J_HFinder_addUp.2.1 4 = .ok (.getfield 37, 3) := by decide +kernel
theorem J_HFinder_addUp_d7 : decode J_HFinder_addUp.2.1 7 = .ok (.getfield 57, 3) := by decide +kernel
theorem J_HFinder_addUp_d10 : decode J_HFinder_addUp.2.1 10 = .ok (.if_icmp .ge 84, 3) := by decide +kernel
theorem J_HFinder_addUp_d13 : decode J_HFinder_addUp.2.1 13 = .ok (.iconst 0, 1) := by decide +kernel
theorem J_HFinder_addUp_d14 : decode J_HFinder_addUp.2.1 14 = .ok (.istore_n 2, 1) := by decide +kernel
theorem J_HFinder_addUp_d15 : decode J_HFinder_addUp.2.1 15 = .ok (.iload_n 1, 1) := by decide +kernel
theorem J_HFinder_addUp_d16 : decode J_HFinder_addUp.2.1 16 = .ok (.iconst 1, 1) := by decide +kernel
theorem J_HFinder_addUp_d17 : decode J_HFinder_addUp.2.1 17 = .ok (.iadd, 1) := by decide +kernel
theorem J_HFinder_addUp_d18 : decode J_HFinder_addUp.2.1 18 = .ok (.sipush 513, 3) := by decide +kernel
theorem J_HFinder_addUp_d21 : decode J_HFinder_addUp.2.1 21 = .ok (.imul, 1) := by decide +kernel
theorem J_HFinder_addUp_d22 : decode J_HFinder_addUp.2.1 22 = .ok (.istore_n 3, 1) := by decide +kernel
theorem J_HFinder_addUp_d23 : decode J_HFinder_addUp.2.1 23 = .ok (.iconst 0, 1) := by decide +kernel
theorem J_HFinder_addUp_d24 : decode J_HFinder_addUp.2.1 24 = .ok (.istore 4, 2) := by decide +kernel
theorem J_HFinder_addUp_d26 : decode J_HFinder_addUp.2.1 26 = .ok (.iload 4, 2) := by decide +kernel
theorem J_HFinder_addUp_d28 : decode J_HFinder_addUp.2.1 28 = .ok (.aload_n 0, 1) := by decide +kernel
theorem J_HFinder_addUp_d29 : decode J_HFinder_addUp.2.1 29 = .ok (.getfield 37, 3) := by decide +kernel
theorem J_HFinder_addUp_d32 : decode J_HFinder_addUp.2.1 32 = .ok (.getfield 54, 3) := by decide +kernel
theorem J_HFinder_addUp_d35 : decode J_HFinder_addUp.2.1 35 = .ok (.if_icmp .ge 53, 3) := by decide +kernel
theorem J_HFinder_addUp_d38 : decode J_HFinder_addUp.2.1 38 = .ok (.aload_n 0, 1) := by decide +kernel
theorem J_HFinder_addUp_d39 : decode J_HFinder_addUp.2.1 39 = .ok (.getfield 37, 3) := by decide +kernel
theorem J_HFinder_addUp_d42 : decode J_HFinder_addUp.2.1 42 = .ok (.iload 4, 2) := by decide +kernel
theorem J_HFinder_addUp_d44 : decode J_HFinder_addUp.2.1 44 = .ok (.iload_n 1, 1) := by decide +kernel
theorem J_HFinder_addUp_d45 : decode J_HFinder_addUp.2.1 45 = .ok (.invokevirtual 83, 3) := by decide +kernel
theorem J_HFinder_addUp_d48 : decode J_HFinder_addUp.2.1 48 = .ok (.ifCond .eq 6, 3) := by decide +kernel
theorem J_HFinder_addUp_d51 : decode J_HFinder_addUp.2.1 51 = .ok (.iinc 2 1, 3) := by decide +kernel
theorem J_HFinder_addUp_d54 : decode J_HFinder_addUp.2.1 54 = .ok (.aload_n 0, 1) := by decide +kernel
theorem J_HFinder_addUp_d55 : decode J_HFinder_addUp.2.1 55 = .ok (.getfield 14, 3) := by decide +kernel
theorem J_HFinder_addUp_d58 : decode J_HFinder_addUp.2.1 58 = .ok (.iload_n 3, 1) := by decide +kernel
theorem J_HFinder_addUp_d59 : decode J_HFinder_addUp.2.1 59 = .ok (.iload 4, 2) := by decide +kernel
theorem J_HFinder_addUp_d61 : decode J_HFinder_addUp.2.1 61 = .ok (.iadd, 1) := by decide +kernel
theorem J_HFinder_addUp_d62 : decode J_HFinder_addUp.2.1 62 = .ok (.iconst 1, 1) := by decide +kernel
theorem J_HFinder_addUp_d63 : decode J_HFinder_addUp.2.1 63 = .ok (.iadd, 1) := by decide +kernel
theorem J_HFinder_addUp_d64 : decode J_HFinder_addUp.2.1 64 = .ok (.aload_n 0, 1) := by decide +kernel
theorem J_HFinder_addUp_d65 : decode J_HFinder_addUp.2.1 65 = .ok (.getfield 14, 3) := by decide +kernel
theorem J_HFinder_addUp_d68 : decode J_HFinder_addUp.2.1 68 = .ok (.iload_n 3, 1) := by decide +kernel
theorem J_HFinder_addUp_d69 : decode J_HFinder_addUp.2.1 69 = .ok (.iload 4, 2) := by decide +kernel
theorem J_HFinder_addUp_d71 : decode J_HFinder_addUp.2.1 71 = .ok (.iadd, 1) := by decide +kernel
theorem J_HFinder_addUp_d72 : decode J_HFinder_addUp.2.1 72 = .ok (.iconst 1, 1) := by decide +kernel
theorem J_HFinder_addUp_d73 : decode J_HFinder_addUp.2.1 73 = .ok (.iadd, 1) := by decide +kernel
theorem J_HFinder_addUp_d74 : decode J_HFinder_addUp.2.1 74 = .ok (.sipush 513, 3) := by decide +kernel
theorem J_HFinder_addUp_d77 : decode J_HFinder_addUp.2.1 77 = .ok (.isub, 1) := by decide +kernel
theorem J_HFinder_addUp_d78 : decode J_HFinder_addUp.2.1 78 = .ok (.iaload, 1) := by decide +kernel
theorem J_HFinder_addUp_d79 : decode J_HFinder_addUp.2.1 79 = .ok (.iload_n 2, 1) := by decide +kernel
theorem J_HFinder_addUp_d80 : decode J_HFinder_addUp.2.1 80 = .ok (.iadd, 1) := by decide +kernel
theorem J_HFinder_addUp_d81 : decode J_HFinder_addUp.2.1 81 = .ok (.iastore, 1) := by decide +kernel
theorem J_HFinder_addUp_d82 : decode J_HFinder_addUp.2.1 82 = .ok (.iinc 4 1, 3) := by decide +kernel
theorem J_HFinder_addUp_d85 : decode J_HFinder_addUp.2.1 85 = .ok (.goto (-59), 3) := by decide +kernel
theorem J_HFinder_addUp_d88 : decode J_HFinder_addUp.2.1 88 = .ok (.iinc 1 1, 3) := by decide +kernel
theorem J_HFinder_addUp_d91 : decode J_HFinder_addUp.2.1 91 = .ok (.goto (-89), 3) := by decide +kernel
theorem J_HFinder_addUp_d94 : decode J_HFinder_addUp.2.1 94 = .ok (.return_, 1) := by decide +kernel
theorem f_HFinder_addUp_ok {L : Nat} {xs : Nat → Int32} {dep : Nat} {w : Bool} {M : im_M} {Q : im_M → Prop} (hM : lw_S w M) (h : ed (f_HFinder_addUp w M) Q) : ia (tb_G L xs) (dep + 1) J_HFinder_addUp (rwV w Q) (0, lv_args 0 [.ref 59], [], M) := by
  have hS : im_St (tb_G L xs) (dep + 1) J_HFinder_addUp (ia (tb_G L xs) (dep + 1) J_HFinder_addUp (rwV w Q)) := ia_St
  unfold f_HFinder_addUp at h
  have l0 : im_lk (lv_args 0 [.ref 59]) 0 = some (.ref 59) := rfl
  refine iq_iconst hS 1 J_HFinder_addUp_d0 (v := 0) (by decide +kernel) rfl ?_
  refine iq_istore_n hS 2 J_HFinder_addUp_d1 (by decide) rfl ?_
  obtain ⟨Q1, hQ1, h⟩ := bd1_ed h
  have K1 : ∀ (M2 : im_M) (L' : List (Nat × Value)), lw_S w M2 → Q1 M2 → ia (tb_G L xs) (dep + 1) J_HFinder_addUp (rwV w Q) (94, L', [], M2) := by
    intro M2 L' hM2  h
    replace h := hQ1 _ h
    exact iq_ret J_HFinder_addUp_d94 rfl ⟨rfl, hM2, ed_some h⟩
  obtain ⟨r1, hr1, hq1⟩ := h
  obtain ⟨n1, hn1⟩ := lp_n hr1
  have I1 : ∀ (n : Nat) (x3 : Int32) (M4 : im_M) (L' : List (Nat × Value)), lw_S w M4 → im_lk L' 0 = some (.ref 59) → im_lk L' 1 = some (.int x3) → lpn (uc2 (f_HFinder_addUp_L2 w)) n (x3, M4) = some r1 → ia (tb_G L xs) (dep + 1) J_HFinder_addUp (rwV w Q) (2, L', [], M4) := by
    intro n
    induction n with
    | zero => intro x3 M4 L' hM4 l5 l6 hn; exact (lpn_0 hn).elim
    | succ n ih =>
      intro x3 M4 L' hM4 l5 l6 hn
      have h := lpn_ed2 hn
      unfold f_HFinder_addUp_L2 at h
      refine iq_iload_n hS 3 J_HFinder_addUp_d2 l6 rfl ?_
      refine iq_aload_n hS 4 J_HFinder_addUp_d3 l5 rfl ?_
      refine iq_getR hS 7 J_HFinder_addUp_d4 lf_3_37 (Or.inl ⟨_, rfl⟩) (ka_59 hM4) (ra_59_1 hM4) rfl ?_
      refine iq_getI hS 10 J_HFinder_addUp_d7 lf_3_57 (Or.inl rfl) (ka_28 hM4) rfl ?_
      refine iq_icmp_ge hS 13 J_HFinder_addUp_d10 (t := 94) rfl (fun q10 => ?_) rfl (fun q10 => ?_)
      · replace h := ed_pos q10 h
        exact K1 _ _ hM4  (lq_r h hq1)
      · replace h := ed_neg q10 h
        refine iq_iconst hS 14 J_HFinder_addUp_d13 (v := 0) (by decide +kernel) rfl ?_
        refine iq_istore_n hS 15 J_HFinder_addUp_d14 (by decide) rfl ?_
        refine iq_iload_n hS 16 J_HFinder_addUp_d15 (lk_1i l6 (by decide)) rfl ?_
        refine iq_iconst hS 17 J_HFinder_addUp_d16 (v := 1) (by decide +kernel) rfl ?_
        refine iq_iadd hS 18 J_HFinder_addUp_d17 rfl ?_
        refine iq_sipush hS 21 J_HFinder_addUp_d18 (v := 513) (by decide +kernel) rfl ?_
        refine iq_imul hS 22 J_HFinder_addUp_d21 rfl ?_
        refine iq_istore_n hS 23 J_HFinder_addUp_d22 (by decide) rfl ?_
        refine iq_iconst hS 24 J_HFinder_addUp_d23 (v := 0) (by decide +kernel) rfl ?_
        refine iq_istore hS 26 J_HFinder_addUp_d24 (by decide) rfl ?_
        obtain ⟨Q7, hQ7, h⟩ := bd1_ed h
        have K7 : ∀ (M8 : im_M) (L' : List (Nat × Value)), lw_S w M8 → im_lk L' 0 = some (.ref 59) → im_lk L' 1 = some (.int x3) → Q7 M8 → ia (tb_G L xs) (dep + 1) J_HFinder_addUp (rwV w Q) (88, L', [], M8) := by
          intro M8 L' hM8 l9 l10 h
          replace h := hQ7 _ h
          refine iq_iincv hS 91 J_HFinder_addUp_d88 (c := 1) (by decide +kernel) l10 (by decide) rfl ?_
          refine iq_goto hS J_HFinder_addUp_d91 (t := 2) rfl ?_
          exact ih _ _ _ hM8 (lk_1r l9 (by decide)) lk_1s (lq_l h)
        obtain ⟨r7, hr7, hq7⟩ := h
        obtain ⟨n7, hn7⟩ := lp_n hr7
        have I7 : ∀ (n : Nat) (x11 : Int32) (x12 : Int32) (M13 : im_M) (L' : List (Nat × Value)), lw_S w M13 → im_lk L' 0 = some (.ref 59) → im_lk L' 1 = some (.int x3) → im_lk L' 2 = some (.int x11) → im_lk L' 3 = some (.int ((x3 + 1) * 513)) → im_lk L' 4 = some (.int x12) → lpn (uc3 (f_HFinder_addUp_L26 w x3 ((x3 + 1) * 513))) n (x11, x12, M13) = some r7 → ia (tb_G L xs) (dep + 1) J_HFinder_addUp (rwV w Q) (26, L', [], M13) := by
          intro n
          induction n with
          | zero => intro x11 x12 M13 L' hM13 l14 l15 l16 l17 l18 hn; exact (lpn_0 hn).elim
          | succ n ih =>
            intro x11 x12 M13 L' hM13 l14 l15 l16 l17 l18 hn
            have h := lpn_ed3 hn
            unfold f_HFinder_addUp_L26 at h
            refine iq_iload hS 28 J_HFinder_addUp_d26 l18 rfl ?_
            refine iq_aload_n hS 29 J_HFinder_addUp_d28 l14 rfl ?_
            refine iq_getR hS 32 J_HFinder_addUp_d29 lf_3_37 (Or.inl ⟨_, rfl⟩) (ka_59 hM13) (ra_59_1 hM13) rfl ?_
            refine iq_getI hS 35 J_HFinder_addUp_d32 lf_3_54 (Or.inl rfl) (ka_28 hM13) rfl ?_
            refine iq_icmp_ge hS 38 J_HFinder_addUp_d35 (t := 88) rfl (fun q35 => ?_) rfl (fun q35 => ?_)
            · replace h := ed_pos q35 h
              exact K7 _ _ hM13 l14 l15 (lq_r h hq7)
            · replace h := ed_neg q35 h
              refine iq_aload_n hS 39 J_HFinder_addUp_d38 l14 rfl ?_
              refine iq_getR hS 42 J_HFinder_addUp_d39 lf_3_37 (Or.inl ⟨_, rfl⟩) (ka_59 hM13) (ra_59_1 hM13) rfl ?_
              refine iq_iload hS 44 J_HFinder_addUp_d42 l18 rfl ?_
              refine iq_iload_n hS 45 J_HFinder_addUp_d44 l15 rfl ?_
              obtain ⟨Q19, hQ19, h⟩ := bd1_ed h
              refine iq_cpI hS 48 J_HFinder_addUp_d45 rfl (pr_inst (vs := [_, _]) lc_3_83 lT_200 rfl rfl (by decide) (by decide) rfl (Nat.le_of_ble_eq_true rfl) (Nat.le_of_ble_eq_true rfl) (fun _ => Or.inl (pr_b (ka_28 hM13) (by decide) rfl))) (f_HSheet_isDark_ok (dep := dep + 0) hM13 h) rfl ?_
              intro x19 h
              replace h := hQ19 _ h
              have J20 : ∀ (z21 : Int32) (L' : List (Nat × Value)), z21 = ((if x19 = 0 then x11 else (x11 + 1)) : Int32) → im_lk L' 0 = some (.ref 59) → im_lk L' 1 = some (.int x3) → im_lk L' 2 = some (.int z21) → im_lk L' 3 = some (.int ((x3 + 1) * 513)) → im_lk L' 4 = some (.int x12) → ia (tb_G L xs) (dep + 1) J_HFinder_addUp (rwV w Q) (54, L', [], M13) := by
                intro z21 L' e22 l23 l24 l25 l26 l27
                subst e22
                refine iq_aload_n hS 55 J_HFinder_addUp_d54 l23 rfl ?_
                refine iq_getR hS 58 J_HFinder_addUp_d55 lf_3_14 (Or.inr ⟨_, rfl⟩) (ka_59 hM13) (ra_59_2 hM13) rfl ?_
                refine iq_iload_n hS 59 J_HFinder_addUp_d58 l26 rfl ?_
                refine iq_iload hS 61 J_HFinder_addUp_d59 l27 rfl ?_
                refine iq_iadd hS 62 J_HFinder_addUp_d61 rfl ?_
                refine iq_iconst hS 63 J_HFinder_addUp_d62 (v := 1) (by decide +kernel) rfl ?_
                refine iq_iadd hS 64 J_HFinder_addUp_d63 rfl ?_
                refine iq_aload_n hS 65 J_HFinder_addUp_d64 l23 rfl ?_
                refine iq_getR hS 68 J_HFinder_addUp_d65 lf_3_14 (Or.inr ⟨_, rfl⟩) (ka_59 hM13) (ra_59_2 hM13) rfl ?_
                refine iq_iload_n hS 69 J_HFinder_addUp_d68 l26 rfl ?_
                refine iq_iload hS 71 J_HFinder_addUp_d69 l27 rfl ?_
                refine iq_iadd hS 72 J_HFinder_addUp_d71 rfl ?_
                refine iq_iconst hS 73 J_HFinder_addUp_d72 (v := 1) (by decide +kernel) rfl ?_
                refine iq_iadd hS 74 J_HFinder_addUp_d73 rfl ?_
                refine iq_sipush hS 77 J_HFinder_addUp_d74 (v := 513) (by decide +kernel) rfl ?_
                refine iq_isub hS 78 J_HFinder_addUp_d77 rfl ?_
                obtain ⟨g78, h⟩ := ed_gd h
                refine iq_iaload hS 79 J_HFinder_addUp_d78 ⟨(ka_60 hM13).1, (ka_60 hM13).2, g78.1, ix_lt (kl_60 hM13) g78.2⟩ rfl ?_
                refine iq_iload_n hS 80 J_HFinder_addUp_d79 l25 rfl ?_
                refine iq_iadd hS 81 J_HFinder_addUp_d80 rfl ?_
                obtain ⟨g81, h⟩ := ed_gd h
                refine iq_iastore hS 82 J_HFinder_addUp_d81 ⟨(ka_60 hM13).1, (ka_60 hM13).2, g81.1, ix_lt (kl_60 hM13) g81.2⟩ rfl ?_
                refine iq_iincv hS 85 J_HFinder_addUp_d82 (c := 1) (by decide +kernel) l27 (by decide) rfl ?_
                refine iq_goto hS J_HFinder_addUp_d85 (t := 26) rfl ?_
                exact ih _ _ _ _ (lw_sI hM13) (lk_1r l23 (by decide)) (lk_1i l24 (by decide)) (lk_1i l25 (by decide)) (lk_1i l26 (by decide)) lk_1s (lq_l h)
              refine iq_if_eq hS 51 J_HFinder_addUp_d48 (t := 54) rfl (fun q48 => ?_) rfl (fun q48 => ?_)
              · exact J20 _ _ (by simp only [if_pos q48]) l14 l15 l16 l17 l18
              · refine iq_iincv hS 54 J_HFinder_addUp_d51 (c := 1) (by decide +kernel) l16 (by decide) rfl ?_
                exact J20 _ _ (by simp only [if_neg q48]) (lk_1r l14 (by decide)) (lk_1i l15 (by decide)) lk_1s (lk_1i l17 (by decide)) (lk_1i l18 (by decide))
        exact I7 n7 _ _ _ _ hM4 (lk_1r (lk_1r (lk_1r l5 (by decide)) (by decide)) (by decide)) (lk_1i (lk_1i (lk_1i l6 (by decide)) (by decide)) (by decide)) (lk_1i (lk_1i lk_1s (by decide)) (by decide)) (lk_1i lk_1s (by decide)) lk_1s hn7
  exact I1 n1 _ _ _ hM (lk_1r l0 (by decide)) lk_1s hn1
theorem f_HFinder_addUp_fr {w : Bool} {M : im_M} {r : im_M} (h : f_HFinder_addUp w M = some r) : fr 1152921504606846976 [] M r := by
  replace h : ed (f_HFinder_addUp w M) (fun x => x = r) := ⟨r, h, rfl⟩
  unfold f_HFinder_addUp at h
  obtain ⟨Q1, hQ1, h⟩ := bd1_ed h
  have K1 : ∀ (M2 : im_M), fr 1152921504606846976 [] M M2 → Q1 M2 → fr 1152921504606846976 [] M r := by
    intro M2 hM2 h
    replace h := hQ1 _ h
    exact fr_retV h hM2
  obtain ⟨r1, hr1, hq1⟩ := h
  obtain ⟨n1, hn1⟩ := lp_n hr1
  have I1 : ∀ (n : Nat) (x3 : Int32) (M4 : im_M), fr 1152921504606846976 [] M M4 → lpn (uc2 (f_HFinder_addUp_L2 w)) n (x3, M4) = some r1 → fr 1152921504606846976 [] M r := by
    intro n
    induction n with
    | zero => intro x3 M4 hM4 hn; exact (lpn_0 hn).elim
    | succ n ih =>
      intro x3 M4 hM4 hn
      have h := lpn_ed2 hn
      unfold f_HFinder_addUp_L2 at h
      by_cases q10 : (im_i M4 28 1) ≤ x3
      · replace h := ed_pos q10 h
        exact K1 _ hM4 (lq_r h hq1)
      · replace h := ed_neg q10 h
        obtain ⟨Q5, hQ5, h⟩ := bd1_ed h
        have K5 : ∀ (M6 : im_M), fr 1152921504606846976 [] M M6 → Q5 M6 → fr 1152921504606846976 [] M r := by
          intro M6 hM6 h
          replace h := hQ5 _ h
          exact ih _ _ hM6 (lq_l h)
        obtain ⟨r5, hr5, hq5⟩ := h
        obtain ⟨n5, hn5⟩ := lp_n hr5
        have I5 : ∀ (n : Nat) (x7 : Int32) (x8 : Int32) (M9 : im_M), fr 1152921504606846976 [] M M9 → lpn (uc3 (f_HFinder_addUp_L26 w x3 ((x3 + 1) * 513))) n (x7, x8, M9) = some r5 → fr 1152921504606846976 [] M r := by
          intro n
          induction n with
          | zero => intro x7 x8 M9 hM9 hn; exact (lpn_0 hn).elim
          | succ n ih =>
            intro x7 x8 M9 hM9 hn
            have h := lpn_ed3 hn
            unfold f_HFinder_addUp_L26 at h
            by_cases q35 : (im_i M9 28 0) ≤ x8
            · replace h := ed_pos q35 h
              exact K5 _ hM9 (lq_r h hq5)
            · replace h := ed_neg q35 h
              obtain ⟨Q10, hQ10, h⟩ := bd1_ed h
              obtain ⟨x10, e10, h⟩ := h
              replace h := hQ10 _ h
              obtain ⟨g78, h⟩ := ed_gd h
              obtain ⟨g81, h⟩ := ed_gd h
              exact ih _ _ _ (fr_I (by decide) hM9) (lq_l h)
        exact I5 n5 _ _ _ hM4 hn5
  exact I1 n1 _ _ fr_refl hn1
noncomputable def f_HFinder_darkMarks (p0 : Int32) (M : im_M) : Option (Int32) := some ((102 : Int32) + ((4 : Int32) * p0))
theorem J_HFinder_darkMarks_d0 : decode J_HFinder_darkMarks.2.1 0 = .ok (.bipush 102, 2) := by decide +kernel
theorem J_HFinder_darkMarks_d2 : decode J_HFinder_darkMarks.2.1 2 = .ok (.iconst 4, 1) := by decide +kernel
theorem J_HFinder_darkMarks_d3 : decode J_HFinder_darkMarks.2.1 3 = .ok (.iload_n 0, 1) := by decide +kernel
theorem J_HFinder_darkMarks_d4 : decode J_HFinder_darkMarks.2.1 4 = .ok (.imul, 1) := by decide +kernel
theorem J_HFinder_darkMarks_d5 : decode J_HFinder_darkMarks.2.1 5 = .ok (.iadd, 1) := by decide +kernel
theorem J_HFinder_darkMarks_d6 : decode J_HFinder_darkMarks.2.1 6 = .ok (.ireturn, 1) := by decide +kernel
theorem f_HFinder_darkMarks_ok {L : Nat} {xs : Nat → Int32} {dep : Nat} {w : Bool} {p0 : Int32} {M : im_M} {Q : Int32 → Prop} (hM : lw_S w M) (h : ed (f_HFinder_darkMarks p0 M) Q) : ia (tb_G L xs) dep J_HFinder_darkMarks (rpI M Q) (0, lv_args 0 [.int p0], [], M) := by
  have hS : im_St (tb_G L xs) dep J_HFinder_darkMarks (ia (tb_G L xs) dep J_HFinder_darkMarks (rpI M Q)) := ia_St
  unfold f_HFinder_darkMarks at h
  have l0 : im_lk (lv_args 0 [.int p0]) 0 = some (.int p0) := rfl
  refine iq_bipush hS 2 J_HFinder_darkMarks_d0 (v := 102) (by decide +kernel) rfl ?_
  refine iq_iconst hS 3 J_HFinder_darkMarks_d2 (v := 4) (by decide +kernel) rfl ?_
  refine iq_iload_n hS 4 J_HFinder_darkMarks_d3 l0 rfl ?_
  refine iq_imul hS 5 J_HFinder_darkMarks_d4 rfl ?_
  refine iq_iadd hS 6 J_HFinder_darkMarks_d5 rfl ?_
  exact iq_iret J_HFinder_darkMarks_d6 rfl rfl ⟨_, rfl, rfl, ed_some h⟩
noncomputable def f_HFinder_darkIn (p0 : Int32) (p1 : Int32) (p2 : Int32) (M : im_M) : Option (Int32) := gd (inb ((((p1 * 513) + p0) + (p2 * 513)) + p2) 263169) <| gd (inb (((p1 * 513) + p0) + (p2 * 513)) 263169) <| gd (inb (((p1 * 513) + p0) + p2) 263169) <| gd (inb ((p1 * 513) + p0) 263169) <| some ((((im_i M 60 (Int32.toNatClampNeg ((((p1 * 513) + p0) + (p2 * 513)) + p2))) - (im_i M 60 (Int32.toNatClampNeg (((p1 * 513) + p0) + (p2 * 513))))) - (im_i M 60 (Int32.toNatClampNeg (((p1 * 513) + p0) + p2)))) + (im_i M 60 (Int32.toNatClampNeg ((p1 * 513) + p0))))
theorem J_HFinder_darkIn_d0 : decode J_HFinder_darkIn.2.1 0 = .ok (.iload_n 2, 1) := by decide +kernel
theorem J_HFinder_darkIn_d1 : decode J_HFinder_darkIn.2.1 1 = .ok (.sipush 513, 3) := by decide +kernel
theorem J_HFinder_darkIn_d4 : decode J_HFinder_darkIn.2.1 4 = .ok (.imul, 1) := by decide +kernel
theorem J_HFinder_darkIn_d5 : decode J_HFinder_darkIn.2.1 5 = .ok (.iload_n 1, 1) := by decide +kernel
theorem J_HFinder_darkIn_d6 : decode J_HFinder_darkIn.2.1 6 = .ok (.iadd, 1) := by decide +kernel
theorem J_HFinder_darkIn_d7 : decode J_HFinder_darkIn.2.1 7 = .ok (.istore 4, 2) := by decide +kernel
theorem J_HFinder_darkIn_d9 : decode J_HFinder_darkIn.2.1 9 = .ok (.iload 4, 2) := by decide +kernel
theorem J_HFinder_darkIn_d11 : decode J_HFinder_darkIn.2.1 11 = .ok (.iload_n 3, 1) := by decide +kernel
theorem J_HFinder_darkIn_d12 : decode J_HFinder_darkIn.2.1 12 = .ok (.sipush 513, 3) := by decide +kernel
theorem J_HFinder_darkIn_d15 : decode J_HFinder_darkIn.2.1 15 = .ok (.imul, 1) := by decide +kernel
theorem J_HFinder_darkIn_d16 : decode J_HFinder_darkIn.2.1 16 = .ok (.iadd, 1) := by decide +kernel
theorem J_HFinder_darkIn_d17 : decode J_HFinder_darkIn.2.1 17 = .ok (.istore 5, 2) := by decide +kernel
theorem J_HFinder_darkIn_d19 : decode J_HFinder_darkIn.2.1 19 = .ok (.aload_n 0, 1) := by decide +kernel
theorem J_HFinder_darkIn_d20 : decode J_HFinder_darkIn.2.1 20 = .ok (.getfield 14, 3) := by decide +kernel
theorem J_HFinder_darkIn_d23 : decode J_HFinder_darkIn.2.1 23 = .ok (.iload 5, 2) := by decide +kernel
theorem J_HFinder_darkIn_d25 : decode J_HFinder_darkIn.2.1 25 = .ok (.iload_n 3, 1) := by decide +kernel
theorem J_HFinder_darkIn_d26 : decode J_HFinder_darkIn.2.1 26 = .ok (.iadd, 1) := by decide +kernel
theorem J_HFinder_darkIn_d27 : decode J_HFinder_darkIn.2.1 27 = .ok (.iaload, 1) := by decide +kernel
theorem J_HFinder_darkIn_d28 : decode J_HFinder_darkIn.2.1 28 = .ok (.aload_n 0, 1) := by decide +kernel
theorem J_HFinder_darkIn_d29 : decode J_HFinder_darkIn.2.1 29 = .ok (.getfield 14, 3) := by decide +kernel
theorem J_HFinder_darkIn_d32 : decode J_HFinder_darkIn.2.1 32 = .ok (.iload 5, 2) := by decide +kernel
theorem J_HFinder_darkIn_d34 : decode J_HFinder_darkIn.2.1 34 = .ok (.iaload, 1) := by decide +kernel
theorem J_HFinder_darkIn_d35 : decode J_HFinder_darkIn.2.1 35 = .ok (.isub, 1) := by decide +kernel
theorem J_HFinder_darkIn_d36 : decode J_HFinder_darkIn.2.1 36 = .ok (.aload_n 0, 1) := by decide +kernel
theorem J_HFinder_darkIn_d37 : decode J_HFinder_darkIn.2.1 37 = .ok (.getfield 14, 3) := by decide +kernel
theorem J_HFinder_darkIn_d40 : decode J_HFinder_darkIn.2.1 40 = .ok (.iload 4, 2) := by decide +kernel
theorem J_HFinder_darkIn_d42 : decode J_HFinder_darkIn.2.1 42 = .ok (.iload_n 3, 1) := by decide +kernel
theorem J_HFinder_darkIn_d43 : decode J_HFinder_darkIn.2.1 43 = .ok (.iadd, 1) := by decide +kernel
theorem J_HFinder_darkIn_d44 : decode J_HFinder_darkIn.2.1 44 = .ok (.iaload, 1) := by decide +kernel
theorem J_HFinder_darkIn_d45 : decode J_HFinder_darkIn.2.1 45 = .ok (.isub, 1) := by decide +kernel
theorem J_HFinder_darkIn_d46 : decode J_HFinder_darkIn.2.1 46 = .ok (.aload_n 0, 1) := by decide +kernel
theorem J_HFinder_darkIn_d47 : decode J_HFinder_darkIn.2.1 47 = .ok (.getfield 14, 3) := by decide +kernel
theorem J_HFinder_darkIn_d50 : decode J_HFinder_darkIn.2.1 50 = .ok (.iload 4, 2) := by decide +kernel
theorem J_HFinder_darkIn_d52 : decode J_HFinder_darkIn.2.1 52 = .ok (.iaload, 1) := by decide +kernel
theorem J_HFinder_darkIn_d53 : decode J_HFinder_darkIn.2.1 53 = .ok (.iadd, 1) := by decide +kernel
theorem J_HFinder_darkIn_d54 : decode J_HFinder_darkIn.2.1 54 = .ok (.ireturn, 1) := by decide +kernel
theorem f_HFinder_darkIn_ok {L : Nat} {xs : Nat → Int32} {dep : Nat} {w : Bool} {p0 : Int32} {p1 : Int32} {p2 : Int32} {M : im_M} {Q : Int32 → Prop} (hM : lw_S w M) (h : ed (f_HFinder_darkIn p0 p1 p2 M) Q) : ia (tb_G L xs) dep J_HFinder_darkIn (rpI M Q) (0, lv_args 0 [.ref 59, .int p0, .int p1, .int p2], [], M) := by
  have hS : im_St (tb_G L xs) dep J_HFinder_darkIn (ia (tb_G L xs) dep J_HFinder_darkIn (rpI M Q)) := ia_St
  unfold f_HFinder_darkIn at h
  have l0 : im_lk (lv_args 0 [.ref 59, .int p0, .int p1, .int p2]) 0 = some (.ref 59) := rfl
  have l1 : im_lk (lv_args 0 [.ref 59, .int p0, .int p1, .int p2]) 1 = some (.int p0) := rfl
  have l2 : im_lk (lv_args 0 [.ref 59, .int p0, .int p1, .int p2]) 2 = some (.int p1) := rfl
  have l3 : im_lk (lv_args 0 [.ref 59, .int p0, .int p1, .int p2]) 3 = some (.int p2) := rfl
  refine iq_iload_n hS 1 J_HFinder_darkIn_d0 l2 rfl ?_
  refine iq_sipush hS 4 J_HFinder_darkIn_d1 (v := 513) (by decide +kernel) rfl ?_
  refine iq_imul hS 5 J_HFinder_darkIn_d4 rfl ?_
  refine iq_iload_n hS 6 J_HFinder_darkIn_d5 l1 rfl ?_
  refine iq_iadd hS 7 J_HFinder_darkIn_d6 rfl ?_
  refine iq_istore hS 9 J_HFinder_darkIn_d7 (by decide) rfl ?_
  refine iq_iload hS 11 J_HFinder_darkIn_d9 lk_1s rfl ?_
  refine iq_iload_n hS 12 J_HFinder_darkIn_d11 (lk_1i l3 (by decide)) rfl ?_
  refine iq_sipush hS 15 J_HFinder_darkIn_d12 (v := 513) (by decide +kernel) rfl ?_
  refine iq_imul hS 16 J_HFinder_darkIn_d15 rfl ?_
  refine iq_iadd hS 17 J_HFinder_darkIn_d16 rfl ?_
  refine iq_istore hS 19 J_HFinder_darkIn_d17 (by decide) rfl ?_
  refine iq_aload_n hS 20 J_HFinder_darkIn_d19 (lk_1r (lk_1r l0 (by decide)) (by decide)) rfl ?_
  refine iq_getR hS 23 J_HFinder_darkIn_d20 lf_3_14 (Or.inr ⟨_, rfl⟩) (ka_59 hM) (ra_59_2 hM) rfl ?_
  refine iq_iload hS 25 J_HFinder_darkIn_d23 lk_1s rfl ?_
  refine iq_iload_n hS 26 J_HFinder_darkIn_d25 (lk_1i (lk_1i l3 (by decide)) (by decide)) rfl ?_
  refine iq_iadd hS 27 J_HFinder_darkIn_d26 rfl ?_
  obtain ⟨g27, h⟩ := ed_gd h
  refine iq_iaload hS 28 J_HFinder_darkIn_d27 ⟨(ka_60 hM).1, (ka_60 hM).2, g27.1, ix_lt (kl_60 hM) g27.2⟩ rfl ?_
  refine iq_aload_n hS 29 J_HFinder_darkIn_d28 (lk_1r (lk_1r l0 (by decide)) (by decide)) rfl ?_
  refine iq_getR hS 32 J_HFinder_darkIn_d29 lf_3_14 (Or.inr ⟨_, rfl⟩) (ka_59 hM) (ra_59_2 hM) rfl ?_
  refine iq_iload hS 34 J_HFinder_darkIn_d32 lk_1s rfl ?_
  obtain ⟨g34, h⟩ := ed_gd h
  refine iq_iaload hS 35 J_HFinder_darkIn_d34 ⟨(ka_60 hM).1, (ka_60 hM).2, g34.1, ix_lt (kl_60 hM) g34.2⟩ rfl ?_
  refine iq_isub hS 36 J_HFinder_darkIn_d35 rfl ?_
  refine iq_aload_n hS 37 J_HFinder_darkIn_d36 (lk_1r (lk_1r l0 (by decide)) (by decide)) rfl ?_
  refine iq_getR hS 40 J_HFinder_darkIn_d37 lf_3_14 (Or.inr ⟨_, rfl⟩) (ka_59 hM) (ra_59_2 hM) rfl ?_
  refine iq_iload hS 42 J_HFinder_darkIn_d40 (lk_1i lk_1s (by decide)) rfl ?_
  refine iq_iload_n hS 43 J_HFinder_darkIn_d42 (lk_1i (lk_1i l3 (by decide)) (by decide)) rfl ?_
  refine iq_iadd hS 44 J_HFinder_darkIn_d43 rfl ?_
  obtain ⟨g44, h⟩ := ed_gd h
  refine iq_iaload hS 45 J_HFinder_darkIn_d44 ⟨(ka_60 hM).1, (ka_60 hM).2, g44.1, ix_lt (kl_60 hM) g44.2⟩ rfl ?_
  refine iq_isub hS 46 J_HFinder_darkIn_d45 rfl ?_
  refine iq_aload_n hS 47 J_HFinder_darkIn_d46 (lk_1r (lk_1r l0 (by decide)) (by decide)) rfl ?_
  refine iq_getR hS 50 J_HFinder_darkIn_d47 lf_3_14 (Or.inr ⟨_, rfl⟩) (ka_59 hM) (ra_59_2 hM) rfl ?_
  refine iq_iload hS 52 J_HFinder_darkIn_d50 (lk_1i lk_1s (by decide)) rfl ?_
  obtain ⟨g52, h⟩ := ed_gd h
  refine iq_iaload hS 53 J_HFinder_darkIn_d52 ⟨(ka_60 hM).1, (ka_60 hM).2, g52.1, ix_lt (kl_60 hM) g52.2⟩ rfl ?_
  refine iq_iadd hS 54 J_HFinder_darkIn_d53 rfl ?_
  exact iq_iret J_HFinder_darkIn_d54 rfl rfl ⟨_, rfl, rfl, ed_some h⟩
noncomputable def f_HFinder_ringsWrong (p0 : Int32) (p1 : Int32) (M : im_M) : Option (Int32) := bd1 (f_HFinder_darkIn (p0 + ((2 : Int32) * (im_i M 59 9))) (p1 + ((2 : Int32) * (im_i M 59 9))) ((3 : Int32) * (im_i M 59 9)) M) fun (x1 : Int32) => bd1 (f_HFinder_darkIn (p0 + (im_i M 59 9)) (p1 + (im_i M 59 9)) ((5 : Int32) * (im_i M 59 9)) M) fun (x2 : Int32) => bd1 (f_HFinder_darkIn p0 p1 ((7 : Int32) * (im_i M 59 9)) M) fun (x3 : Int32) => some ((((((33 : Int32) * (im_i M 59 9)) * (im_i M 59 9)) - x3) + ((2 : Int32) * x2)) - ((2 : Int32) * x1))
theorem J_HFinder_ringsWrong_d0 : decode J_HFinder_ringsWrong.2.1 0 = .ok (.aload_n 0, 1) := by decide +kernel
theorem J_HFinder_ringsWrong_d1 : decode J_HFinder_ringsWrong.2.1 1 = .ok (.iload_n 1, 1) := by decide +kernel
theorem J_HFinder_ringsWrong_d2 : decode J_HFinder_ringsWrong.2.1 2 = .ok (.iconst 2, 1) := by decide +kernel
theorem J_HFinder_ringsWrong_d3 : decode J_HFinder_ringsWrong.2.1 3 = .ok (.aload_n 0, 1) := by decide +kernel
theorem J_HFinder_ringsWrong_d4 : decode J_HFinder_ringsWrong.2.1 4 = .ok (.getfield 66, 3) := by decide +kernel
theorem J_HFinder_ringsWrong_d7 : decode J_HFinder_ringsWrong.2.1 7 = .ok (.imul, 1) := by decide +kernel
theorem J_HFinder_ringsWrong_d8 : decode J_HFinder_ringsWrong.2.1 8 = .ok (.iadd, 1) := by decide +kernel
theorem J_HFinder_ringsWrong_d9 : decode J_HFinder_ringsWrong.2.1 9 = .ok (.iload_n 2, 1) := by decide +kernel
theorem J_HFinder_ringsWrong_d10 : decode J_HFinder_ringsWrong.2.1 10 = .ok (.iconst 2, 1) := by decide +kernel
theorem J_HFinder_ringsWrong_d11 : decode J_HFinder_ringsWrong.2.1 11 = .ok (.aload_n 0, 1) := by decide +kernel
theorem J_HFinder_ringsWrong_d12 : decode J_HFinder_ringsWrong.2.1 12 = .ok (.getfield 66, 3) := by decide +kernel
theorem J_HFinder_ringsWrong_d15 : decode J_HFinder_ringsWrong.2.1 15 = .ok (.imul, 1) := by decide +kernel
theorem J_HFinder_ringsWrong_d16 : decode J_HFinder_ringsWrong.2.1 16 = .ok (.iadd, 1) := by decide +kernel
theorem J_HFinder_ringsWrong_d17 : decode J_HFinder_ringsWrong.2.1 17 = .ok (.iconst 3, 1) := by decide +kernel
theorem J_HFinder_ringsWrong_d18 : decode J_HFinder_ringsWrong.2.1 18 = .ok (.aload_n 0, 1) := by decide +kernel
theorem J_HFinder_ringsWrong_d19 : decode J_HFinder_ringsWrong.2.1 19 = .ok (.getfield 66, 3) := by decide +kernel
theorem J_HFinder_ringsWrong_d22 : decode J_HFinder_ringsWrong.2.1 22 = .ok (.imul, 1) := by decide +kernel
theorem J_HFinder_ringsWrong_d23 : decode J_HFinder_ringsWrong.2.1 23 = .ok (.invokevirtual 87, 3) := by decide +kernel
theorem J_HFinder_ringsWrong_d26 : decode J_HFinder_ringsWrong.2.1 26 = .ok (.istore_n 3, 1) := by decide +kernel
theorem J_HFinder_ringsWrong_d27 : decode J_HFinder_ringsWrong.2.1 27 = .ok (.aload_n 0, 1) := by decide +kernel
theorem J_HFinder_ringsWrong_d28 : decode J_HFinder_ringsWrong.2.1 28 = .ok (.iload_n 1, 1) := by decide +kernel
theorem J_HFinder_ringsWrong_d29 : decode J_HFinder_ringsWrong.2.1 29 = .ok (.aload_n 0, 1) := by decide +kernel
theorem J_HFinder_ringsWrong_d30 : decode J_HFinder_ringsWrong.2.1 30 = .ok (.getfield 66, 3) := by decide +kernel
theorem J_HFinder_ringsWrong_d33 : decode J_HFinder_ringsWrong.2.1 33 = .ok (.iadd, 1) := by decide +kernel
theorem J_HFinder_ringsWrong_d34 : decode J_HFinder_ringsWrong.2.1 34 = .ok (.iload_n 2, 1) := by decide +kernel
theorem J_HFinder_ringsWrong_d35 : decode J_HFinder_ringsWrong.2.1 35 = .ok (.aload_n 0, 1) := by decide +kernel
theorem J_HFinder_ringsWrong_d36 : decode J_HFinder_ringsWrong.2.1 36 = .ok (.getfield 66, 3) := by decide +kernel
theorem J_HFinder_ringsWrong_d39 : decode J_HFinder_ringsWrong.2.1 39 = .ok (.iadd, 1) := by decide +kernel
theorem J_HFinder_ringsWrong_d40 : decode J_HFinder_ringsWrong.2.1 40 = .ok (.iconst 5, 1) := by decide +kernel
theorem J_HFinder_ringsWrong_d41 : decode J_HFinder_ringsWrong.2.1 41 = .ok (.aload_n 0, 1) := by decide +kernel
theorem J_HFinder_ringsWrong_d42 : decode J_HFinder_ringsWrong.2.1 42 = .ok (.getfield 66, 3) := by decide +kernel
theorem J_HFinder_ringsWrong_d45 : decode J_HFinder_ringsWrong.2.1 45 = .ok (.imul, 1) := by decide +kernel
theorem J_HFinder_ringsWrong_d46 : decode J_HFinder_ringsWrong.2.1 46 = .ok (.invokevirtual 87, 3) := by decide +kernel
theorem J_HFinder_ringsWrong_d49 : decode J_HFinder_ringsWrong.2.1 49 = .ok (.istore 4, 2) := by decide +kernel
theorem J_HFinder_ringsWrong_d51 : decode J_HFinder_ringsWrong.2.1 51 = .ok (.aload_n 0, 1) := by decide +kernel
theorem J_HFinder_ringsWrong_d52 : decode J_HFinder_ringsWrong.2.1 52 = .ok (.iload_n 1, 1) := by decide +kernel
theorem J_HFinder_ringsWrong_d53 : decode J_HFinder_ringsWrong.2.1 53 = .ok (.iload_n 2, 1) := by decide +kernel
theorem J_HFinder_ringsWrong_d54 : decode J_HFinder_ringsWrong.2.1 54 = .ok (.bipush 7, 2) := by decide +kernel
theorem J_HFinder_ringsWrong_d56 : decode J_HFinder_ringsWrong.2.1 56 = .ok (.aload_n 0, 1) := by decide +kernel
theorem J_HFinder_ringsWrong_d57 : decode J_HFinder_ringsWrong.2.1 57 = .ok (.getfield 66, 3) := by decide +kernel
theorem J_HFinder_ringsWrong_d60 : decode J_HFinder_ringsWrong.2.1 60 = .ok (.imul, 1) := by decide +kernel
theorem J_HFinder_ringsWrong_d61 : decode J_HFinder_ringsWrong.2.1 61 = .ok (.invokevirtual 87, 3) := by decide +kernel
theorem J_HFinder_ringsWrong_d64 : decode J_HFinder_ringsWrong.2.1 64 = .ok (.istore 5, 2) := by decide +kernel
theorem J_HFinder_ringsWrong_d66 : decode J_HFinder_ringsWrong.2.1 66 = .ok (.bipush 33, 2) := by decide +kernel
theorem J_HFinder_ringsWrong_d68 : decode J_HFinder_ringsWrong.2.1 68 = .ok (.aload_n 0, 1) := by decide +kernel
theorem J_HFinder_ringsWrong_d69 : decode J_HFinder_ringsWrong.2.1 69 = .ok (.getfield 66, 3) := by decide +kernel
theorem J_HFinder_ringsWrong_d72 : decode J_HFinder_ringsWrong.2.1 72 = .ok (.imul, 1) := by decide +kernel
theorem J_HFinder_ringsWrong_d73 : decode J_HFinder_ringsWrong.2.1 73 = .ok (.aload_n 0, 1) := by decide +kernel
theorem J_HFinder_ringsWrong_d74 : decode J_HFinder_ringsWrong.2.1 74 = .ok (.getfield 66, 3) := by decide +kernel
theorem J_HFinder_ringsWrong_d77 : decode J_HFinder_ringsWrong.2.1 77 = .ok (.imul, 1) := by decide +kernel
theorem J_HFinder_ringsWrong_d78 : decode J_HFinder_ringsWrong.2.1 78 = .ok (.iload 5, 2) := by decide +kernel
theorem J_HFinder_ringsWrong_d80 : decode J_HFinder_ringsWrong.2.1 80 = .ok (.isub, 1) := by decide +kernel
theorem J_HFinder_ringsWrong_d81 : decode J_HFinder_ringsWrong.2.1 81 = .ok (.iconst 2, 1) := by decide +kernel
theorem J_HFinder_ringsWrong_d82 : decode J_HFinder_ringsWrong.2.1 82 = .ok (.iload 4, 2) := by decide +kernel
theorem J_HFinder_ringsWrong_d84 : decode J_HFinder_ringsWrong.2.1 84 = .ok (.imul, 1) := by decide +kernel
theorem J_HFinder_ringsWrong_d85 : decode J_HFinder_ringsWrong.2.1 85 = .ok (.iadd, 1) := by decide +kernel
theorem J_HFinder_ringsWrong_d86 : decode J_HFinder_ringsWrong.2.1 86 = .ok (.iconst 2, 1) := by decide +kernel
theorem J_HFinder_ringsWrong_d87 : decode J_HFinder_ringsWrong.2.1 87 = .ok (.iload_n 3, 1) := by decide +kernel
theorem J_HFinder_ringsWrong_d88 : decode J_HFinder_ringsWrong.2.1 88 = .ok (.imul, 1) := by decide +kernel
theorem J_HFinder_ringsWrong_d89 : decode J_HFinder_ringsWrong.2.1 89 = .ok (.isub, 1) := by decide +kernel
theorem J_HFinder_ringsWrong_d90 : decode J_HFinder_ringsWrong.2.1 90 = .ok (.ireturn, 1) := by decide +kernel
theorem f_HFinder_ringsWrong_ok {L : Nat} {xs : Nat → Int32} {dep : Nat} {w : Bool} {p0 : Int32} {p1 : Int32} {M : im_M} {Q : Int32 → Prop} (hM : lw_S w M) (h : ed (f_HFinder_ringsWrong p0 p1 M) Q) : ia (tb_G L xs) (dep + 1) J_HFinder_ringsWrong (rpI M Q) (0, lv_args 0 [.ref 59, .int p0, .int p1], [], M) := by
  have hS : im_St (tb_G L xs) (dep + 1) J_HFinder_ringsWrong (ia (tb_G L xs) (dep + 1) J_HFinder_ringsWrong (rpI M Q)) := ia_St
  unfold f_HFinder_ringsWrong at h
  have l0 : im_lk (lv_args 0 [.ref 59, .int p0, .int p1]) 0 = some (.ref 59) := rfl
  have l1 : im_lk (lv_args 0 [.ref 59, .int p0, .int p1]) 1 = some (.int p0) := rfl
  have l2 : im_lk (lv_args 0 [.ref 59, .int p0, .int p1]) 2 = some (.int p1) := rfl
  refine iq_aload_n hS 1 J_HFinder_ringsWrong_d0 l0 rfl ?_
  refine iq_iload_n hS 2 J_HFinder_ringsWrong_d1 l1 rfl ?_
  refine iq_iconst hS 3 J_HFinder_ringsWrong_d2 (v := 2) (by decide +kernel) rfl ?_
  refine iq_aload_n hS 4 J_HFinder_ringsWrong_d3 l0 rfl ?_
  refine iq_getI hS 7 J_HFinder_ringsWrong_d4 lf_3_66 (Or.inl rfl) (ka_59 hM) rfl ?_
  refine iq_imul hS 8 J_HFinder_ringsWrong_d7 rfl ?_
  refine iq_iadd hS 9 J_HFinder_ringsWrong_d8 rfl ?_
  refine iq_iload_n hS 10 J_HFinder_ringsWrong_d9 l2 rfl ?_
  refine iq_iconst hS 11 J_HFinder_ringsWrong_d10 (v := 2) (by decide +kernel) rfl ?_
  refine iq_aload_n hS 12 J_HFinder_ringsWrong_d11 l0 rfl ?_
  refine iq_getI hS 15 J_HFinder_ringsWrong_d12 lf_3_66 (Or.inl rfl) (ka_59 hM) rfl ?_
  refine iq_imul hS 16 J_HFinder_ringsWrong_d15 rfl ?_
  refine iq_iadd hS 17 J_HFinder_ringsWrong_d16 rfl ?_
  refine iq_iconst hS 18 J_HFinder_ringsWrong_d17 (v := 3) (by decide +kernel) rfl ?_
  refine iq_aload_n hS 19 J_HFinder_ringsWrong_d18 l0 rfl ?_
  refine iq_getI hS 22 J_HFinder_ringsWrong_d19 lf_3_66 (Or.inl rfl) (ka_59 hM) rfl ?_
  refine iq_imul hS 23 J_HFinder_ringsWrong_d22 rfl ?_
  obtain ⟨Q1, hQ1, h⟩ := bd1_ed h
  refine iq_cpI hS 26 J_HFinder_ringsWrong_d23 rfl (pr_inst (vs := [_, _, _]) lc_3_87 lT_206 rfl rfl (by decide) (by decide) rfl (Nat.le_of_ble_eq_true rfl) (Nat.le_of_ble_eq_true rfl) (fun _ => Or.inl (pr_b (ka_59 hM) (by decide) rfl))) (f_HFinder_darkIn_ok (dep := dep + 0) hM h) rfl ?_
  intro x1 h
  replace h := hQ1 _ h
  refine iq_istore_n hS 27 J_HFinder_ringsWrong_d26 (by decide) rfl ?_
  refine iq_aload_n hS 28 J_HFinder_ringsWrong_d27 (lk_1r l0 (by decide)) rfl ?_
  refine iq_iload_n hS 29 J_HFinder_ringsWrong_d28 (lk_1i l1 (by decide)) rfl ?_
  refine iq_aload_n hS 30 J_HFinder_ringsWrong_d29 (lk_1r l0 (by decide)) rfl ?_
  refine iq_getI hS 33 J_HFinder_ringsWrong_d30 lf_3_66 (Or.inl rfl) (ka_59 hM) rfl ?_
  refine iq_iadd hS 34 J_HFinder_ringsWrong_d33 rfl ?_
  refine iq_iload_n hS 35 J_HFinder_ringsWrong_d34 (lk_1i l2 (by decide)) rfl ?_
  refine iq_aload_n hS 36 J_HFinder_ringsWrong_d35 (lk_1r l0 (by decide)) rfl ?_
  refine iq_getI hS 39 J_HFinder_ringsWrong_d36 lf_3_66 (Or.inl rfl) (ka_59 hM) rfl ?_
  refine iq_iadd hS 40 J_HFinder_ringsWrong_d39 rfl ?_
  refine iq_iconst hS 41 J_HFinder_ringsWrong_d40 (v := 5) (by decide +kernel) rfl ?_
  refine iq_aload_n hS 42 J_HFinder_ringsWrong_d41 (lk_1r l0 (by decide)) rfl ?_
  refine iq_getI hS 45 J_HFinder_ringsWrong_d42 lf_3_66 (Or.inl rfl) (ka_59 hM) rfl ?_
  refine iq_imul hS 46 J_HFinder_ringsWrong_d45 rfl ?_
  obtain ⟨Q2, hQ2, h⟩ := bd1_ed h
  refine iq_cpI hS 49 J_HFinder_ringsWrong_d46 rfl (pr_inst (vs := [_, _, _]) lc_3_87 lT_206 rfl rfl (by decide) (by decide) rfl (Nat.le_of_ble_eq_true rfl) (Nat.le_of_ble_eq_true rfl) (fun _ => Or.inl (pr_b (ka_59 hM) (by decide) rfl))) (f_HFinder_darkIn_ok (dep := dep + 0) hM h) rfl ?_
  intro x2 h
  replace h := hQ2 _ h
  refine iq_istore hS 51 J_HFinder_ringsWrong_d49 (by decide) rfl ?_
  refine iq_aload_n hS 52 J_HFinder_ringsWrong_d51 (lk_1r (lk_1r l0 (by decide)) (by decide)) rfl ?_
  refine iq_iload_n hS 53 J_HFinder_ringsWrong_d52 (lk_1i (lk_1i l1 (by decide)) (by decide)) rfl ?_
  refine iq_iload_n hS 54 J_HFinder_ringsWrong_d53 (lk_1i (lk_1i l2 (by decide)) (by decide)) rfl ?_
  refine iq_bipush hS 56 J_HFinder_ringsWrong_d54 (v := 7) (by decide +kernel) rfl ?_
  refine iq_aload_n hS 57 J_HFinder_ringsWrong_d56 (lk_1r (lk_1r l0 (by decide)) (by decide)) rfl ?_
  refine iq_getI hS 60 J_HFinder_ringsWrong_d57 lf_3_66 (Or.inl rfl) (ka_59 hM) rfl ?_
  refine iq_imul hS 61 J_HFinder_ringsWrong_d60 rfl ?_
  obtain ⟨Q3, hQ3, h⟩ := bd1_ed h
  refine iq_cpI hS 64 J_HFinder_ringsWrong_d61 rfl (pr_inst (vs := [_, _, _]) lc_3_87 lT_206 rfl rfl (by decide) (by decide) rfl (Nat.le_of_ble_eq_true rfl) (Nat.le_of_ble_eq_true rfl) (fun _ => Or.inl (pr_b (ka_59 hM) (by decide) rfl))) (f_HFinder_darkIn_ok (dep := dep + 0) hM h) rfl ?_
  intro x3 h
  replace h := hQ3 _ h
  refine iq_istore hS 66 J_HFinder_ringsWrong_d64 (by decide) rfl ?_
  refine iq_bipush hS 68 J_HFinder_ringsWrong_d66 (v := 33) (by decide +kernel) rfl ?_
  refine iq_aload_n hS 69 J_HFinder_ringsWrong_d68 (lk_1r (lk_1r (lk_1r l0 (by decide)) (by decide)) (by decide)) rfl ?_
  refine iq_getI hS 72 J_HFinder_ringsWrong_d69 lf_3_66 (Or.inl rfl) (ka_59 hM) rfl ?_
  refine iq_imul hS 73 J_HFinder_ringsWrong_d72 rfl ?_
  refine iq_aload_n hS 74 J_HFinder_ringsWrong_d73 (lk_1r (lk_1r (lk_1r l0 (by decide)) (by decide)) (by decide)) rfl ?_
  refine iq_getI hS 77 J_HFinder_ringsWrong_d74 lf_3_66 (Or.inl rfl) (ka_59 hM) rfl ?_
  refine iq_imul hS 78 J_HFinder_ringsWrong_d77 rfl ?_
  refine iq_iload hS 80 J_HFinder_ringsWrong_d78 lk_1s rfl ?_
  refine iq_isub hS 81 J_HFinder_ringsWrong_d80 rfl ?_
  refine iq_iconst hS 82 J_HFinder_ringsWrong_d81 (v := 2) (by decide +kernel) rfl ?_
  refine iq_iload hS 84 J_HFinder_ringsWrong_d82 (lk_1i lk_1s (by decide)) rfl ?_
  refine iq_imul hS 85 J_HFinder_ringsWrong_d84 rfl ?_
  refine iq_iadd hS 86 J_HFinder_ringsWrong_d85 rfl ?_
  refine iq_iconst hS 87 J_HFinder_ringsWrong_d86 (v := 2) (by decide +kernel) rfl ?_
  refine iq_iload_n hS 88 J_HFinder_ringsWrong_d87 (lk_1i (lk_1i lk_1s (by decide)) (by decide)) rfl ?_
  refine iq_imul hS 89 J_HFinder_ringsWrong_d88 rfl ?_
  refine iq_isub hS 90 J_HFinder_ringsWrong_d89 rfl ?_
  exact iq_iret J_HFinder_ringsWrong_d90 rfl rfl ⟨_, rfl, rfl, ed_some h⟩
noncomputable def f_HFinder_lookAtCorners_L23 (v5 : Int32) (x6 : Int32) (M7 : im_M) : Option ((Int32 × im_M) ⊕ (im_M)) := if (im_i M7 28 0) < (x6 + ((7 : Int32) * (im_i M7 59 9))) then some (.inr M7) else bd1 (f_HFinder_darkIn (x6 + ((2 : Int32) * (im_i M7 59 9))) (v5 + ((2 : Int32) * (im_i M7 59 9))) ((3 : Int32) * (im_i M7 59 9)) M7) fun (x8 : Int32) => bd1 (if (im_i M7 59 10) < ((((9 : Int32) * (im_i M7 59 9)) * (im_i M7 59 9)) - x8) then some ((((9 : Int32) * (im_i M7 59 9)) * (im_i M7 59 9)) - x8) else bd1 (f_HFinder_ringsWrong x6 v5 M7) fun (x10 : Int32) => some x10) fun (y11 : Int32) => bd1 (f_Math_min y11 ((im_i M7 59 10) + 1) M7) fun (x16 : Int32) => gd (inb ((v5 * 512) + x6) 262144) <| some (.inl ((x6 + 1), (im_setI M7 61 (Int32.toNatClampNeg ((v5 * 512) + x6)) (vp_nar .short ((Int32.toInt16 x16).toInt32)))))
noncomputable def f_HFinder_lookAtCorners_L2 (x2 : Int32) (M3 : im_M) : Option ((Int32 × im_M) ⊕ (im_M)) := if (im_i M3 28 1) < (x2 + ((7 : Int32) * (im_i M3 59 9))) then some (.inr M3) else bd1 (lp (uc2 (f_HFinder_lookAtCorners_L23 x2)) (0, M3)) fun (M17 : im_M) => some (.inl ((x2 + 1), M17))
noncomputable def f_HFinder_lookAtCorners (M : im_M) : Option (im_M) := bd1 (lp (uc2 (f_HFinder_lookAtCorners_L2)) (0, M)) fun (M18 : im_M) => some M18
theorem J_HFinder_lookAtCorners_d0 : decode J_HFinder_lookAtCorners.2.1 0 = .ok (.iconst 0, 1) := by decide +kernel
theorem J_HFinder_lookAtCorners_d1 : decode J_HFinder_lookAtCorners.2.1 1 = .ok (.istore_n 1, 1) := by decide +kernel
theorem J_HFinder_lookAtCorners_d2 : decode J_HFinder_lookAtCorners.2.1 2 = .ok (.iload_n 1, 1) := by decide +kernel
theorem J_HFinder_lookAtCorners_d3 : decode J_HFinder_lookAtCorners.2.1 3 = .ok (.bipush 7, 2) := by decide +kernel
theorem J_HFinder_lookAtCorners_d5 : decode J_HFinder_lookAtCorners.2.1 5 = .ok (.aload_n 0, 1) := by decide +kernel
theorem J_HFinder_lookAtCorners_d6 : decode J_HFinder_lookAtCorners.2.1 6 = .ok (.getfield 66, 3) := by decide +kernel
theorem J_HFinder_lookAtCorners_d9 : decode J_HFinder_lookAtCorners.2.1 9 = .ok (.imul, 1) := by decide +kernel
theorem J_HFinder_lookAtCorners_d10 : decode J_HFinder_lookAtCorners.2.1 10 = .ok (.iadd, 1) := by decide +kernel
theorem J_HFinder_lookAtCorners_d11 : decode J_HFinder_lookAtCorners.2.1 11 = .ok (.aload_n 0, 1) := by decide +kernel
theorem J_HFinder_lookAtCorners_d12 : decode J_HFinder_lookAtCorners.2.1 12 = .ok (.getfield 37, 3) := by decide +kernel
theorem J_HFinder_lookAtCorners_d15 : decode J_HFinder_lookAtCorners.2.1 15 = .ok (.getfield 57, 3) := by decide +kernel
theorem J_HFinder_lookAtCorners_d18 : decode J_HFinder_lookAtCorners.2.1 18 = .ok (.if_icmp .gt 114, 3) := by decide +kernel
theorem J_HFinder_lookAtCorners_d21 : decode J_HFinder_lookAtCorners.2.1 21 = .ok (.iconst 0, 1) := by decide +kernel
theorem J_HFinder_lookAtCorners_d22 : decode J_HFinder_lookAtCorners.2.1 22 = .ok (.istore_n 2, 1) := by decide +kernel
theorem J_HFinder_lookAtCorners_d23 : decode J_HFinder_lookAtCorners.2.1 23 = .ok (.iload_n 2, 1) := by decide +kernel
theorem J_HFinder_lookAtCorners_d24 : decode J_HFinder_lookAtCorners.2.1 24 = .ok (.bipush 7, 2) := by decide +kernel
theorem J_HFinder_lookAtCorners_d26 : decode J_HFinder_lookAtCorners.2.1 26 = .ok (.aload_n 0, 1) := by decide +kernel
theorem J_HFinder_lookAtCorners_d27 : decode J_HFinder_lookAtCorners.2.1 27 = .ok (.getfield 66, 3) := by decide +kernel
theorem J_HFinder_lookAtCorners_d30 : decode J_HFinder_lookAtCorners.2.1 30 = .ok (.imul, 1) := by decide +kernel
theorem J_HFinder_lookAtCorners_d31 : decode J_HFinder_lookAtCorners.2.1 31 = .ok (.iadd, 1) := by decide +kernel
theorem J_HFinder_lookAtCorners_d32 : decode J_HFinder_lookAtCorners.2.1 32 = .ok (.aload_n 0, 1) := by decide +kernel
theorem J_HFinder_lookAtCorners_d33 : decode J_HFinder_lookAtCorners.2.1 33 = .ok (.getfield 37, 3) := by decide +kernel
theorem J_HFinder_lookAtCorners_d36 : decode J_HFinder_lookAtCorners.2.1 36 = .ok (.getfield 54, 3) := by decide +kernel
theorem J_HFinder_lookAtCorners_d39 : decode J_HFinder_lookAtCorners.2.1 39 = .ok (.if_icmp .gt 87, 3) := by decide +kernel
theorem J_HFinder_lookAtCorners_d42 : decode J_HFinder_lookAtCorners.2.1 42 = .ok (.bipush 9, 2) := by decide +kernel
theorem J_HFinder_lookAtCorners_d44 : decode J_HFinder_lookAtCorners.2.1 44 = .ok (.aload_n 0, 1) := by decide +kernel
theorem J_HFinder_lookAtCorners_d45 : decode J_HFinder_lookAtCorners.2.1 45 = .ok (.getfield 66, 3) := by decide +kernel
theorem J_HFinder_lookAtCorners_d48 : decode J_HFinder_lookAtCorners.2.1 48 = .ok (.imul, 1) := by decide +kernel
theorem J_HFinder_lookAtCorners_d49 : decode J_HFinder_lookAtCorners.2.1 49 = .ok (.aload_n 0, 1) := by decide +kernel
theorem J_HFinder_lookAtCorners_d50 : decode J_HFinder_lookAtCorners.2.1 50 = .ok (.getfield 66, 3) := by decide +kernel
theorem J_HFinder_lookAtCorners_d53 : decode J_HFinder_lookAtCorners.2.1 53 = .ok (.imul, 1) := by decide +kernel
theorem J_HFinder_lookAtCorners_d54 : decode J_HFinder_lookAtCorners.2.1 54 = .ok (.aload_n 0, 1) := by decide +kernel
theorem J_HFinder_lookAtCorners_d55 : decode J_HFinder_lookAtCorners.2.1 55 = .ok (.iload_n 2, 1) := by decide +kernel
theorem J_HFinder_lookAtCorners_d56 : decode J_HFinder_lookAtCorners.2.1 56 = .ok (.iconst 2, 1) := by decide +kernel
theorem J_HFinder_lookAtCorners_d57 : decode J_HFinder_lookAtCorners.2.1 57 = .ok (.aload_n 0, 1) := by decide +kernel
theorem J_HFinder_lookAtCorners_d58 : decode J_HFinder_lookAtCorners.2.1 58 = .ok (.getfield 66, 3) := by decide +kernel
theorem J_HFinder_lookAtCorners_d61 : decode J_HFinder_lookAtCorners.2.1 61 = .ok (.imul, 1) := by decide +kernel
theorem J_HFinder_lookAtCorners_d62 : decode J_HFinder_lookAtCorners.2.1 62 = .ok (.iadd, 1) := by decide +kernel
theorem J_HFinder_lookAtCorners_d63 : decode J_HFinder_lookAtCorners.2.1 63 = .ok (.iload_n 1, 1) := by decide +kernel
theorem J_HFinder_lookAtCorners_d64 : decode J_HFinder_lookAtCorners.2.1 64 = .ok (.iconst 2, 1) := by decide +kernel
theorem J_HFinder_lookAtCorners_d65 : decode J_HFinder_lookAtCorners.2.1 65 = .ok (.aload_n 0, 1) := by decide +kernel
theorem J_HFinder_lookAtCorners_d66 : decode J_HFinder_lookAtCorners.2.1 66 = .ok (.getfield 66, 3) := by decide +kernel
theorem J_HFinder_lookAtCorners_d69 : decode J_HFinder_lookAtCorners.2.1 69 = .ok (.imul, 1) := by decide +kernel
theorem J_HFinder_lookAtCorners_d70 : decode J_HFinder_lookAtCorners.2.1 70 = .ok (.iadd, 1) := by decide +kernel
theorem J_HFinder_lookAtCorners_d71 : decode J_HFinder_lookAtCorners.2.1 71 = .ok (.iconst 3, 1) := by decide +kernel
theorem J_HFinder_lookAtCorners_d72 : decode J_HFinder_lookAtCorners.2.1 72 = .ok (.aload_n 0, 1) := by decide +kernel
theorem J_HFinder_lookAtCorners_d73 : decode J_HFinder_lookAtCorners.2.1 73 = .ok (.getfield 66, 3) := by decide +kernel
theorem J_HFinder_lookAtCorners_d76 : decode J_HFinder_lookAtCorners.2.1 76 = .ok (.imul, 1) := by decide +kernel
theorem J_HFinder_lookAtCorners_d77 : decode J_HFinder_lookAtCorners.2.1 77 = .ok (.invokevirtual 87, 3) := by decide +kernel
theorem J_HFinder_lookAtCorners_d80 : decode J_HFinder_lookAtCorners.2.1 80 = .ok (.isub, 1) := by decide +kernel
theorem J_HFinder_lookAtCorners_d81 : decode J_HFinder_lookAtCorners.2.1 81 = .ok (.istore_n 3, 1) := by decide +kernel
theorem J_HFinder_lookAtCorners_d82 : decode J_HFinder_lookAtCorners.2.1 82 = .ok (.iload_n 3, 1) := by decide +kernel
theorem J_HFinder_lookAtCorners_d83 : decode J_HFinder_lookAtCorners.2.1 83 = .ok (.aload_n 0, 1) := by decide +kernel
theorem J_HFinder_lookAtCorners_d84 : decode J_HFinder_lookAtCorners.2.1 84 = .ok (.getfield 48, 3) := by decide +kernel
theorem J_HFinder_lookAtCorners_d87 : decode J_HFinder_lookAtCorners.2.1 87 = .ok (.if_icmp .gt 10, 3) := by decide +kernel
theorem J_HFinder_lookAtCorners_d90 : decode J_HFinder_lookAtCorners.2.1 90 = .ok (.aload_n 0, 1) := by decide +kernel
theorem J_HFinder_lookAtCorners_d91 : decode J_HFinder_lookAtCorners.2.1 91 = .ok (.iload_n 2, 1) := by decide +kernel
theorem J_HFinder_lookAtCorners_d92 : decode J_HFinder_lookAtCorners.2.1 92 = .ok (.iload_n 1, 1) := by decide +kernel
theorem J_HFinder_lookAtCorners_d93 : decode J_HFinder_lookAtCorners.2.1 93 = .ok (.invokevirtual 91, 3) := by decide +kernel
theorem J_HFinder_lookAtCorners_d96 : decode J_HFinder_lookAtCorners.2.1 96 = .ok (.istore_n 3, 1) := by decide +kernel
theorem J_HFinder_lookAtCorners_d97 : decode J_HFinder_lookAtCorners.2.1 97 = .ok (.aload_n 0, 1) := by decide +kernel
theorem J_HFinder_lookAtCorners_d98 : decode J_HFinder_lookAtCorners.2.1 98 = .ok (.getfield 19, 3) := by decide +kernel
theorem J_HFinder_lookAtCorners_d101 : decode J_HFinder_lookAtCorners.2.1 101 = .ok (.iload_n 1, 1) := by decide +kernel
theorem J_HFinder_lookAtCorners_d102 : decode J_HFinder_lookAtCorners.2.1 102 = .ok (.sipush 512, 3) := by decide +kernel
theorem J_HFinder_lookAtCorners_d105 : decode J_HFinder_lookAtCorners.2.1 105 = .ok (.imul, 1) := by decide +kernel
theorem J_HFinder_lookAtCorners_d106 : decode J_HFinder_lookAtCorners.2.1 106 = .ok (.iload_n 2, 1) := by decide +kernel
theorem J_HFinder_lookAtCorners_d107 : decode J_HFinder_lookAtCorners.2.1 107 = .ok (.iadd, 1) := by decide +kernel
theorem J_HFinder_lookAtCorners_d108 : decode J_HFinder_lookAtCorners.2.1 108 = .ok (.iload_n 3, 1) := by decide +kernel
theorem J_HFinder_lookAtCorners_d109 : decode J_HFinder_lookAtCorners.2.1 109 = .ok (.aload_n 0, 1) := by decide +kernel
theorem J_HFinder_lookAtCorners_d110 : decode J_HFinder_lookAtCorners.2.1 110 = .ok (.getfield 48, 3) := by decide +kernel
theorem J_HFinder_lookAtCorners_d113 : decode J_HFinder_lookAtCorners.2.1 113 = .ok (.iconst 1, 1) := by decide +kernel
theorem J_HFinder_lookAtCorners_d114 : decode J_HFinder_lookAtCorners.2.1 114 = .ok (.iadd, 1) := by decide +kernel
theorem J_HFinder_lookAtCorners_d115 : decode J_HFinder_lookAtCorners.2.1 115 = .ok (.invokestatic 60, 3) := by decide +kernel
theorem J_HFinder_lookAtCorners_d118 : decode J_HFinder_lookAtCorners.2.1 118 = .ok (.i2s, 1) := by decide +kernel
theorem J_HFinder_lookAtCorners_d119 : decode J_HFinder_lookAtCorners.2.1 119 = .ok (.sastore, 1) := by decide +kernel
theorem J_HFinder_lookAtCorners_d120 : decode J_HFinder_lookAtCorners.2.1 120 = .ok (.iinc 2 1, 3) := by decide +kernel
theorem J_HFinder_lookAtCorners_d123 : decode J_HFinder_lookAtCorners.2.1 123 = .ok (.goto (-100), 3) := by decide +kernel
theorem J_HFinder_lookAtCorners_d126 : decode J_HFinder_lookAtCorners.2.1 126 = .ok (.iinc 1 1, 3) := by decide +kernel
theorem J_HFinder_lookAtCorners_d129 : decode J_HFinder_lookAtCorners.2.1 129 = .ok (.goto (-127), 3) := by decide +kernel
theorem J_HFinder_lookAtCorners_d132 : decode J_HFinder_lookAtCorners.2.1 132 = .ok (.return_, 1) := by decide +kernel
theorem f_HFinder_lookAtCorners_ok {L : Nat} {xs : Nat → Int32} {dep : Nat} {w : Bool} {M : im_M} {Q : im_M → Prop} (hM : lw_S w M) (h : ed (f_HFinder_lookAtCorners M) Q) : ia (tb_G L xs) (dep + 2) J_HFinder_lookAtCorners (rwV w Q) (0, lv_args 0 [.ref 59], [], M) := by
  have hS : im_St (tb_G L xs) (dep + 2) J_HFinder_lookAtCorners (ia (tb_G L xs) (dep + 2) J_HFinder_lookAtCorners (rwV w Q)) := ia_St
  unfold f_HFinder_lookAtCorners at h
  have l0 : im_lk (lv_args 0 [.ref 59]) 0 = some (.ref 59) := rfl
  refine iq_iconst hS 1 J_HFinder_lookAtCorners_d0 (v := 0) (by decide +kernel) rfl ?_
  refine iq_istore_n hS 2 J_HFinder_lookAtCorners_d1 (by decide) rfl ?_
  obtain ⟨Q1, hQ1, h⟩ := bd1_ed h
  have K1 : ∀ (M2 : im_M) (L' : List (Nat × Value)), lw_S w M2 → Q1 M2 → ia (tb_G L xs) (dep + 2) J_HFinder_lookAtCorners (rwV w Q) (132, L', [], M2) := by
    intro M2 L' hM2  h
    replace h := hQ1 _ h
    exact iq_ret J_HFinder_lookAtCorners_d132 rfl ⟨rfl, hM2, ed_some h⟩
  obtain ⟨r1, hr1, hq1⟩ := h
  obtain ⟨n1, hn1⟩ := lp_n hr1
  have I1 : ∀ (n : Nat) (x3 : Int32) (M4 : im_M) (L' : List (Nat × Value)), lw_S w M4 → im_lk L' 0 = some (.ref 59) → im_lk L' 1 = some (.int x3) → lpn (uc2 (f_HFinder_lookAtCorners_L2)) n (x3, M4) = some r1 → ia (tb_G L xs) (dep + 2) J_HFinder_lookAtCorners (rwV w Q) (2, L', [], M4) := by
    intro n
    induction n with
    | zero => intro x3 M4 L' hM4 l5 l6 hn; exact (lpn_0 hn).elim
    | succ n ih =>
      intro x3 M4 L' hM4 l5 l6 hn
      have h := lpn_ed2 hn
      unfold f_HFinder_lookAtCorners_L2 at h
      refine iq_iload_n hS 3 J_HFinder_lookAtCorners_d2 l6 rfl ?_
      refine iq_bipush hS 5 J_HFinder_lookAtCorners_d3 (v := 7) (by decide +kernel) rfl ?_
      refine iq_aload_n hS 6 J_HFinder_lookAtCorners_d5 l5 rfl ?_
      refine iq_getI hS 9 J_HFinder_lookAtCorners_d6 lf_3_66 (Or.inl rfl) (ka_59 hM4) rfl ?_
      refine iq_imul hS 10 J_HFinder_lookAtCorners_d9 rfl ?_
      refine iq_iadd hS 11 J_HFinder_lookAtCorners_d10 rfl ?_
      refine iq_aload_n hS 12 J_HFinder_lookAtCorners_d11 l5 rfl ?_
      refine iq_getR hS 15 J_HFinder_lookAtCorners_d12 lf_3_37 (Or.inl ⟨_, rfl⟩) (ka_59 hM4) (ra_59_1 hM4) rfl ?_
      refine iq_getI hS 18 J_HFinder_lookAtCorners_d15 lf_3_57 (Or.inl rfl) (ka_28 hM4) rfl ?_
      refine iq_icmp_gt hS 21 J_HFinder_lookAtCorners_d18 (t := 132) rfl (fun q18 => ?_) rfl (fun q18 => ?_)
      · replace h := ed_pos q18 h
        exact K1 _ _ hM4  (lq_r h hq1)
      · replace h := ed_neg q18 h
        refine iq_iconst hS 22 J_HFinder_lookAtCorners_d21 (v := 0) (by decide +kernel) rfl ?_
        refine iq_istore_n hS 23 J_HFinder_lookAtCorners_d22 (by decide) rfl ?_
        obtain ⟨Q7, hQ7, h⟩ := bd1_ed h
        have K7 : ∀ (M8 : im_M) (L' : List (Nat × Value)), lw_S w M8 → im_lk L' 0 = some (.ref 59) → im_lk L' 1 = some (.int x3) → Q7 M8 → ia (tb_G L xs) (dep + 2) J_HFinder_lookAtCorners (rwV w Q) (126, L', [], M8) := by
          intro M8 L' hM8 l9 l10 h
          replace h := hQ7 _ h
          refine iq_iincv hS 129 J_HFinder_lookAtCorners_d126 (c := 1) (by decide +kernel) l10 (by decide) rfl ?_
          refine iq_goto hS J_HFinder_lookAtCorners_d129 (t := 2) rfl ?_
          exact ih _ _ _ hM8 (lk_1r l9 (by decide)) lk_1s (lq_l h)
        obtain ⟨r7, hr7, hq7⟩ := h
        obtain ⟨n7, hn7⟩ := lp_n hr7
        have I7 : ∀ (n : Nat) (x11 : Int32) (M12 : im_M) (L' : List (Nat × Value)), lw_S w M12 → im_lk L' 0 = some (.ref 59) → im_lk L' 1 = some (.int x3) → im_lk L' 2 = some (.int x11) → lpn (uc2 (f_HFinder_lookAtCorners_L23 x3)) n (x11, M12) = some r7 → ia (tb_G L xs) (dep + 2) J_HFinder_lookAtCorners (rwV w Q) (23, L', [], M12) := by
          intro n
          induction n with
          | zero => intro x11 M12 L' hM12 l13 l14 l15 hn; exact (lpn_0 hn).elim
          | succ n ih =>
            intro x11 M12 L' hM12 l13 l14 l15 hn
            have h := lpn_ed2 hn
            unfold f_HFinder_lookAtCorners_L23 at h
            refine iq_iload_n hS 24 J_HFinder_lookAtCorners_d23 l15 rfl ?_
            refine iq_bipush hS 26 J_HFinder_lookAtCorners_d24 (v := 7) (by decide +kernel) rfl ?_
            refine iq_aload_n hS 27 J_HFinder_lookAtCorners_d26 l13 rfl ?_
            refine iq_getI hS 30 J_HFinder_lookAtCorners_d27 lf_3_66 (Or.inl rfl) (ka_59 hM12) rfl ?_
            refine iq_imul hS 31 J_HFinder_lookAtCorners_d30 rfl ?_
            refine iq_iadd hS 32 J_HFinder_lookAtCorners_d31 rfl ?_
            refine iq_aload_n hS 33 J_HFinder_lookAtCorners_d32 l13 rfl ?_
            refine iq_getR hS 36 J_HFinder_lookAtCorners_d33 lf_3_37 (Or.inl ⟨_, rfl⟩) (ka_59 hM12) (ra_59_1 hM12) rfl ?_
            refine iq_getI hS 39 J_HFinder_lookAtCorners_d36 lf_3_54 (Or.inl rfl) (ka_28 hM12) rfl ?_
            refine iq_icmp_gt hS 42 J_HFinder_lookAtCorners_d39 (t := 126) rfl (fun q39 => ?_) rfl (fun q39 => ?_)
            · replace h := ed_pos q39 h
              exact K7 _ _ hM12 l13 l14 (lq_r h hq7)
            · replace h := ed_neg q39 h
              refine iq_bipush hS 44 J_HFinder_lookAtCorners_d42 (v := 9) (by decide +kernel) rfl ?_
              refine iq_aload_n hS 45 J_HFinder_lookAtCorners_d44 l13 rfl ?_
              refine iq_getI hS 48 J_HFinder_lookAtCorners_d45 lf_3_66 (Or.inl rfl) (ka_59 hM12) rfl ?_
              refine iq_imul hS 49 J_HFinder_lookAtCorners_d48 rfl ?_
              refine iq_aload_n hS 50 J_HFinder_lookAtCorners_d49 l13 rfl ?_
              refine iq_getI hS 53 J_HFinder_lookAtCorners_d50 lf_3_66 (Or.inl rfl) (ka_59 hM12) rfl ?_
              refine iq_imul hS 54 J_HFinder_lookAtCorners_d53 rfl ?_
              refine iq_aload_n hS 55 J_HFinder_lookAtCorners_d54 l13 rfl ?_
              refine iq_iload_n hS 56 J_HFinder_lookAtCorners_d55 l15 rfl ?_
              refine iq_iconst hS 57 J_HFinder_lookAtCorners_d56 (v := 2) (by decide +kernel) rfl ?_
              refine iq_aload_n hS 58 J_HFinder_lookAtCorners_d57 l13 rfl ?_
              refine iq_getI hS 61 J_HFinder_lookAtCorners_d58 lf_3_66 (Or.inl rfl) (ka_59 hM12) rfl ?_
              refine iq_imul hS 62 J_HFinder_lookAtCorners_d61 rfl ?_
              refine iq_iadd hS 63 J_HFinder_lookAtCorners_d62 rfl ?_
              refine iq_iload_n hS 64 J_HFinder_lookAtCorners_d63 l14 rfl ?_
              refine iq_iconst hS 65 J_HFinder_lookAtCorners_d64 (v := 2) (by decide +kernel) rfl ?_
              refine iq_aload_n hS 66 J_HFinder_lookAtCorners_d65 l13 rfl ?_
              refine iq_getI hS 69 J_HFinder_lookAtCorners_d66 lf_3_66 (Or.inl rfl) (ka_59 hM12) rfl ?_
              refine iq_imul hS 70 J_HFinder_lookAtCorners_d69 rfl ?_
              refine iq_iadd hS 71 J_HFinder_lookAtCorners_d70 rfl ?_
              refine iq_iconst hS 72 J_HFinder_lookAtCorners_d71 (v := 3) (by decide +kernel) rfl ?_
              refine iq_aload_n hS 73 J_HFinder_lookAtCorners_d72 l13 rfl ?_
              refine iq_getI hS 76 J_HFinder_lookAtCorners_d73 lf_3_66 (Or.inl rfl) (ka_59 hM12) rfl ?_
              refine iq_imul hS 77 J_HFinder_lookAtCorners_d76 rfl ?_
              obtain ⟨Q16, hQ16, h⟩ := bd1_ed h
              refine iq_cpI hS 80 J_HFinder_lookAtCorners_d77 rfl (pr_inst (vs := [_, _, _]) lc_3_87 lT_206 rfl rfl (by decide) (by decide) rfl (Nat.le_of_ble_eq_true rfl) (Nat.le_of_ble_eq_true rfl) (fun _ => Or.inl (pr_b (ka_59 hM12) (by decide) rfl))) (f_HFinder_darkIn_ok (dep := dep + 1) hM12 h) rfl ?_
              intro x16 h
              replace h := hQ16 _ h
              refine iq_isub hS 81 J_HFinder_lookAtCorners_d80 rfl ?_
              refine iq_istore_n hS 82 J_HFinder_lookAtCorners_d81 (by decide) rfl ?_
              refine iq_iload_n hS 83 J_HFinder_lookAtCorners_d82 lk_1s rfl ?_
              refine iq_aload_n hS 84 J_HFinder_lookAtCorners_d83 (lk_1r l13 (by decide)) rfl ?_
              refine iq_getI hS 87 J_HFinder_lookAtCorners_d84 lf_3_48 (Or.inl rfl) (ka_59 hM12) rfl ?_
              obtain ⟨Q17, hQ17, h⟩ := bd1_ed h
              have J17 : ∀ (y19 : Int32) (L' : List (Nat × Value)), im_lk L' 0 = some (.ref 59) → im_lk L' 1 = some (.int x3) → im_lk L' 2 = some (.int x11) → im_lk L' 3 = some (.int y19) → Q17 y19 → ia (tb_G L xs) (dep + 2) J_HFinder_lookAtCorners (rwV w Q) (97, L', [], M12) := by
                intro y19 L' l20 l21 l22 l23 h
                replace h := hQ17 _ h
                refine iq_aload_n hS 98 J_HFinder_lookAtCorners_d97 l20 rfl ?_
                refine iq_getR hS 101 J_HFinder_lookAtCorners_d98 lf_3_19 (Or.inr ⟨_, rfl⟩) (ka_59 hM12) (ra_59_3 hM12) rfl ?_
                refine iq_iload_n hS 102 J_HFinder_lookAtCorners_d101 l21 rfl ?_
                refine iq_sipush hS 105 J_HFinder_lookAtCorners_d102 (v := 512) (by decide +kernel) rfl ?_
                refine iq_imul hS 106 J_HFinder_lookAtCorners_d105 rfl ?_
                refine iq_iload_n hS 107 J_HFinder_lookAtCorners_d106 l22 rfl ?_
                refine iq_iadd hS 108 J_HFinder_lookAtCorners_d107 rfl ?_
                refine iq_iload_n hS 109 J_HFinder_lookAtCorners_d108 l23 rfl ?_
                refine iq_aload_n hS 110 J_HFinder_lookAtCorners_d109 l20 rfl ?_
                refine iq_getI hS 113 J_HFinder_lookAtCorners_d110 lf_3_48 (Or.inl rfl) (ka_59 hM12) rfl ?_
                refine iq_iconst hS 114 J_HFinder_lookAtCorners_d113 (v := 1) (by decide +kernel) rfl ?_
                refine iq_iadd hS 115 J_HFinder_lookAtCorners_d114 rfl ?_
                obtain ⟨Q24, hQ24, h⟩ := bd1_ed h
                refine iq_cpI hS 118 J_HFinder_lookAtCorners_d115 rfl (pr_stat (vs := [_, _]) lc_3_60 lT_28 rfl rfl (by decide) rfl (Nat.le_of_ble_eq_true rfl) (Nat.le_of_ble_eq_true rfl)) (f_Math_min_ok (dep := dep + 1) hM12 h) rfl ?_
                intro x24 h
                replace h := hQ24 _ h
                refine iq_i2s hS 119 J_HFinder_lookAtCorners_d118 rfl ?_
                obtain ⟨g119, h⟩ := ed_gd h
                refine iq_sastore hS 120 J_HFinder_lookAtCorners_d119 ⟨(ka_61 hM12).1, (ka_61 hM12).2, g119.1, ix_lt (kl_61 hM12) g119.2⟩ rfl ?_
                refine iq_iincv hS 123 J_HFinder_lookAtCorners_d120 (c := 1) (by decide +kernel) l22 (by decide) rfl ?_
                refine iq_goto hS J_HFinder_lookAtCorners_d123 (t := 23) rfl ?_
                exact ih _ _ _ (lw_sI hM12) (lk_1r l20 (by decide)) (lk_1i l21 (by decide)) lk_1s (lq_l h)
              refine iq_icmp_gt hS 90 J_HFinder_lookAtCorners_d87 (t := 97) rfl (fun q87 => ?_) rfl (fun q87 => ?_)
              · replace h := ed_pos q87 h
                exact J17 _ _ (lk_1r l13 (by decide)) (lk_1i l14 (by decide)) (lk_1i l15 (by decide)) lk_1s (ed_some h)
              · replace h := ed_neg q87 h
                refine iq_aload_n hS 91 J_HFinder_lookAtCorners_d90 (lk_1r l13 (by decide)) rfl ?_
                refine iq_iload_n hS 92 J_HFinder_lookAtCorners_d91 (lk_1i l15 (by decide)) rfl ?_
                refine iq_iload_n hS 93 J_HFinder_lookAtCorners_d92 (lk_1i l14 (by decide)) rfl ?_
                obtain ⟨Q18, hQ18, h⟩ := bd1_ed h
                refine iq_cpI hS 96 J_HFinder_lookAtCorners_d93 rfl (pr_inst (vs := [_, _]) lc_3_91 lT_207 rfl rfl (by decide) (by decide) rfl (Nat.le_of_ble_eq_true rfl) (Nat.le_of_ble_eq_true rfl) (fun _ => Or.inl (pr_b (ka_59 hM12) (by decide) rfl))) (f_HFinder_ringsWrong_ok (dep := dep + 0) hM12 h) rfl ?_
                intro x18 h
                replace h := hQ18 _ h
                refine iq_istore_n hS 97 J_HFinder_lookAtCorners_d96 (by decide) rfl ?_
                exact J17 _ _ (lk_1r (lk_1r l13 (by decide)) (by decide)) (lk_1i (lk_1i l14 (by decide)) (by decide)) (lk_1i (lk_1i l15 (by decide)) (by decide)) lk_1s (ed_some h)
        exact I7 n7 _ _ _ hM4 (lk_1r l5 (by decide)) (lk_1i l6 (by decide)) lk_1s hn7
  exact I1 n1 _ _ _ hM (lk_1r l0 (by decide)) lk_1s hn1
theorem f_HFinder_lookAtCorners_fr {M : im_M} {r : im_M} (h : f_HFinder_lookAtCorners M = some r) : fr 2305843009213693952 [] M r := by
  replace h : ed (f_HFinder_lookAtCorners M) (fun x => x = r) := ⟨r, h, rfl⟩
  unfold f_HFinder_lookAtCorners at h
  obtain ⟨Q1, hQ1, h⟩ := bd1_ed h
  have K1 : ∀ (M2 : im_M), fr 2305843009213693952 [] M M2 → Q1 M2 → fr 2305843009213693952 [] M r := by
    intro M2 hM2 h
    replace h := hQ1 _ h
    exact fr_retV h hM2
  obtain ⟨r1, hr1, hq1⟩ := h
  obtain ⟨n1, hn1⟩ := lp_n hr1
  have I1 : ∀ (n : Nat) (x3 : Int32) (M4 : im_M), fr 2305843009213693952 [] M M4 → lpn (uc2 (f_HFinder_lookAtCorners_L2)) n (x3, M4) = some r1 → fr 2305843009213693952 [] M r := by
    intro n
    induction n with
    | zero => intro x3 M4 hM4 hn; exact (lpn_0 hn).elim
    | succ n ih =>
      intro x3 M4 hM4 hn
      have h := lpn_ed2 hn
      unfold f_HFinder_lookAtCorners_L2 at h
      by_cases q18 : (im_i M4 28 1) < (x3 + ((7 : Int32) * (im_i M4 59 9)))
      · replace h := ed_pos q18 h
        exact K1 _ hM4 (lq_r h hq1)
      · replace h := ed_neg q18 h
        obtain ⟨Q5, hQ5, h⟩ := bd1_ed h
        have K5 : ∀ (M6 : im_M), fr 2305843009213693952 [] M M6 → Q5 M6 → fr 2305843009213693952 [] M r := by
          intro M6 hM6 h
          replace h := hQ5 _ h
          exact ih _ _ hM6 (lq_l h)
        obtain ⟨r5, hr5, hq5⟩ := h
        obtain ⟨n5, hn5⟩ := lp_n hr5
        have I5 : ∀ (n : Nat) (x7 : Int32) (M8 : im_M), fr 2305843009213693952 [] M M8 → lpn (uc2 (f_HFinder_lookAtCorners_L23 x3)) n (x7, M8) = some r5 → fr 2305843009213693952 [] M r := by
          intro n
          induction n with
          | zero => intro x7 M8 hM8 hn; exact (lpn_0 hn).elim
          | succ n ih =>
            intro x7 M8 hM8 hn
            have h := lpn_ed2 hn
            unfold f_HFinder_lookAtCorners_L23 at h
            by_cases q39 : (im_i M8 28 0) < (x7 + ((7 : Int32) * (im_i M8 59 9)))
            · replace h := ed_pos q39 h
              exact K5 _ hM8 (lq_r h hq5)
            · replace h := ed_neg q39 h
              obtain ⟨Q9, hQ9, h⟩ := bd1_ed h
              obtain ⟨x9, e9, h⟩ := h
              replace h := hQ9 _ h
              obtain ⟨Q10, hQ10, h⟩ := bd1_ed h
              have J10 : ∀ (y12 : Int32), Q10 y12 → fr 2305843009213693952 [] M r := by
                intro y12 h
                replace h := hQ10 _ h
                obtain ⟨Q17, hQ17, h⟩ := bd1_ed h
                obtain ⟨x17, e17, h⟩ := h
                replace h := hQ17 _ h
                obtain ⟨g119, h⟩ := ed_gd h
                exact ih _ _ (fr_I (by decide) hM8) (lq_l h)
              by_cases q87 : (im_i M8 59 10) < ((((9 : Int32) * (im_i M8 59 9)) * (im_i M8 59 9)) - x9)
              · replace h := ed_pos q87 h
                exact J10 _ (ed_some h)
              · replace h := ed_neg q87 h
                obtain ⟨Q11, hQ11, h⟩ := bd1_ed h
                obtain ⟨x11, e11, h⟩ := h
                replace h := hQ11 _ h
                exact J10 _ (ed_some h)
        exact I5 n5 _ _ hM4 hn5
  exact I1 n1 _ _ fr_refl hn1
noncomputable def f_HFinder_leadsOn (p0 : Int32) (M : im_M) : Option (Int32) := if ((im_i M 59 10) / 3) < p0 then some 0 else some 1
theorem J_HFinder_leadsOn_d0 : decode J_HFinder_leadsOn.2.1 0 = .ok (.iload_n 1, 1) := by decide +kernel
theorem J_HFinder_leadsOn_d1 : decode J_HFinder_leadsOn.2.1 1 = .ok (.aload_n 0, 1) := by decide +kernel
theorem J_HFinder_leadsOn_d2 : decode J_HFinder_leadsOn.2.1 2 = .ok (.getfield 48, 3) := by decide +kernel
theorem J_HFinder_leadsOn_d5 : decode J_HFinder_leadsOn.2.1 5 = .ok (.iconst 3, 1) := by decide +kernel
theorem J_HFinder_leadsOn_d6 : decode J_HFinder_leadsOn.2.1 6 = .ok (.idiv, 1) := by decide +kernel
theorem J_HFinder_leadsOn_d7 : decode J_HFinder_leadsOn.2.1 7 = .ok (.if_icmp .gt 7, 3) := by decide +kernel
theorem J_HFinder_leadsOn_d10 : decode J_HFinder_leadsOn.2.1 10 = .ok (.iconst 1, 1) := by decide +kernel
theorem J_HFinder_leadsOn_d11 : decode J_HFinder_leadsOn.2.1 11 = .ok (.goto 4, 3) := by decide +kernel
theorem J_HFinder_leadsOn_d14 : decode J_HFinder_leadsOn.2.1 14 = .ok (.iconst 0, 1) := by decide +kernel
theorem J_HFinder_leadsOn_d15 : decode J_HFinder_leadsOn.2.1 15 = .ok (.ireturn, 1) := by decide +kernel
theorem f_HFinder_leadsOn_ok {L : Nat} {xs : Nat → Int32} {dep : Nat} {w : Bool} {p0 : Int32} {M : im_M} {Q : Int32 → Prop} (hM : lw_S w M) (h : ed (f_HFinder_leadsOn p0 M) Q) : ia (tb_G L xs) dep J_HFinder_leadsOn (rpI M Q) (0, lv_args 0 [.ref 59, .int p0], [], M) := by
  have hS : im_St (tb_G L xs) dep J_HFinder_leadsOn (ia (tb_G L xs) dep J_HFinder_leadsOn (rpI M Q)) := ia_St
  unfold f_HFinder_leadsOn at h
  have l0 : im_lk (lv_args 0 [.ref 59, .int p0]) 0 = some (.ref 59) := rfl
  have l1 : im_lk (lv_args 0 [.ref 59, .int p0]) 1 = some (.int p0) := rfl
  refine iq_iload_n hS 1 J_HFinder_leadsOn_d0 l1 rfl ?_
  refine iq_aload_n hS 2 J_HFinder_leadsOn_d1 l0 rfl ?_
  refine iq_getI hS 5 J_HFinder_leadsOn_d2 lf_3_48 (Or.inl rfl) (ka_59 hM) rfl ?_
  refine iq_iconst hS 6 J_HFinder_leadsOn_d5 (v := 3) (by decide +kernel) rfl ?_
  refine iq_idiv hS 7 J_HFinder_leadsOn_d6 (by decide) rfl ?_
  refine iq_icmp_gt hS 10 J_HFinder_leadsOn_d7 (t := 14) rfl (fun q7 => ?_) rfl (fun q7 => ?_)
  · replace h := ed_pos q7 h
    refine iq_iconst hS 15 J_HFinder_leadsOn_d14 (v := 0) (by decide +kernel) rfl ?_
    exact iq_iret J_HFinder_leadsOn_d15 rfl rfl ⟨_, rfl, rfl, ed_some h⟩
  · replace h := ed_neg q7 h
    refine iq_iconst hS 11 J_HFinder_leadsOn_d10 (v := 1) (by decide +kernel) rfl ?_
    refine iq_goto hS J_HFinder_leadsOn_d11 (t := 15) rfl ?_
    exact iq_iret J_HFinder_leadsOn_d15 rfl rfl ⟨_, rfl, rfl, ed_some h⟩
noncomputable def f_HFinder_hasEdges (p0 : Int32) (p1 : Int32) (p2 : Int32) (M : im_M) : Option (Int32) := gd (inb p2 4) <| gd (inb p2 4) <| if (p0 - ((im_i M 59 9) * (xa_13 p2))) < 0 then some 0 else if (p1 - ((im_i M 59 9) * (xa_14 p2))) < 0 then some 0 else if (im_i M 28 0) < ((p0 - ((im_i M 59 9) * (xa_13 p2))) + ((8 : Int32) * (im_i M 59 9))) then some 0 else if (im_i M 28 1) < ((p1 - ((im_i M 59 9) * (xa_14 p2))) + ((8 : Int32) * (im_i M 59 9))) then some 0 else some 1
theorem J_HFinder_hasEdges_d0 : decode J_HFinder_hasEdges.2.1 0 = .ok (.iload_n 1, 1) := by decide +kernel
theorem J_HFinder_hasEdges_d1 : decode J_HFinder_hasEdges.2.1 1 = .ok (.aload_n 0, 1) := by decide +kernel
theorem J_HFinder_hasEdges_d2 : decode J_HFinder_hasEdges.2.1 2 = .ok (.getfield 66, 3) := by decide +kernel
theorem J_HFinder_hasEdges_d5 : decode J_HFinder_hasEdges.2.1 5 = .ok (.getstatic 108, 3) := by decide +kernel
theorem J_HFinder_hasEdges_d8 : decode J_HFinder_hasEdges.2.1 8 = .ok (.iload_n 3, 1) := by decide +kernel
theorem J_HFinder_hasEdges_d9 : decode J_HFinder_hasEdges.2.1 9 = .ok (.iaload, 1) := by decide +kernel
theorem J_HFinder_hasEdges_d10 : decode J_HFinder_hasEdges.2.1 10 = .ok (.imul, 1) := by decide +kernel
theorem J_HFinder_hasEdges_d11 : decode J_HFinder_hasEdges.2.1 11 = .ok (.isub, 1) := by decide +kernel
theorem J_HFinder_hasEdges_d12 : decode J_HFinder_hasEdges.2.1 12 = .ok (.istore 4, 2) := by decide +kernel
theorem J_HFinder_hasEdges_d14 : decode J_HFinder_hasEdges.2.1 14 = .ok (.iload_n 2, 1) := by decide +kernel
theorem J_HFinder_hasEdges_d15 : decode J_HFinder_hasEdges.2.1 15 = .ok (.aload_n 0, 1) := by decide +kernel
theorem J_HFinder_hasEdges_d16 : decode J_HFinder_hasEdges.2.1 16 = .ok (.getfield 66, 3) := by decide +kernel
theorem J_HFinder_hasEdges_d19 : decode J_HFinder_hasEdges.2.1 19 = .ok (.getstatic 111, 3) := by decide +kernel
theorem J_HFinder_hasEdges_d22 : decode J_HFinder_hasEdges.2.1 22 = .ok (.iload_n 3, 1) := by decide +kernel
theorem J_HFinder_hasEdges_d23 : decode J_HFinder_hasEdges.2.1 23 = .ok (.iaload, 1) := by decide +kernel
theorem J_HFinder_hasEdges_d24 : decode J_HFinder_hasEdges.2.1 24 = .ok (.imul, 1) := by decide +kernel
theorem J_HFinder_hasEdges_d25 : decode J_HFinder_hasEdges.2.1 25 = .ok (.isub, 1) := by decide +kernel
theorem J_HFinder_hasEdges_d26 : decode J_HFinder_hasEdges.2.1 26 = .ok (.istore 5, 2) := by decide +kernel
theorem J_HFinder_hasEdges_d28 : decode J_HFinder_hasEdges.2.1 28 = .ok (.iload 4, 2) := by decide +kernel
theorem J_HFinder_hasEdges_d30 : decode J_HFinder_hasEdges.2.1 30 = .ok (.ifCond .lt 52, 3) := by decide +kernel
theorem J_HFinder_hasEdges_d33 : decode J_HFinder_hasEdges.2.1 33 = .ok (.iload 5, 2) := by decide +kernel
theorem J_HFinder_hasEdges_d35 : decode J_HFinder_hasEdges.2.1 35 = .ok (.ifCond .lt 47, 3) := by decide +kernel
theorem J_HFinder_hasEdges_d38 : decode J_HFinder_hasEdges.2.1 38 = .ok (.iload 4, 2) := by decide +kernel
theorem J_HFinder_hasEdges_d40 : decode J_HFinder_hasEdges.2.1 40 = .ok (.bipush 8, 2) := by decide +kernel
theorem J_HFinder_hasEdges_d42 : decode J_HFinder_hasEdges.2.1 42 = .ok (.aload_n 0, 1) := by decide +kernel
theorem J_HFinder_hasEdges_d43 : decode J_HFinder_hasEdges.2.1 43 = .ok (.getfield 66, 3) := by decide +kernel
theorem J_HFinder_hasEdges_d46 : decode J_HFinder_hasEdges.2.1 46 = .ok (.imul, 1) := by decide +kernel
theorem J_HFinder_hasEdges_d47 : decode J_HFinder_hasEdges.2.1 47 = .ok (.iadd, 1) := by decide +kernel
theorem J_HFinder_hasEdges_d48 : decode J_HFinder_hasEdges.2.1 48 = .ok (.aload_n 0, 1) := by decide +kernel
theorem J_HFinder_hasEdges_d49 : decode J_HFinder_hasEdges.2.1 49 = .ok (.getfield 37, 3) := by decide +kernel
theorem J_HFinder_hasEdges_d52 : decode J_HFinder_hasEdges.2.1 52 = .ok (.getfield 54, 3) := by decide +kernel
theorem J_HFinder_hasEdges_d55 : decode J_HFinder_hasEdges.2.1 55 = .ok (.if_icmp .gt 27, 3) := by decide +kernel
theorem J_HFinder_hasEdges_d58 : decode J_HFinder_hasEdges.2.1 58 = .ok (.iload 5, 2) := by decide +kernel
theorem J_HFinder_hasEdges_d60 : decode J_HFinder_hasEdges.2.1 60 = .ok (.bipush 8, 2) := by decide +kernel
theorem J_HFinder_hasEdges_d62 : decode J_HFinder_hasEdges.2.1 62 = .ok (.aload_n 0, 1) := by decide +kernel
theorem J_HFinder_hasEdges_d63 : decode J_HFinder_hasEdges.2.1 63 = .ok (.getfield 66, 3) := by decide +kernel
theorem J_HFinder_hasEdges_d66 : decode J_HFinder_hasEdges.2.1 66 = .ok (.imul, 1) := by decide +kernel
theorem J_HFinder_hasEdges_d67 : decode J_HFinder_hasEdges.2.1 67 = .ok (.iadd, 1) := by decide +kernel
theorem J_HFinder_hasEdges_d68 : decode J_HFinder_hasEdges.2.1 68 = .ok (.aload_n 0, 1) := by decide +kernel
theorem J_HFinder_hasEdges_d69 : decode J_HFinder_hasEdges.2.1 69 = .ok (.getfield 37, 3) := by decide +kernel
theorem J_HFinder_hasEdges_d72 : decode J_HFinder_hasEdges.2.1 72 = .ok (.getfield 57, 3) := by decide +kernel
theorem J_HFinder_hasEdges_d75 : decode J_HFinder_hasEdges.2.1 75 = .ok (.if_icmp .gt 7, 3) := by decide +kernel
theorem J_HFinder_hasEdges_d78 : decode J_HFinder_hasEdges.2.1 78 = .ok (.iconst 1, 1) := by decide +kernel
theorem J_HFinder_hasEdges_d79 : decode J_HFinder_hasEdges.2.1 79 = .ok (.goto 4, 3) := by decide +kernel
theorem J_HFinder_hasEdges_d82 : decode J_HFinder_hasEdges.2.1 82 = .ok (.iconst 0, 1) := by decide +kernel
theorem J_HFinder_hasEdges_d83 : decode J_HFinder_hasEdges.2.1 83 = .ok (.ireturn, 1) := by decide +kernel
theorem f_HFinder_hasEdges_ok {L : Nat} {xs : Nat → Int32} {dep : Nat} {w : Bool} {p0 : Int32} {p1 : Int32} {p2 : Int32} {M : im_M} {Q : Int32 → Prop} (hM : lw_S w M) (h : ed (f_HFinder_hasEdges p0 p1 p2 M) Q) : ia (tb_G L xs) dep J_HFinder_hasEdges (rpI M Q) (0, lv_args 0 [.ref 59, .int p0, .int p1, .int p2], [], M) := by
  have hS : im_St (tb_G L xs) dep J_HFinder_hasEdges (ia (tb_G L xs) dep J_HFinder_hasEdges (rpI M Q)) := ia_St
  unfold f_HFinder_hasEdges at h
  have l0 : im_lk (lv_args 0 [.ref 59, .int p0, .int p1, .int p2]) 0 = some (.ref 59) := rfl
  have l1 : im_lk (lv_args 0 [.ref 59, .int p0, .int p1, .int p2]) 1 = some (.int p0) := rfl
  have l2 : im_lk (lv_args 0 [.ref 59, .int p0, .int p1, .int p2]) 2 = some (.int p1) := rfl
  have l3 : im_lk (lv_args 0 [.ref 59, .int p0, .int p1, .int p2]) 3 = some (.int p2) := rfl
  refine iq_iload_n hS 1 J_HFinder_hasEdges_d0 l1 rfl ?_
  refine iq_aload_n hS 2 J_HFinder_hasEdges_d1 l0 rfl ?_
  refine iq_getI hS 5 J_HFinder_hasEdges_d2 lf_3_66 (Or.inl rfl) (ka_59 hM) rfl ?_
  refine iq_getstatic hS 8 J_HFinder_hasEdges_d5 gs_3_108 rfl ?_
  refine iq_iload_n hS 9 J_HFinder_hasEdges_d8 l3 rfl ?_
  obtain ⟨g9, h⟩ := ed_gd h
  refine iq_xl_13 hS 10 J_HFinder_hasEdges_d9 hM g9 rfl ?_
  refine iq_imul hS 11 J_HFinder_hasEdges_d10 rfl ?_
  refine iq_isub hS 12 J_HFinder_hasEdges_d11 rfl ?_
  refine iq_istore hS 14 J_HFinder_hasEdges_d12 (by decide) rfl ?_
  refine iq_iload_n hS 15 J_HFinder_hasEdges_d14 (lk_1i l2 (by decide)) rfl ?_
  refine iq_aload_n hS 16 J_HFinder_hasEdges_d15 (lk_1r l0 (by decide)) rfl ?_
  refine iq_getI hS 19 J_HFinder_hasEdges_d16 lf_3_66 (Or.inl rfl) (ka_59 hM) rfl ?_
  refine iq_getstatic hS 22 J_HFinder_hasEdges_d19 gs_3_111 rfl ?_
  refine iq_iload_n hS 23 J_HFinder_hasEdges_d22 (lk_1i l3 (by decide)) rfl ?_
  obtain ⟨g23, h⟩ := ed_gd h
  refine iq_xl_14 hS 24 J_HFinder_hasEdges_d23 hM g23 rfl ?_
  refine iq_imul hS 25 J_HFinder_hasEdges_d24 rfl ?_
  refine iq_isub hS 26 J_HFinder_hasEdges_d25 rfl ?_
  refine iq_istore hS 28 J_HFinder_hasEdges_d26 (by decide) rfl ?_
  refine iq_iload hS 30 J_HFinder_hasEdges_d28 (lk_1i lk_1s (by decide)) rfl ?_
  refine iq_if_lt hS 33 J_HFinder_hasEdges_d30 (t := 82) rfl (fun q30 => ?_) rfl (fun q30 => ?_)
  · replace h := ed_pos q30 h
    refine iq_iconst hS 83 J_HFinder_hasEdges_d82 (v := 0) (by decide +kernel) rfl ?_
    exact iq_iret J_HFinder_hasEdges_d83 rfl rfl ⟨_, rfl, rfl, ed_some h⟩
  · replace h := ed_neg q30 h
    refine iq_iload hS 35 J_HFinder_hasEdges_d33 lk_1s rfl ?_
    refine iq_if_lt hS 38 J_HFinder_hasEdges_d35 (t := 82) rfl (fun q35 => ?_) rfl (fun q35 => ?_)
    · replace h := ed_pos q35 h
      refine iq_iconst hS 83 J_HFinder_hasEdges_d82 (v := 0) (by decide +kernel) rfl ?_
      exact iq_iret J_HFinder_hasEdges_d83 rfl rfl ⟨_, rfl, rfl, ed_some h⟩
    · replace h := ed_neg q35 h
      refine iq_iload hS 40 J_HFinder_hasEdges_d38 (lk_1i lk_1s (by decide)) rfl ?_
      refine iq_bipush hS 42 J_HFinder_hasEdges_d40 (v := 8) (by decide +kernel) rfl ?_
      refine iq_aload_n hS 43 J_HFinder_hasEdges_d42 (lk_1r (lk_1r l0 (by decide)) (by decide)) rfl ?_
      refine iq_getI hS 46 J_HFinder_hasEdges_d43 lf_3_66 (Or.inl rfl) (ka_59 hM) rfl ?_
      refine iq_imul hS 47 J_HFinder_hasEdges_d46 rfl ?_
      refine iq_iadd hS 48 J_HFinder_hasEdges_d47 rfl ?_
      refine iq_aload_n hS 49 J_HFinder_hasEdges_d48 (lk_1r (lk_1r l0 (by decide)) (by decide)) rfl ?_
      refine iq_getR hS 52 J_HFinder_hasEdges_d49 lf_3_37 (Or.inl ⟨_, rfl⟩) (ka_59 hM) (ra_59_1 hM) rfl ?_
      refine iq_getI hS 55 J_HFinder_hasEdges_d52 lf_3_54 (Or.inl rfl) (ka_28 hM) rfl ?_
      refine iq_icmp_gt hS 58 J_HFinder_hasEdges_d55 (t := 82) rfl (fun q55 => ?_) rfl (fun q55 => ?_)
      · replace h := ed_pos q55 h
        refine iq_iconst hS 83 J_HFinder_hasEdges_d82 (v := 0) (by decide +kernel) rfl ?_
        exact iq_iret J_HFinder_hasEdges_d83 rfl rfl ⟨_, rfl, rfl, ed_some h⟩
      · replace h := ed_neg q55 h
        refine iq_iload hS 60 J_HFinder_hasEdges_d58 lk_1s rfl ?_
        refine iq_bipush hS 62 J_HFinder_hasEdges_d60 (v := 8) (by decide +kernel) rfl ?_
        refine iq_aload_n hS 63 J_HFinder_hasEdges_d62 (lk_1r (lk_1r l0 (by decide)) (by decide)) rfl ?_
        refine iq_getI hS 66 J_HFinder_hasEdges_d63 lf_3_66 (Or.inl rfl) (ka_59 hM) rfl ?_
        refine iq_imul hS 67 J_HFinder_hasEdges_d66 rfl ?_
        refine iq_iadd hS 68 J_HFinder_hasEdges_d67 rfl ?_
        refine iq_aload_n hS 69 J_HFinder_hasEdges_d68 (lk_1r (lk_1r l0 (by decide)) (by decide)) rfl ?_
        refine iq_getR hS 72 J_HFinder_hasEdges_d69 lf_3_37 (Or.inl ⟨_, rfl⟩) (ka_59 hM) (ra_59_1 hM) rfl ?_
        refine iq_getI hS 75 J_HFinder_hasEdges_d72 lf_3_57 (Or.inl rfl) (ka_28 hM) rfl ?_
        refine iq_icmp_gt hS 78 J_HFinder_hasEdges_d75 (t := 82) rfl (fun q75 => ?_) rfl (fun q75 => ?_)
        · replace h := ed_pos q75 h
          refine iq_iconst hS 83 J_HFinder_hasEdges_d82 (v := 0) (by decide +kernel) rfl ?_
          exact iq_iret J_HFinder_hasEdges_d83 rfl rfl ⟨_, rfl, rfl, ed_some h⟩
        · replace h := ed_neg q75 h
          refine iq_iconst hS 79 J_HFinder_hasEdges_d78 (v := 1) (by decide +kernel) rfl ?_
          refine iq_goto hS J_HFinder_hasEdges_d79 (t := 83) rfl ?_
          exact iq_iret J_HFinder_hasEdges_d83 rfl rfl ⟨_, rfl, rfl, ed_some h⟩
noncomputable def f_HFinder_edgedWrong (p0 : Int32) (p1 : Int32) (p2 : Int32) (M : im_M) : Option (Int32) := gd (inb ((p1 * 512) + p0) 262144) <| if (im_i M 61 (Int32.toNatClampNeg ((p1 * 512) + p0))) ≤ (im_i M 59 10) then gd (inb p2 4) <| gd (inb p2 4) <| bd1 (f_HFinder_darkIn (p0 - ((im_i M 59 9) * (xa_13 p2))) (p1 - ((im_i M 59 9) * (xa_14 p2))) ((8 : Int32) * (im_i M 59 9)) M) fun (x1 : Int32) => bd1 (f_HFinder_darkIn p0 p1 ((7 : Int32) * (im_i M 59 9)) M) fun (x2 : Int32) => some (((im_i M 61 (Int32.toNatClampNeg ((p1 * 512) + p0))) + x1) - x2) else some (im_i M 61 (Int32.toNatClampNeg ((p1 * 512) + p0)))
theorem J_HFinder_edgedWrong_d0 : decode J_HFinder_edgedWrong.2.1 0 = .ok (.aload_n 0, 1) := by decide +kernel
theorem J_HFinder_edgedWrong_d1 : decode J_HFinder_edgedWrong.2.1 1 = .ok (.getfield 19, 3) := by decide +kernel
theorem J_HFinder_edgedWrong_d4 : decode J_HFinder_edgedWrong.2.1 4 = .ok (.iload_n 2, 1) := by decide +kernel
theorem J_HFinder_edgedWrong_d5 : decode J_HFinder_edgedWrong.2.1 5 = .ok (.sipush 512, 3) := by decide +kernel
theorem J_HFinder_edgedWrong_d8 : decode J_HFinder_edgedWrong.2.1 8 = .ok (.imul, 1) := by decide +kernel
theorem J_HFinder_edgedWrong_d9 : decode J_HFinder_edgedWrong.2.1 9 = .ok (.iload_n 1, 1) := by decide +kernel
theorem J_HFinder_edgedWrong_d10 : decode J_HFinder_edgedWrong.2.1 10 = .ok (.iadd, 1) := by decide +kernel
theorem J_HFinder_edgedWrong_d11 : decode J_HFinder_edgedWrong.2.1 11 = .ok (.saload, 1) := by decide +kernel
theorem J_HFinder_edgedWrong_d12 : decode J_HFinder_edgedWrong.2.1 12 = .ok (.istore 4, 2) := by decide +kernel
theorem J_HFinder_edgedWrong_d14 : decode J_HFinder_edgedWrong.2.1 14 = .ok (.iload 4, 2) := by decide +kernel
theorem J_HFinder_edgedWrong_d16 : decode J_HFinder_edgedWrong.2.1 16 = .ok (.aload_n 0, 1) := by decide +kernel
theorem J_HFinder_edgedWrong_d17 : decode J_HFinder_edgedWrong.2.1 17 = .ok (.getfield 48, 3) := by decide +kernel
theorem J_HFinder_edgedWrong_d20 : decode J_HFinder_edgedWrong.2.1 20 = .ok (.if_icmp .le 6, 3) := by decide +kernel
theorem J_HFinder_edgedWrong_d23 : decode J_HFinder_edgedWrong.2.1 23 = .ok (.iload 4, 2) := by decide +kernel
theorem J_HFinder_edgedWrong_d25 : decode J_HFinder_edgedWrong.2.1 25 = .ok (.ireturn, 1) := by decide +kernel
theorem J_HFinder_edgedWrong_d26 : decode J_HFinder_edgedWrong.2.1 26 = .ok (.iload 4, 2) := by decide +kernel
theorem J_HFinder_edgedWrong_d28 : decode J_HFinder_edgedWrong.2.1 28 = .ok (.aload_n 0, 1) := by decide +kernel
theorem J_HFinder_edgedWrong_d29 : decode J_HFinder_edgedWrong.2.1 29 = .ok (.iload_n 1, 1) := by decide +kernel
theorem J_HFinder_edgedWrong_d30 : decode J_HFinder_edgedWrong.2.1 30 = .ok (.aload_n 0, 1) := by decide +kernel
theorem J_HFinder_edgedWrong_d31 : decode J_HFinder_edgedWrong.2.1 31 = .ok (.getfield 66, 3) := by decide +kernel
theorem J_HFinder_edgedWrong_d34 : decode J_HFinder_edgedWrong.2.1 34 = .ok (.getstatic 108, 3) := by decide +kernel
theorem J_HFinder_edgedWrong_d37 : decode J_HFinder_edgedWrong.2.1 37 = .ok (.iload_n 3, 1) := by decide +kernel
theorem J_HFinder_edgedWrong_d38 : decode J_HFinder_edgedWrong.2.1 38 = .ok (.iaload, 1) := by decide +kernel
theorem J_HFinder_edgedWrong_d39 : decode J_HFinder_edgedWrong.2.1 39 = .ok (.imul, 1) := by decide +kernel
theorem J_HFinder_edgedWrong_d40 : decode J_HFinder_edgedWrong.2.1 40 = .ok (.isub, 1) := by decide +kernel
theorem J_HFinder_edgedWrong_d41 : decode J_HFinder_edgedWrong.2.1 41 = .ok (.iload_n 2, 1) := by decide +kernel
theorem J_HFinder_edgedWrong_d42 : decode J_HFinder_edgedWrong.2.1 42 = .ok (.aload_n 0, 1) := by decide +kernel
theorem J_HFinder_edgedWrong_d43 : decode J_HFinder_edgedWrong.2.1 43 = .ok (.getfield 66, 3) := by decide +kernel
theorem J_HFinder_edgedWrong_d46 : decode J_HFinder_edgedWrong.2.1 46 = .ok (.getstatic 111, 3) := by decide +kernel
theorem J_HFinder_edgedWrong_d49 : decode J_HFinder_edgedWrong.2.1 49 = .ok (.iload_n 3, 1) := by decide +kernel
theorem J_HFinder_edgedWrong_d50 : decode J_HFinder_edgedWrong.2.1 50 = .ok (.iaload, 1) := by decide +kernel
theorem J_HFinder_edgedWrong_d51 : decode J_HFinder_edgedWrong.2.1 51 = .ok (.imul, 1) := by decide +kernel
theorem J_HFinder_edgedWrong_d52 : decode J_HFinder_edgedWrong.2.1 52 = .ok (.isub, 1) := by decide +kernel
theorem J_HFinder_edgedWrong_d53 : decode J_HFinder_edgedWrong.2.1 53 = .ok (.bipush 8, 2) := by decide +kernel
theorem J_HFinder_edgedWrong_d55 : decode J_HFinder_edgedWrong.2.1 55 = .ok (.aload_n 0, 1) := by decide +kernel
theorem J_HFinder_edgedWrong_d56 : decode J_HFinder_edgedWrong.2.1 56 = .ok (.getfield 66, 3) := by decide +kernel
theorem J_HFinder_edgedWrong_d59 : decode J_HFinder_edgedWrong.2.1 59 = .ok (.imul, 1) := by decide +kernel
theorem J_HFinder_edgedWrong_d60 : decode J_HFinder_edgedWrong.2.1 60 = .ok (.invokevirtual 87, 3) := by decide +kernel
theorem J_HFinder_edgedWrong_d63 : decode J_HFinder_edgedWrong.2.1 63 = .ok (.iadd, 1) := by decide +kernel
theorem J_HFinder_edgedWrong_d64 : decode J_HFinder_edgedWrong.2.1 64 = .ok (.aload_n 0, 1) := by decide +kernel
theorem J_HFinder_edgedWrong_d65 : decode J_HFinder_edgedWrong.2.1 65 = .ok (.iload_n 1, 1) := by decide +kernel
theorem J_HFinder_edgedWrong_d66 : decode J_HFinder_edgedWrong.2.1 66 = .ok (.iload_n 2, 1) := by decide +kernel
theorem J_HFinder_edgedWrong_d67 : decode J_HFinder_edgedWrong.2.1 67 = .ok (.bipush 7, 2) := by decide +kernel
theorem J_HFinder_edgedWrong_d69 : decode J_HFinder_edgedWrong.2.1 69 = .ok (.aload_n 0, 1) := by decide +kernel
theorem J_HFinder_edgedWrong_d70 : decode J_HFinder_edgedWrong.2.1 70 = .ok (.getfield 66, 3) := by decide +kernel
theorem J_HFinder_edgedWrong_d73 : decode J_HFinder_edgedWrong.2.1 73 = .ok (.imul, 1) := by decide +kernel
theorem J_HFinder_edgedWrong_d74 : decode J_HFinder_edgedWrong.2.1 74 = .ok (.invokevirtual 87, 3) := by decide +kernel
theorem J_HFinder_edgedWrong_d77 : decode J_HFinder_edgedWrong.2.1 77 = .ok (.isub, 1) := by decide +kernel
theorem J_HFinder_edgedWrong_d78 : decode J_HFinder_edgedWrong.2.1 78 = .ok (.ireturn, 1) := by decide +kernel
theorem f_HFinder_edgedWrong_ok {L : Nat} {xs : Nat → Int32} {dep : Nat} {w : Bool} {p0 : Int32} {p1 : Int32} {p2 : Int32} {M : im_M} {Q : Int32 → Prop} (hM : lw_S w M) (h : ed (f_HFinder_edgedWrong p0 p1 p2 M) Q) : ia (tb_G L xs) (dep + 1) J_HFinder_edgedWrong (rpI M Q) (0, lv_args 0 [.ref 59, .int p0, .int p1, .int p2], [], M) := by
  have hS : im_St (tb_G L xs) (dep + 1) J_HFinder_edgedWrong (ia (tb_G L xs) (dep + 1) J_HFinder_edgedWrong (rpI M Q)) := ia_St
  unfold f_HFinder_edgedWrong at h
  have l0 : im_lk (lv_args 0 [.ref 59, .int p0, .int p1, .int p2]) 0 = some (.ref 59) := rfl
  have l1 : im_lk (lv_args 0 [.ref 59, .int p0, .int p1, .int p2]) 1 = some (.int p0) := rfl
  have l2 : im_lk (lv_args 0 [.ref 59, .int p0, .int p1, .int p2]) 2 = some (.int p1) := rfl
  have l3 : im_lk (lv_args 0 [.ref 59, .int p0, .int p1, .int p2]) 3 = some (.int p2) := rfl
  refine iq_aload_n hS 1 J_HFinder_edgedWrong_d0 l0 rfl ?_
  refine iq_getR hS 4 J_HFinder_edgedWrong_d1 lf_3_19 (Or.inr ⟨_, rfl⟩) (ka_59 hM) (ra_59_3 hM) rfl ?_
  refine iq_iload_n hS 5 J_HFinder_edgedWrong_d4 l2 rfl ?_
  refine iq_sipush hS 8 J_HFinder_edgedWrong_d5 (v := 512) (by decide +kernel) rfl ?_
  refine iq_imul hS 9 J_HFinder_edgedWrong_d8 rfl ?_
  refine iq_iload_n hS 10 J_HFinder_edgedWrong_d9 l1 rfl ?_
  refine iq_iadd hS 11 J_HFinder_edgedWrong_d10 rfl ?_
  obtain ⟨g11, h⟩ := ed_gd h
  refine iq_saload hS 12 J_HFinder_edgedWrong_d11 ⟨(ka_61 hM).1, (ka_61 hM).2, g11.1, ix_lt (kl_61 hM) g11.2⟩ rfl ?_
  refine iq_istore hS 14 J_HFinder_edgedWrong_d12 (by decide) rfl ?_
  refine iq_iload hS 16 J_HFinder_edgedWrong_d14 lk_1s rfl ?_
  refine iq_aload_n hS 17 J_HFinder_edgedWrong_d16 (lk_1r l0 (by decide)) rfl ?_
  refine iq_getI hS 20 J_HFinder_edgedWrong_d17 lf_3_48 (Or.inl rfl) (ka_59 hM) rfl ?_
  refine iq_icmp_le hS 23 J_HFinder_edgedWrong_d20 (t := 26) rfl (fun q20 => ?_) rfl (fun q20 => ?_)
  · replace h := ed_pos q20 h
    refine iq_iload hS 28 J_HFinder_edgedWrong_d26 lk_1s rfl ?_
    refine iq_aload_n hS 29 J_HFinder_edgedWrong_d28 (lk_1r l0 (by decide)) rfl ?_
    refine iq_iload_n hS 30 J_HFinder_edgedWrong_d29 (lk_1i l1 (by decide)) rfl ?_
    refine iq_aload_n hS 31 J_HFinder_edgedWrong_d30 (lk_1r l0 (by decide)) rfl ?_
    refine iq_getI hS 34 J_HFinder_edgedWrong_d31 lf_3_66 (Or.inl rfl) (ka_59 hM) rfl ?_
    refine iq_getstatic hS 37 J_HFinder_edgedWrong_d34 gs_3_108 rfl ?_
    refine iq_iload_n hS 38 J_HFinder_edgedWrong_d37 (lk_1i l3 (by decide)) rfl ?_
    obtain ⟨g38, h⟩ := ed_gd h
    refine iq_xl_13 hS 39 J_HFinder_edgedWrong_d38 hM g38 rfl ?_
    refine iq_imul hS 40 J_HFinder_edgedWrong_d39 rfl ?_
    refine iq_isub hS 41 J_HFinder_edgedWrong_d40 rfl ?_
    refine iq_iload_n hS 42 J_HFinder_edgedWrong_d41 (lk_1i l2 (by decide)) rfl ?_
    refine iq_aload_n hS 43 J_HFinder_edgedWrong_d42 (lk_1r l0 (by decide)) rfl ?_
    refine iq_getI hS 46 J_HFinder_edgedWrong_d43 lf_3_66 (Or.inl rfl) (ka_59 hM) rfl ?_
    refine iq_getstatic hS 49 J_HFinder_edgedWrong_d46 gs_3_111 rfl ?_
    refine iq_iload_n hS 50 J_HFinder_edgedWrong_d49 (lk_1i l3 (by decide)) rfl ?_
    obtain ⟨g50, h⟩ := ed_gd h
    refine iq_xl_14 hS 51 J_HFinder_edgedWrong_d50 hM g50 rfl ?_
    refine iq_imul hS 52 J_HFinder_edgedWrong_d51 rfl ?_
    refine iq_isub hS 53 J_HFinder_edgedWrong_d52 rfl ?_
    refine iq_bipush hS 55 J_HFinder_edgedWrong_d53 (v := 8) (by decide +kernel) rfl ?_
    refine iq_aload_n hS 56 J_HFinder_edgedWrong_d55 (lk_1r l0 (by decide)) rfl ?_
    refine iq_getI hS 59 J_HFinder_edgedWrong_d56 lf_3_66 (Or.inl rfl) (ka_59 hM) rfl ?_
    refine iq_imul hS 60 J_HFinder_edgedWrong_d59 rfl ?_
    obtain ⟨Q1, hQ1, h⟩ := bd1_ed h
    refine iq_cpI hS 63 J_HFinder_edgedWrong_d60 rfl (pr_inst (vs := [_, _, _]) lc_3_87 lT_206 rfl rfl (by decide) (by decide) rfl (Nat.le_of_ble_eq_true rfl) (Nat.le_of_ble_eq_true rfl) (fun _ => Or.inl (pr_b (ka_59 hM) (by decide) rfl))) (f_HFinder_darkIn_ok (dep := dep + 0) hM h) rfl ?_
    intro x1 h
    replace h := hQ1 _ h
    refine iq_iadd hS 64 J_HFinder_edgedWrong_d63 rfl ?_
    refine iq_aload_n hS 65 J_HFinder_edgedWrong_d64 (lk_1r l0 (by decide)) rfl ?_
    refine iq_iload_n hS 66 J_HFinder_edgedWrong_d65 (lk_1i l1 (by decide)) rfl ?_
    refine iq_iload_n hS 67 J_HFinder_edgedWrong_d66 (lk_1i l2 (by decide)) rfl ?_
    refine iq_bipush hS 69 J_HFinder_edgedWrong_d67 (v := 7) (by decide +kernel) rfl ?_
    refine iq_aload_n hS 70 J_HFinder_edgedWrong_d69 (lk_1r l0 (by decide)) rfl ?_
    refine iq_getI hS 73 J_HFinder_edgedWrong_d70 lf_3_66 (Or.inl rfl) (ka_59 hM) rfl ?_
    refine iq_imul hS 74 J_HFinder_edgedWrong_d73 rfl ?_
    obtain ⟨Q2, hQ2, h⟩ := bd1_ed h
    refine iq_cpI hS 77 J_HFinder_edgedWrong_d74 rfl (pr_inst (vs := [_, _, _]) lc_3_87 lT_206 rfl rfl (by decide) (by decide) rfl (Nat.le_of_ble_eq_true rfl) (Nat.le_of_ble_eq_true rfl) (fun _ => Or.inl (pr_b (ka_59 hM) (by decide) rfl))) (f_HFinder_darkIn_ok (dep := dep + 0) hM h) rfl ?_
    intro x2 h
    replace h := hQ2 _ h
    refine iq_isub hS 78 J_HFinder_edgedWrong_d77 rfl ?_
    exact iq_iret J_HFinder_edgedWrong_d78 rfl rfl ⟨_, rfl, rfl, ed_some h⟩
  · replace h := ed_neg q20 h
    refine iq_iload hS 25 J_HFinder_edgedWrong_d23 lk_1s rfl ?_
    exact iq_iret J_HFinder_edgedWrong_d25 rfl rfl ⟨_, rfl, rfl, ed_some h⟩
noncomputable def f_HFinder_lightMarks (p0 : Int32) (M : im_M) : Option (Int32) := some ((93 : Int32) + ((4 : Int32) * p0))
theorem J_HFinder_lightMarks_d0 : decode J_HFinder_lightMarks.2.1 0 = .ok (.bipush 93, 2) := by decide +kernel
theorem J_HFinder_lightMarks_d2 : decode J_HFinder_lightMarks.2.1 2 = .ok (.iconst 4, 1) := by decide +kernel
theorem J_HFinder_lightMarks_d3 : decode J_HFinder_lightMarks.2.1 3 = .ok (.iload_n 0, 1) := by decide +kernel
theorem J_HFinder_lightMarks_d4 : decode J_HFinder_lightMarks.2.1 4 = .ok (.imul, 1) := by decide +kernel
theorem J_HFinder_lightMarks_d5 : decode J_HFinder_lightMarks.2.1 5 = .ok (.iadd, 1) := by decide +kernel
theorem J_HFinder_lightMarks_d6 : decode J_HFinder_lightMarks.2.1 6 = .ok (.ireturn, 1) := by decide +kernel
theorem f_HFinder_lightMarks_ok {L : Nat} {xs : Nat → Int32} {dep : Nat} {w : Bool} {p0 : Int32} {M : im_M} {Q : Int32 → Prop} (hM : lw_S w M) (h : ed (f_HFinder_lightMarks p0 M) Q) : ia (tb_G L xs) dep J_HFinder_lightMarks (rpI M Q) (0, lv_args 0 [.int p0], [], M) := by
  have hS : im_St (tb_G L xs) dep J_HFinder_lightMarks (ia (tb_G L xs) dep J_HFinder_lightMarks (rpI M Q)) := ia_St
  unfold f_HFinder_lightMarks at h
  have l0 : im_lk (lv_args 0 [.int p0]) 0 = some (.int p0) := rfl
  refine iq_bipush hS 2 J_HFinder_lightMarks_d0 (v := 93) (by decide +kernel) rfl ?_
  refine iq_iconst hS 3 J_HFinder_lightMarks_d2 (v := 4) (by decide +kernel) rfl ?_
  refine iq_iload_n hS 4 J_HFinder_lightMarks_d3 l0 rfl ?_
  refine iq_imul hS 5 J_HFinder_lightMarks_d4 rfl ?_
  refine iq_iadd hS 6 J_HFinder_lightMarks_d5 rfl ?_
  exact iq_iret J_HFinder_lightMarks_d6 rfl rfl ⟨_, rfl, rfl, ed_some h⟩
noncomputable def f_HFinder_hasShades (p0 : Int32) (p1 : Int32) (p2 : Int32) (M : im_M) : Option (Int32) := bd1 (f_HFinder_darkIn p0 p1 (((17 : Int32) + ((4 : Int32) * p2)) * (im_i M 59 9)) M) fun (x1 : Int32) => bd1 (f_HFinder_darkMarks p2 M) fun (x2 : Int32) => if (x1 + (im_i M 59 10)) < ((x2 * (im_i M 59 9)) * (im_i M 59 9)) then some 0 else bd1 (f_HFinder_lightMarks p2 M) fun (x3 : Int32) => if ((((((17 : Int32) + ((4 : Int32) * p2)) * (im_i M 59 9)) * (((17 : Int32) + ((4 : Int32) * p2)) * (im_i M 59 9))) - x1) + (im_i M 59 10)) < ((x3 * (im_i M 59 9)) * (im_i M 59 9)) then some 0 else some 1
theorem J_HFinder_hasShades_d0 : decode J_HFinder_hasShades.2.1 0 = .ok (.bipush 17, 2) := by decide +kernel
theorem J_HFinder_hasShades_d2 : decode J_HFinder_hasShades.2.1 2 = .ok (.iconst 4, 1) := by decide +kernel
theorem J_HFinder_hasShades_d3 : decode J_HFinder_hasShades.2.1 3 = .ok (.iload_n 3, 1) := by decide +kernel
theorem J_HFinder_hasShades_d4 : decode J_HFinder_hasShades.2.1 4 = .ok (.imul, 1) := by decide +kernel
theorem J_HFinder_hasShades_d5 : decode J_HFinder_hasShades.2.1 5 = .ok (.iadd, 1) := by decide +kernel
theorem J_HFinder_hasShades_d6 : decode J_HFinder_hasShades.2.1 6 = .ok (.aload_n 0, 1) := by decide +kernel
theorem J_HFinder_hasShades_d7 : decode J_HFinder_hasShades.2.1 7 = .ok (.getfield 66, 3) := by decide +kernel
theorem J_HFinder_hasShades_d10 : decode J_HFinder_hasShades.2.1 10 = .ok (.imul, 1) := by decide +kernel
theorem J_HFinder_hasShades_d11 : decode J_HFinder_hasShades.2.1 11 = .ok (.istore 4, 2) := by decide +kernel
theorem J_HFinder_hasShades_d13 : decode J_HFinder_hasShades.2.1 13 = .ok (.aload_n 0, 1) := by decide +kernel
theorem J_HFinder_hasShades_d14 : decode J_HFinder_hasShades.2.1 14 = .ok (.iload_n 1, 1) := by decide +kernel
theorem J_HFinder_hasShades_d15 : decode J_HFinder_hasShades.2.1 15 = .ok (.iload_n 2, 1) := by decide +kernel
theorem J_HFinder_hasShades_d16 : decode J_HFinder_hasShades.2.1 16 = .ok (.iload 4, 2) := by decide +kernel
theorem J_HFinder_hasShades_d18 : decode J_HFinder_hasShades.2.1 18 = .ok (.invokevirtual 87, 3) := by decide +kernel
theorem J_HFinder_hasShades_d21 : decode J_HFinder_hasShades.2.1 21 = .ok (.istore 5, 2) := by decide +kernel
theorem J_HFinder_hasShades_d23 : decode J_HFinder_hasShades.2.1 23 = .ok (.iload 5, 2) := by decide +kernel
theorem J_HFinder_hasShades_d25 : decode J_HFinder_hasShades.2.1 25 = .ok (.aload_n 0, 1) := by decide +kernel
theorem J_HFinder_hasShades_d26 : decode J_HFinder_hasShades.2.1 26 = .ok (.getfield 48, 3) := by decide +kernel
theorem J_HFinder_hasShades_d29 : decode J_HFinder_hasShades.2.1 29 = .ok (.iadd, 1) := by decide +kernel
theorem J_HFinder_hasShades_d30 : decode J_HFinder_hasShades.2.1 30 = .ok (.iload_n 3, 1) := by decide +kernel
theorem J_HFinder_hasShades_d31 : decode J_HFinder_hasShades.2.1 31 = .ok (.invokestatic 69, 3) := by decide +kernel
theorem J_HFinder_hasShades_d34 : decode J_HFinder_hasShades.2.1 34 = .ok (.aload_n 0, 1) := by decide +kernel
theorem J_HFinder_hasShades_d35 : decode J_HFinder_hasShades.2.1 35 = .ok (.getfield 66, 3) := by decide +kernel
theorem J_HFinder_hasShades_d38 : decode J_HFinder_hasShades.2.1 38 = .ok (.imul, 1) := by decide +kernel
theorem J_HFinder_hasShades_d39 : decode J_HFinder_hasShades.2.1 39 = .ok (.aload_n 0, 1) := by decide +kernel
theorem J_HFinder_hasShades_d40 : decode J_HFinder_hasShades.2.1 40 = .ok (.getfield 66, 3) := by decide +kernel
theorem J_HFinder_hasShades_d43 : decode J_HFinder_hasShades.2.1 43 = .ok (.imul, 1) := by decide +kernel
theorem J_HFinder_hasShades_d44 : decode J_HFinder_hasShades.2.1 44 = .ok (.if_icmp .lt 37, 3) := by decide +kernel
theorem J_HFinder_hasShades_d47 : decode J_HFinder_hasShades.2.1 47 = .ok (.iload 4, 2) := by decide +kernel
theorem J_HFinder_hasShades_d49 : decode J_HFinder_hasShades.2.1 49 = .ok (.iload 4, 2) := by decide +kernel
theorem J_HFinder_hasShades_d51 : decode J_HFinder_hasShades.2.1 51 = .ok (.imul, 1) := by decide +kernel
theorem J_HFinder_hasShades_d52 : decode J_HFinder_hasShades.2.1 52 = .ok (.iload 5, 2) := by decide +kernel
theorem J_HFinder_hasShades_d54 : decode J_HFinder_hasShades.2.1 54 = .ok (.isub, 1) := by decide +kernel
theorem J_HFinder_hasShades_d55 : decode J_HFinder_hasShades.2.1 55 = .ok (.aload_n 0, 1) := by decide +kernel
theorem J_HFinder_hasShades_d56 : decode J_HFinder_hasShades.2.1 56 = .ok (.getfield 48, 3) := by decide +kernel
theorem J_HFinder_hasShades_d59 : decode J_HFinder_hasShades.2.1 59 = .ok (.iadd, 1) := by decide +kernel
theorem J_HFinder_hasShades_d60 : decode J_HFinder_hasShades.2.1 60 = .ok (.iload_n 3, 1) := by decide +kernel
theorem J_HFinder_hasShades_d61 : decode J_HFinder_hasShades.2.1 61 = .ok (.invokestatic 128, 3) := by decide +kernel
theorem J_HFinder_hasShades_d64 : decode J_HFinder_hasShades.2.1 64 = .ok (.aload_n 0, 1) := by decide +kernel
theorem J_HFinder_hasShades_d65 : decode J_HFinder_hasShades.2.1 65 = .ok (.getfield 66, 3) := by decide +kernel
theorem J_HFinder_hasShades_d68 : decode J_HFinder_hasShades.2.1 68 = .ok (.imul, 1) := by decide +kernel
theorem J_HFinder_hasShades_d69 : decode J_HFinder_hasShades.2.1 69 = .ok (.aload_n 0, 1) := by decide +kernel
theorem J_HFinder_hasShades_d70 : decode J_HFinder_hasShades.2.1 70 = .ok (.getfield 66, 3) := by decide +kernel
theorem J_HFinder_hasShades_d73 : decode J_HFinder_hasShades.2.1 73 = .ok (.imul, 1) := by decide +kernel
theorem J_HFinder_hasShades_d74 : decode J_HFinder_hasShades.2.1 74 = .ok (.if_icmp .lt 7, 3) := by decide +kernel
theorem J_HFinder_hasShades_d77 : decode J_HFinder_hasShades.2.1 77 = .ok (.iconst 1, 1) := by decide +kernel
theorem J_HFinder_hasShades_d78 : decode J_HFinder_hasShades.2.1 78 = .ok (.goto 4, 3) := by decide +kernel
theorem J_HFinder_hasShades_d81 : decode J_HFinder_hasShades.2.1 81 = .ok (.iconst 0, 1) := by decide +kernel
theorem J_HFinder_hasShades_d82 : decode J_HFinder_hasShades.2.1 82 = .ok (.ireturn, 1) := by decide +kernel
theorem f_HFinder_hasShades_ok {L : Nat} {xs : Nat → Int32} {dep : Nat} {w : Bool} {p0 : Int32} {p1 : Int32} {p2 : Int32} {M : im_M} {Q : Int32 → Prop} (hM : lw_S w M) (h : ed (f_HFinder_hasShades p0 p1 p2 M) Q) : ia (tb_G L xs) (dep + 1) J_HFinder_hasShades (rpI M Q) (0, lv_args 0 [.ref 59, .int p0, .int p1, .int p2], [], M) := by
  have hS : im_St (tb_G L xs) (dep + 1) J_HFinder_hasShades (ia (tb_G L xs) (dep + 1) J_HFinder_hasShades (rpI M Q)) := ia_St
  unfold f_HFinder_hasShades at h
  have l0 : im_lk (lv_args 0 [.ref 59, .int p0, .int p1, .int p2]) 0 = some (.ref 59) := rfl
  have l1 : im_lk (lv_args 0 [.ref 59, .int p0, .int p1, .int p2]) 1 = some (.int p0) := rfl
  have l2 : im_lk (lv_args 0 [.ref 59, .int p0, .int p1, .int p2]) 2 = some (.int p1) := rfl
  have l3 : im_lk (lv_args 0 [.ref 59, .int p0, .int p1, .int p2]) 3 = some (.int p2) := rfl
  refine iq_bipush hS 2 J_HFinder_hasShades_d0 (v := 17) (by decide +kernel) rfl ?_
  refine iq_iconst hS 3 J_HFinder_hasShades_d2 (v := 4) (by decide +kernel) rfl ?_
  refine iq_iload_n hS 4 J_HFinder_hasShades_d3 l3 rfl ?_
  refine iq_imul hS 5 J_HFinder_hasShades_d4 rfl ?_
  refine iq_iadd hS 6 J_HFinder_hasShades_d5 rfl ?_
  refine iq_aload_n hS 7 J_HFinder_hasShades_d6 l0 rfl ?_
  refine iq_getI hS 10 J_HFinder_hasShades_d7 lf_3_66 (Or.inl rfl) (ka_59 hM) rfl ?_
  refine iq_imul hS 11 J_HFinder_hasShades_d10 rfl ?_
  refine iq_istore hS 13 J_HFinder_hasShades_d11 (by decide) rfl ?_
  refine iq_aload_n hS 14 J_HFinder_hasShades_d13 (lk_1r l0 (by decide)) rfl ?_
  refine iq_iload_n hS 15 J_HFinder_hasShades_d14 (lk_1i l1 (by decide)) rfl ?_
  refine iq_iload_n hS 16 J_HFinder_hasShades_d15 (lk_1i l2 (by decide)) rfl ?_
  refine iq_iload hS 18 J_HFinder_hasShades_d16 lk_1s rfl ?_
  obtain ⟨Q1, hQ1, h⟩ := bd1_ed h
  refine iq_cpI hS 21 J_HFinder_hasShades_d18 rfl (pr_inst (vs := [_, _, _]) lc_3_87 lT_206 rfl rfl (by decide) (by decide) rfl (Nat.le_of_ble_eq_true rfl) (Nat.le_of_ble_eq_true rfl) (fun _ => Or.inl (pr_b (ka_59 hM) (by decide) rfl))) (f_HFinder_darkIn_ok (dep := dep + 0) hM h) rfl ?_
  intro x1 h
  replace h := hQ1 _ h
  refine iq_istore hS 23 J_HFinder_hasShades_d21 (by decide) rfl ?_
  refine iq_iload hS 25 J_HFinder_hasShades_d23 lk_1s rfl ?_
  refine iq_aload_n hS 26 J_HFinder_hasShades_d25 (lk_1r (lk_1r l0 (by decide)) (by decide)) rfl ?_
  refine iq_getI hS 29 J_HFinder_hasShades_d26 lf_3_48 (Or.inl rfl) (ka_59 hM) rfl ?_
  refine iq_iadd hS 30 J_HFinder_hasShades_d29 rfl ?_
  refine iq_iload_n hS 31 J_HFinder_hasShades_d30 (lk_1i (lk_1i l3 (by decide)) (by decide)) rfl ?_
  obtain ⟨Q2, hQ2, h⟩ := bd1_ed h
  refine iq_cpI hS 34 J_HFinder_hasShades_d31 rfl (pr_stat (vs := [_]) lc_3_69 lT_204 rfl rfl (by decide) rfl (Nat.le_of_ble_eq_true rfl) (Nat.le_of_ble_eq_true rfl)) (f_HFinder_darkMarks_ok (dep := dep + 0) hM h) rfl ?_
  intro x2 h
  replace h := hQ2 _ h
  refine iq_aload_n hS 35 J_HFinder_hasShades_d34 (lk_1r (lk_1r l0 (by decide)) (by decide)) rfl ?_
  refine iq_getI hS 38 J_HFinder_hasShades_d35 lf_3_66 (Or.inl rfl) (ka_59 hM) rfl ?_
  refine iq_imul hS 39 J_HFinder_hasShades_d38 rfl ?_
  refine iq_aload_n hS 40 J_HFinder_hasShades_d39 (lk_1r (lk_1r l0 (by decide)) (by decide)) rfl ?_
  refine iq_getI hS 43 J_HFinder_hasShades_d40 lf_3_66 (Or.inl rfl) (ka_59 hM) rfl ?_
  refine iq_imul hS 44 J_HFinder_hasShades_d43 rfl ?_
  refine iq_icmp_lt hS 47 J_HFinder_hasShades_d44 (t := 81) rfl (fun q44 => ?_) rfl (fun q44 => ?_)
  · replace h := ed_pos q44 h
    refine iq_iconst hS 82 J_HFinder_hasShades_d81 (v := 0) (by decide +kernel) rfl ?_
    exact iq_iret J_HFinder_hasShades_d82 rfl rfl ⟨_, rfl, rfl, ed_some h⟩
  · replace h := ed_neg q44 h
    refine iq_iload hS 49 J_HFinder_hasShades_d47 (lk_1i lk_1s (by decide)) rfl ?_
    refine iq_iload hS 51 J_HFinder_hasShades_d49 (lk_1i lk_1s (by decide)) rfl ?_
    refine iq_imul hS 52 J_HFinder_hasShades_d51 rfl ?_
    refine iq_iload hS 54 J_HFinder_hasShades_d52 lk_1s rfl ?_
    refine iq_isub hS 55 J_HFinder_hasShades_d54 rfl ?_
    refine iq_aload_n hS 56 J_HFinder_hasShades_d55 (lk_1r (lk_1r l0 (by decide)) (by decide)) rfl ?_
    refine iq_getI hS 59 J_HFinder_hasShades_d56 lf_3_48 (Or.inl rfl) (ka_59 hM) rfl ?_
    refine iq_iadd hS 60 J_HFinder_hasShades_d59 rfl ?_
    refine iq_iload_n hS 61 J_HFinder_hasShades_d60 (lk_1i (lk_1i l3 (by decide)) (by decide)) rfl ?_
    obtain ⟨Q3, hQ3, h⟩ := bd1_ed h
    refine iq_cpI hS 64 J_HFinder_hasShades_d61 rfl (pr_stat (vs := [_]) lc_3_128 lT_215 rfl rfl (by decide) rfl (Nat.le_of_ble_eq_true rfl) (Nat.le_of_ble_eq_true rfl)) (f_HFinder_lightMarks_ok (dep := dep + 0) hM h) rfl ?_
    intro x3 h
    replace h := hQ3 _ h
    refine iq_aload_n hS 65 J_HFinder_hasShades_d64 (lk_1r (lk_1r l0 (by decide)) (by decide)) rfl ?_
    refine iq_getI hS 68 J_HFinder_hasShades_d65 lf_3_66 (Or.inl rfl) (ka_59 hM) rfl ?_
    refine iq_imul hS 69 J_HFinder_hasShades_d68 rfl ?_
    refine iq_aload_n hS 70 J_HFinder_hasShades_d69 (lk_1r (lk_1r l0 (by decide)) (by decide)) rfl ?_
    refine iq_getI hS 73 J_HFinder_hasShades_d70 lf_3_66 (Or.inl rfl) (ka_59 hM) rfl ?_
    refine iq_imul hS 74 J_HFinder_hasShades_d73 rfl ?_
    refine iq_icmp_lt hS 77 J_HFinder_hasShades_d74 (t := 81) rfl (fun q74 => ?_) rfl (fun q74 => ?_)
    · replace h := ed_pos q74 h
      refine iq_iconst hS 82 J_HFinder_hasShades_d81 (v := 0) (by decide +kernel) rfl ?_
      exact iq_iret J_HFinder_hasShades_d82 rfl rfl ⟨_, rfl, rfl, ed_some h⟩
    · replace h := ed_neg q74 h
      refine iq_iconst hS 78 J_HFinder_hasShades_d77 (v := 1) (by decide +kernel) rfl ?_
      refine iq_goto hS J_HFinder_hasShades_d78 (t := 82) rfl ?_
      exact iq_iret J_HFinder_hasShades_d82 rfl rfl ⟨_, rfl, rfl, ed_some h⟩
noncomputable def f_HFinder_loneX (p0 : Int32) (p1 : Int32) (M : im_M) : Option (Int32) := if ¬ p1 = 0 then if ¬ p1 = 1 then if ¬ p1 = 2 then some (p0 - 8) else some (p0 - 9) else some 7 else some 8
theorem J_HFinder_loneX_d0 : decode J_HFinder_loneX.2.1 0 = .ok (.iload_n 1, 1) := by decide +kernel
theorem J_HFinder_loneX_d1 : decode J_HFinder_loneX.2.1 1 = .ok (.ifCond .ne 8, 3) := by decide +kernel
theorem J_HFinder_loneX_d4 : decode J_HFinder_loneX.2.1 4 = .ok (.bipush 8, 2) := by decide +kernel
theorem J_HFinder_loneX_d6 : decode J_HFinder_loneX.2.1 6 = .ok (.goto 29, 3) := by decide +kernel
theorem J_HFinder_loneX_d9 : decode J_HFinder_loneX.2.1 9 = .ok (.iload_n 1, 1) := by decide +kernel
theorem J_HFinder_loneX_d10 : decode J_HFinder_loneX.2.1 10 = .ok (.iconst 1, 1) := by decide +kernel
theorem J_HFinder_loneX_d11 : decode J_HFinder_loneX.2.1 11 = .ok (.if_icmp .ne 8, 3) := by decide +kernel
theorem J_HFinder_loneX_d14 : decode J_HFinder_loneX.2.1 14 = .ok (.bipush 7, 2) := by decide +kernel
theorem J_HFinder_loneX_d16 : decode J_HFinder_loneX.2.1 16 = .ok (.goto 19, 3) := by decide +kernel
theorem J_HFinder_loneX_d19 : decode J_HFinder_loneX.2.1 19 = .ok (.iload_n 1, 1) := by decide +kernel
theorem J_HFinder_loneX_d20 : decode J_HFinder_loneX.2.1 20 = .ok (.iconst 2, 1) := by decide +kernel
theorem J_HFinder_loneX_d21 : decode J_HFinder_loneX.2.1 21 = .ok (.if_icmp .ne 10, 3) := by decide +kernel
theorem J_HFinder_loneX_d24 : decode J_HFinder_loneX.2.1 24 = .ok (.iload_n 0, 1) := by decide +kernel
theorem J_HFinder_loneX_d25 : decode J_HFinder_loneX.2.1 25 = .ok (.bipush 9, 2) := by decide +kernel
theorem J_HFinder_loneX_d27 : decode J_HFinder_loneX.2.1 27 = .ok (.isub, 1) := by decide +kernel
theorem J_HFinder_loneX_d28 : decode J_HFinder_loneX.2.1 28 = .ok (.goto 7, 3) := by decide +kernel
theorem J_HFinder_loneX_d31 : decode J_HFinder_loneX.2.1 31 = .ok (.iload_n 0, 1) := by decide +kernel
theorem J_HFinder_loneX_d32 : decode J_HFinder_loneX.2.1 32 = .ok (.bipush 8, 2) := by decide +kernel
theorem J_HFinder_loneX_d34 : decode J_HFinder_loneX.2.1 34 = .ok (.isub, 1) := by decide +kernel
theorem J_HFinder_loneX_d35 : decode J_HFinder_loneX.2.1 35 = .ok (.ireturn, 1) := by decide +kernel
theorem f_HFinder_loneX_ok {L : Nat} {xs : Nat → Int32} {dep : Nat} {w : Bool} {p0 : Int32} {p1 : Int32} {M : im_M} {Q : Int32 → Prop} (hM : lw_S w M) (h : ed (f_HFinder_loneX p0 p1 M) Q) : ia (tb_G L xs) dep J_HFinder_loneX (rpI M Q) (0, lv_args 0 [.int p0, .int p1], [], M) := by
  have hS : im_St (tb_G L xs) dep J_HFinder_loneX (ia (tb_G L xs) dep J_HFinder_loneX (rpI M Q)) := ia_St
  unfold f_HFinder_loneX at h
  have l0 : im_lk (lv_args 0 [.int p0, .int p1]) 0 = some (.int p0) := rfl
  have l1 : im_lk (lv_args 0 [.int p0, .int p1]) 1 = some (.int p1) := rfl
  refine iq_iload_n hS 1 J_HFinder_loneX_d0 l1 rfl ?_
  refine iq_if_ne hS 4 J_HFinder_loneX_d1 (t := 9) rfl (fun q1 => ?_) rfl (fun q1 => ?_)
  · replace h := ed_pos q1 h
    refine iq_iload_n hS 10 J_HFinder_loneX_d9 l1 rfl ?_
    refine iq_iconst hS 11 J_HFinder_loneX_d10 (v := 1) (by decide +kernel) rfl ?_
    refine iq_icmp_ne hS 14 J_HFinder_loneX_d11 (t := 19) rfl (fun q11 => ?_) rfl (fun q11 => ?_)
    · replace h := ed_pos q11 h
      refine iq_iload_n hS 20 J_HFinder_loneX_d19 l1 rfl ?_
      refine iq_iconst hS 21 J_HFinder_loneX_d20 (v := 2) (by decide +kernel) rfl ?_
      refine iq_icmp_ne hS 24 J_HFinder_loneX_d21 (t := 31) rfl (fun q21 => ?_) rfl (fun q21 => ?_)
      · replace h := ed_pos q21 h
        refine iq_iload_n hS 32 J_HFinder_loneX_d31 l0 rfl ?_
        refine iq_bipush hS 34 J_HFinder_loneX_d32 (v := 8) (by decide +kernel) rfl ?_
        refine iq_isub hS 35 J_HFinder_loneX_d34 rfl ?_
        exact iq_iret J_HFinder_loneX_d35 rfl rfl ⟨_, rfl, rfl, ed_some h⟩
      · replace h := ed_neg q21 h
        refine iq_iload_n hS 25 J_HFinder_loneX_d24 l0 rfl ?_
        refine iq_bipush hS 27 J_HFinder_loneX_d25 (v := 9) (by decide +kernel) rfl ?_
        refine iq_isub hS 28 J_HFinder_loneX_d27 rfl ?_
        refine iq_goto hS J_HFinder_loneX_d28 (t := 35) rfl ?_
        exact iq_iret J_HFinder_loneX_d35 rfl rfl ⟨_, rfl, rfl, ed_some h⟩
    · replace h := ed_neg q11 h
      refine iq_bipush hS 16 J_HFinder_loneX_d14 (v := 7) (by decide +kernel) rfl ?_
      refine iq_goto hS J_HFinder_loneX_d16 (t := 35) rfl ?_
      exact iq_iret J_HFinder_loneX_d35 rfl rfl ⟨_, rfl, rfl, ed_some h⟩
  · replace h := ed_neg q1 h
    refine iq_bipush hS 6 J_HFinder_loneX_d4 (v := 8) (by decide +kernel) rfl ?_
    refine iq_goto hS J_HFinder_loneX_d6 (t := 35) rfl ?_
    exact iq_iret J_HFinder_loneX_d35 rfl rfl ⟨_, rfl, rfl, ed_some h⟩
noncomputable def f_HFinder_loneY (p0 : Int32) (p1 : Int32) (M : im_M) : Option (Int32) := if ¬ p1 = 0 then if ¬ p1 = 1 then if ¬ p1 = 2 then some (p0 - 9) else some 7 else some 8 else some (p0 - 8)
theorem J_HFinder_loneY_d0 : decode J_HFinder_loneY.2.1 0 = .ok (.iload_n 1, 1) := by decide +kernel
theorem J_HFinder_loneY_d1 : decode J_HFinder_loneY.2.1 1 = .ok (.ifCond .ne 10, 3) := by decide +kernel
theorem J_HFinder_loneY_d4 : decode J_HFinder_loneY.2.1 4 = .ok (.iload_n 0, 1) := by decide +kernel
theorem J_HFinder_loneY_d5 : decode J_HFinder_loneY.2.1 5 = .ok (.bipush 8, 2) := by decide +kernel
theorem J_HFinder_loneY_d7 : decode J_HFinder_loneY.2.1 7 = .ok (.isub, 1) := by decide +kernel
theorem J_HFinder_loneY_d8 : decode J_HFinder_loneY.2.1 8 = .ok (.goto 27, 3) := by decide +kernel
theorem J_HFinder_loneY_d11 : decode J_HFinder_loneY.2.1 11 = .ok (.iload_n 1, 1) := by decide +kernel
theorem J_HFinder_loneY_d12 : decode J_HFinder_loneY.2.1 12 = .ok (.iconst 1, 1) := by decide +kernel
theorem J_HFinder_loneY_d13 : decode J_HFinder_loneY.2.1 13 = .ok (.if_icmp .ne 8, 3) := by decide +kernel
theorem J_HFinder_loneY_d16 : decode J_HFinder_loneY.2.1 16 = .ok (.bipush 8, 2) := by decide +kernel
theorem J_HFinder_loneY_d18 : decode J_HFinder_loneY.2.1 18 = .ok (.goto 17, 3) := by decide +kernel
theorem J_HFinder_loneY_d21 : decode J_HFinder_loneY.2.1 21 = .ok (.iload_n 1, 1) := by decide +kernel
theorem J_HFinder_loneY_d22 : decode J_HFinder_loneY.2.1 22 = .ok (.iconst 2, 1) := by decide +kernel
theorem J_HFinder_loneY_d23 : decode J_HFinder_loneY.2.1 23 = .ok (.if_icmp .ne 8, 3) := by decide +kernel
theorem J_HFinder_loneY_d26 : decode J_HFinder_loneY.2.1 26 = .ok (.bipush 7, 2) := by decide +kernel
theorem J_HFinder_loneY_d28 : decode J_HFinder_loneY.2.1 28 = .ok (.goto 7, 3) := by decide +kernel
theorem J_HFinder_loneY_d31 : decode J_HFinder_loneY.2.1 31 = .ok (.iload_n 0, 1) := by decide +kernel
theorem J_HFinder_loneY_d32 : decode J_HFinder_loneY.2.1 32 = .ok (.bipush 9, 2) := by decide +kernel
theorem J_HFinder_loneY_d34 : decode J_HFinder_loneY.2.1 34 = .ok (.isub, 1) := by decide +kernel
theorem J_HFinder_loneY_d35 : decode J_HFinder_loneY.2.1 35 = .ok (.ireturn, 1) := by decide +kernel
theorem f_HFinder_loneY_ok {L : Nat} {xs : Nat → Int32} {dep : Nat} {w : Bool} {p0 : Int32} {p1 : Int32} {M : im_M} {Q : Int32 → Prop} (hM : lw_S w M) (h : ed (f_HFinder_loneY p0 p1 M) Q) : ia (tb_G L xs) dep J_HFinder_loneY (rpI M Q) (0, lv_args 0 [.int p0, .int p1], [], M) := by
  have hS : im_St (tb_G L xs) dep J_HFinder_loneY (ia (tb_G L xs) dep J_HFinder_loneY (rpI M Q)) := ia_St
  unfold f_HFinder_loneY at h
  have l0 : im_lk (lv_args 0 [.int p0, .int p1]) 0 = some (.int p0) := rfl
  have l1 : im_lk (lv_args 0 [.int p0, .int p1]) 1 = some (.int p1) := rfl
  refine iq_iload_n hS 1 J_HFinder_loneY_d0 l1 rfl ?_
  refine iq_if_ne hS 4 J_HFinder_loneY_d1 (t := 11) rfl (fun q1 => ?_) rfl (fun q1 => ?_)
  · replace h := ed_pos q1 h
    refine iq_iload_n hS 12 J_HFinder_loneY_d11 l1 rfl ?_
    refine iq_iconst hS 13 J_HFinder_loneY_d12 (v := 1) (by decide +kernel) rfl ?_
    refine iq_icmp_ne hS 16 J_HFinder_loneY_d13 (t := 21) rfl (fun q13 => ?_) rfl (fun q13 => ?_)
    · replace h := ed_pos q13 h
      refine iq_iload_n hS 22 J_HFinder_loneY_d21 l1 rfl ?_
      refine iq_iconst hS 23 J_HFinder_loneY_d22 (v := 2) (by decide +kernel) rfl ?_
      refine iq_icmp_ne hS 26 J_HFinder_loneY_d23 (t := 31) rfl (fun q23 => ?_) rfl (fun q23 => ?_)
      · replace h := ed_pos q23 h
        refine iq_iload_n hS 32 J_HFinder_loneY_d31 l0 rfl ?_
        refine iq_bipush hS 34 J_HFinder_loneY_d32 (v := 9) (by decide +kernel) rfl ?_
        refine iq_isub hS 35 J_HFinder_loneY_d34 rfl ?_
        exact iq_iret J_HFinder_loneY_d35 rfl rfl ⟨_, rfl, rfl, ed_some h⟩
      · replace h := ed_neg q23 h
        refine iq_bipush hS 28 J_HFinder_loneY_d26 (v := 7) (by decide +kernel) rfl ?_
        refine iq_goto hS J_HFinder_loneY_d28 (t := 35) rfl ?_
        exact iq_iret J_HFinder_loneY_d35 rfl rfl ⟨_, rfl, rfl, ed_some h⟩
    · replace h := ed_neg q13 h
      refine iq_bipush hS 18 J_HFinder_loneY_d16 (v := 8) (by decide +kernel) rfl ?_
      refine iq_goto hS J_HFinder_loneY_d18 (t := 35) rfl ?_
      exact iq_iret J_HFinder_loneY_d35 rfl rfl ⟨_, rfl, rfl, ed_some h⟩
  · replace h := ed_neg q1 h
    refine iq_iload_n hS 5 J_HFinder_loneY_d4 l0 rfl ?_
    refine iq_bipush hS 7 J_HFinder_loneY_d5 (v := 8) (by decide +kernel) rfl ?_
    refine iq_isub hS 8 J_HFinder_loneY_d7 rfl ?_
    refine iq_goto hS J_HFinder_loneY_d8 (t := 35) rfl ?_
    exact iq_iret J_HFinder_loneY_d35 rfl rfl ⟨_, rfl, rfl, ed_some h⟩
noncomputable def f_HFinder_wrongAt_L113 (v7 : Int32) (v8 : Int32) (v9 : Int32) (v10 : Int32) (v11 : Int32) (M14 : im_M) (x12 : Int32) (x13 : Int32) : Option ((Int32 × Int32) ⊕ (Int32)) := if (v9 - 9) < x13 then some (.inr x12) else if (im_i M14 59 10) < x12 then some (.inr x12) else bd1 (f_HFinder_darkIn (v7 + (x13 * (im_i M14 59 9))) v10 (im_i M14 59 9) M14) fun (x15 : Int32) => bd1 (f_HFinder_darkIn v11 (v8 + (x13 * (im_i M14 59 9))) (im_i M14 59 9) M14) fun (x16 : Int32) => some (.inl ((x12 + ((if ¬ (x13 - x13 / 2 * 2) = 0 then (x15 + x16) else ((((2 : Int32) * (im_i M14 59 9)) * (im_i M14 59 9)) - (x15 + x16))) : Int32)), (x13 + 1)))
noncomputable def f_HFinder_wrongAt (p0 : Int32) (p1 : Int32) (p2 : Int32) (p3 : Int32) (p4 : Int32) (M : im_M) : Option (Int32) := bd1 (f_HFinder_loneX p2 p3 M) fun (x1 : Int32) => bd1 (f_HFinder_loneY p2 p3 M) fun (x2 : Int32) => bd1 (f_HFinder_darkIn (p0 + ((im_i M 59 9) * x1)) (p1 + ((im_i M 59 9) * x2)) (im_i M 59 9) M) fun (x3 : Int32) => bd1 (lp (uc2 (f_HFinder_wrongAt_L113 p0 p1 p2 (p1 + ((if 2 ≤ p3 then ((p2 - 7) * (im_i M 59 9)) else ((6 : Int32) * (im_i M 59 9))) : Int32)) (p0 + ((if p3 = 0 then ((6 : Int32) * (im_i M 59 9)) else (if ¬ p3 = 3 then ((p2 - 7) * (im_i M 59 9)) else ((6 : Int32) * (im_i M 59 9)))) : Int32)) M)) (((p4 + ((im_i M 59 9) * (im_i M 59 9))) - x3), 8)) fun (y18 : Int32) => some y18
theorem J_HFinder_wrongAt_d0 : decode J_HFinder_wrongAt.2.1 0 = .ok (.iload_n 3, 1) := by decide +kernel
theorem J_HFinder_wrongAt_d1 : decode J_HFinder_wrongAt.2.1 1 = .ok (.bipush 7, 2) := by decide +kernel
theorem J_HFinder_wrongAt_d3 : decode J_HFinder_wrongAt.2.1 3 = .ok (.isub, 1) := by decide +kernel
theorem J_HFinder_wrongAt_d4 : decode J_HFinder_wrongAt.2.1 4 = .ok (.aload_n 0, 1) := by decide +kernel
theorem J_HFinder_wrongAt_d5 : decode J_HFinder_wrongAt.2.1 5 = .ok (.getfield 66, 3) := by decide +kernel
theorem J_HFinder_wrongAt_d8 : decode J_HFinder_wrongAt.2.1 8 = .ok (.imul, 1) := by decide +kernel
theorem J_HFinder_wrongAt_d9 : decode J_HFinder_wrongAt.2.1 9 = .ok (.istore 6, 2) := by decide +kernel
theorem J_HFinder_wrongAt_d11 : decode J_HFinder_wrongAt.2.1 11 = .ok (.iload 5, 2) := by decide +kernel
theorem J_HFinder_wrongAt_d13 : decode J_HFinder_wrongAt.2.1 13 = .ok (.aload_n 0, 1) := by decide +kernel
theorem J_HFinder_wrongAt_d14 : decode J_HFinder_wrongAt.2.1 14 = .ok (.getfield 66, 3) := by decide +kernel
theorem J_HFinder_wrongAt_d17 : decode J_HFinder_wrongAt.2.1 17 = .ok (.aload_n 0, 1) := by decide +kernel
theorem J_HFinder_wrongAt_d18 : decode J_HFinder_wrongAt.2.1 18 = .ok (.getfield 66, 3) := by decide +kernel
theorem J_HFinder_wrongAt_d21 : decode J_HFinder_wrongAt.2.1 21 = .ok (.imul, 1) := by decide +kernel
theorem J_HFinder_wrongAt_d22 : decode J_HFinder_wrongAt.2.1 22 = .ok (.iadd, 1) := by decide +kernel
theorem J_HFinder_wrongAt_d23 : decode J_HFinder_wrongAt.2.1 23 = .ok (.aload_n 0, 1) := by decide +kernel
theorem J_HFinder_wrongAt_d24 : decode J_HFinder_wrongAt.2.1 24 = .ok (.iload_n 1, 1) := by decide +kernel
theorem J_HFinder_wrongAt_d25 : decode J_HFinder_wrongAt.2.1 25 = .ok (.aload_n 0, 1) := by decide +kernel
theorem J_HFinder_wrongAt_d26 : decode J_HFinder_wrongAt.2.1 26 = .ok (.getfield 66, 3) := by decide +kernel
theorem J_HFinder_wrongAt_d29 : decode J_HFinder_wrongAt.2.1 29 = .ok (.iload_n 3, 1) := by decide +kernel
theorem J_HFinder_wrongAt_d30 : decode J_HFinder_wrongAt.2.1 30 = .ok (.iload 4, 2) := by decide +kernel
theorem J_HFinder_wrongAt_d32 : decode J_HFinder_wrongAt.2.1 32 = .ok (.invokestatic 131, 3) := by decide +kernel
theorem J_HFinder_wrongAt_d35 : decode J_HFinder_wrongAt.2.1 35 = .ok (.imul, 1) := by decide +kernel
theorem J_HFinder_wrongAt_d36 : decode J_HFinder_wrongAt.2.1 36 = .ok (.iadd, 1) := by decide +kernel
theorem J_HFinder_wrongAt_d37 : decode J_HFinder_wrongAt.2.1 37 = .ok (.iload_n 2, 1) := by decide +kernel
theorem J_HFinder_wrongAt_d38 : decode J_HFinder_wrongAt.2.1 38 = .ok (.aload_n 0, 1) := by decide +kernel
theorem J_HFinder_wrongAt_d39 : decode J_HFinder_wrongAt.2.1 39 = .ok (.getfield 66, 3) := by decide +kernel
theorem J_HFinder_wrongAt_d42 : decode J_HFinder_wrongAt.2.1 42 = .ok (.iload_n 3, 1) := by decide +kernel
theorem J_HFinder_wrongAt_d43 : decode J_HFinder_wrongAt.2.1 43 = .ok (.iload 4, 2) := by decide +kernel
theorem J_HFinder_wrongAt_d45 : decode J_HFinder_wrongAt.2.1 45 = .ok (.invokestatic 134, 3) := by decide +kernel
theorem J_HFinder_wrongAt_d48 : decode J_HFinder_wrongAt.2.1 48 = .ok (.imul, 1) := by decide +kernel
theorem J_HFinder_wrongAt_d49 : decode J_HFinder_wrongAt.2.1 49 = .ok (.iadd, 1) := by decide +kernel
theorem J_HFinder_wrongAt_d50 : decode J_HFinder_wrongAt.2.1 50 = .ok (.aload_n 0, 1) := by decide +kernel
theorem J_HFinder_wrongAt_d51 : decode J_HFinder_wrongAt.2.1 51 = .ok (.getfield 66, 3) := by decide +kernel
theorem J_HFinder_wrongAt_d54 : decode J_HFinder_wrongAt.2.1 54 = .ok (.invokevirtual 87, 3) := by decide +kernel
theorem J_HFinder_wrongAt_d57 : decode J_HFinder_wrongAt.2.1 57 = .ok (.isub, 1) := by decide +kernel
theorem J_HFinder_wrongAt_d58 : decode J_HFinder_wrongAt.2.1 58 = .ok (.istore 7, 2) := by decide +kernel
theorem J_HFinder_wrongAt_d60 : decode J_HFinder_wrongAt.2.1 60 = .ok (.iload_n 2, 1) := by decide +kernel
theorem J_HFinder_wrongAt_d61 : decode J_HFinder_wrongAt.2.1 61 = .ok (.iload 4, 2) := by decide +kernel
theorem J_HFinder_wrongAt_d63 : decode J_HFinder_wrongAt.2.1 63 = .ok (.iconst 2, 1) := by decide +kernel
theorem J_HFinder_wrongAt_d64 : decode J_HFinder_wrongAt.2.1 64 = .ok (.if_icmp .ge 13, 3) := by decide +kernel
theorem J_HFinder_wrongAt_d67 : decode J_HFinder_wrongAt.2.1 67 = .ok (.bipush 6, 2) := by decide +kernel
theorem J_HFinder_wrongAt_d69 : decode J_HFinder_wrongAt.2.1 69 = .ok (.aload_n 0, 1) := by decide +kernel
theorem J_HFinder_wrongAt_d70 : decode J_HFinder_wrongAt.2.1 70 = .ok (.getfield 66, 3) := by decide +kernel
theorem J_HFinder_wrongAt_d73 : decode J_HFinder_wrongAt.2.1 73 = .ok (.imul, 1) := by decide +kernel
theorem J_HFinder_wrongAt_d74 : decode J_HFinder_wrongAt.2.1 74 = .ok (.goto 5, 3) := by decide +kernel
theorem J_HFinder_wrongAt_d77 : decode J_HFinder_wrongAt.2.1 77 = .ok (.iload 6, 2) := by decide +kernel
theorem J_HFinder_wrongAt_d79 : decode J_HFinder_wrongAt.2.1 79 = .ok (.iadd, 1) := by decide +kernel
theorem J_HFinder_wrongAt_d80 : decode J_HFinder_wrongAt.2.1 80 = .ok (.istore 8, 2) := by decide +kernel
theorem J_HFinder_wrongAt_d82 : decode J_HFinder_wrongAt.2.1 82 = .ok (.iload_n 1, 1) := by decide +kernel
theorem J_HFinder_wrongAt_d83 : decode J_HFinder_wrongAt.2.1 83 = .ok (.iload 4, 2) := by decide +kernel
theorem J_HFinder_wrongAt_d85 : decode J_HFinder_wrongAt.2.1 85 = .ok (.ifCond .eq 9, 3) := by decide +kernel
theorem J_HFinder_wrongAt_d88 : decode J_HFinder_wrongAt.2.1 88 = .ok (.iload 4, 2) := by decide +kernel
theorem J_HFinder_wrongAt_d90 : decode J_HFinder_wrongAt.2.1 90 = .ok (.iconst 3, 1) := by decide +kernel
theorem J_HFinder_wrongAt_d91 : decode J_HFinder_wrongAt.2.1 91 = .ok (.if_icmp .ne 13, 3) := by decide +kernel
theorem J_HFinder_wrongAt_d94 : decode J_HFinder_wrongAt.2.1 94 = .ok (.bipush 6, 2) := by decide +kernel
theorem J_HFinder_wrongAt_d96 : decode J_HFinder_wrongAt.2.1 96 = .ok (.aload_n 0, 1) := by decide +kernel
theorem J_HFinder_wrongAt_d97 : decode J_HFinder_wrongAt.2.1 97 = .ok (.getfield 66, 3) := by decide +kernel
theorem J_HFinder_wrongAt_d100 : decode J_HFinder_wrongAt.2.1 100 = .ok (.imul, 1) := by decide +kernel
theorem J_HFinder_wrongAt_d101 : decode J_HFinder_wrongAt.2.1 101 = .ok (.goto 5, 3) := by decide +kernel
theorem J_HFinder_wrongAt_d104 : decode J_HFinder_wrongAt.2.1 104 = .ok (.iload 6, 2) := by decide +kernel
theorem J_HFinder_wrongAt_d106 : decode J_HFinder_wrongAt.2.1 106 = .ok (.iadd, 1) := by decide +kernel
theorem J_HFinder_wrongAt_d107 : decode J_HFinder_wrongAt.2.1 107 = .ok (.istore 9, 2) := by decide +kernel
theorem J_HFinder_wrongAt_d109 : decode J_HFinder_wrongAt.2.1 109 = .ok (.bipush 8, 2) := by decide +kernel
theorem J_HFinder_wrongAt_d111 : decode J_HFinder_wrongAt.2.1 111 = .ok (.istore 10, 2) := by decide +kernel
theorem J_HFinder_wrongAt_d113 : decode J_HFinder_wrongAt.2.1 113 = .ok (.iload 10, 2) := by decide +kernel
theorem J_HFinder_wrongAt_d115 : decode J_HFinder_wrongAt.2.1 115 = .ok (.iload_n 3, 1) := by decide +kernel
theorem J_HFinder_wrongAt_d116 : decode J_HFinder_wrongAt.2.1 116 = .ok (.bipush 9, 2) := by decide +kernel
theorem J_HFinder_wrongAt_d118 : decode J_HFinder_wrongAt.2.1 118 = .ok (.isub, 1) := by decide +kernel
theorem J_HFinder_wrongAt_d119 : decode J_HFinder_wrongAt.2.1 119 = .ok (.if_icmp .gt 90, 3) := by decide +kernel
theorem J_HFinder_wrongAt_d122 : decode J_HFinder_wrongAt.2.1 122 = .ok (.iload 7, 2) := by decide +kernel
theorem J_HFinder_wrongAt_d124 : decode J_HFinder_wrongAt.2.1 124 = .ok (.aload_n 0, 1) := by decide +kernel
theorem J_HFinder_wrongAt_d125 : decode J_HFinder_wrongAt.2.1 125 = .ok (.getfield 48, 3) := by decide +kernel
theorem J_HFinder_wrongAt_d128 : decode J_HFinder_wrongAt.2.1 128 = .ok (.if_icmp .gt 81, 3) := by decide +kernel
theorem J_HFinder_wrongAt_d131 : decode J_HFinder_wrongAt.2.1 131 = .ok (.aload_n 0, 1) := by decide +kernel
theorem J_HFinder_wrongAt_d132 : decode J_HFinder_wrongAt.2.1 132 = .ok (.iload_n 1, 1) := by decide +kernel
theorem J_HFinder_wrongAt_d133 : decode J_HFinder_wrongAt.2.1 133 = .ok (.iload 10, 2) := by decide +kernel
theorem J_HFinder_wrongAt_d135 : decode J_HFinder_wrongAt.2.1 135 = .ok (.aload_n 0, 1) := by decide +kernel
theorem J_HFinder_wrongAt_d136 : decode J_HFinder_wrongAt.2.1 136 = .ok (.getfield 66, 3) := by decide +kernel
theorem J_HFinder_wrongAt_d139 : decode J_HFinder_wrongAt.2.1 139 = .ok (.imul, 1) := by decide +kernel
theorem J_HFinder_wrongAt_d140 : decode J_HFinder_wrongAt.2.1 140 = .ok (.iadd, 1) := by decide +kernel
theorem J_HFinder_wrongAt_d141 : decode J_HFinder_wrongAt.2.1 141 = .ok (.iload 8, 2) := by decide +kernel
theorem J_HFinder_wrongAt_d143 : decode J_HFinder_wrongAt.2.1 143 = .ok (.aload_n 0, 1) := by decide +kernel
theorem J_HFinder_wrongAt_d144 : decode J_HFinder_wrongAt.2.1 144 = .ok (.getfield 66, 3) := by decide +kernel
theorem J_HFinder_wrongAt_d147 : decode J_HFinder_wrongAt.2.1 147 = .ok (.invokevirtual 87, 3) := by decide +kernel
theorem J_HFinder_wrongAt_d150 : decode J_HFinder_wrongAt.2.1 150 = .ok (.aload_n 0, 1) := by decide +kernel
theorem J_HFinder_wrongAt_d151 : decode J_HFinder_wrongAt.2.1 151 = .ok (.iload 9, 2) := by decide +kernel
theorem J_HFinder_wrongAt_d153 : decode J_HFinder_wrongAt.2.1 153 = .ok (.iload_n 2, 1) := by decide +kernel
theorem J_HFinder_wrongAt_d154 : decode J_HFinder_wrongAt.2.1 154 = .ok (.iload 10, 2) := by decide +kernel
theorem J_HFinder_wrongAt_d156 : decode J_HFinder_wrongAt.2.1 156 = .ok (.aload_n 0, 1) := by decide +kernel
theorem J_HFinder_wrongAt_d157 : decode J_HFinder_wrongAt.2.1 157 = .ok (.getfield 66, 3) := by decide +kernel
theorem J_HFinder_wrongAt_d160 : decode J_HFinder_wrongAt.2.1 160 = .ok (.imul, 1) := by decide +kernel
theorem J_HFinder_wrongAt_d161 : decode J_HFinder_wrongAt.2.1 161 = .ok (.iadd, 1) := by decide +kernel
theorem J_HFinder_wrongAt_d162 : decode J_HFinder_wrongAt.2.1 162 = .ok (.aload_n 0, 1) := by decide +kernel
theorem J_HFinder_wrongAt_d163 : decode J_HFinder_wrongAt.2.1 163 = .ok (.getfield 66, 3) := by decide +kernel
theorem J_HFinder_wrongAt_d166 : decode J_HFinder_wrongAt.2.1 166 = .ok (.invokevirtual 87, 3) := by decide +kernel
theorem J_HFinder_wrongAt_d169 : decode J_HFinder_wrongAt.2.1 169 = .ok (.iadd, 1) := by decide +kernel
theorem J_HFinder_wrongAt_d170 : decode J_HFinder_wrongAt.2.1 170 = .ok (.istore 11, 2) := by decide +kernel
theorem J_HFinder_wrongAt_d172 : decode J_HFinder_wrongAt.2.1 172 = .ok (.iload 7, 2) := by decide +kernel
theorem J_HFinder_wrongAt_d174 : decode J_HFinder_wrongAt.2.1 174 = .ok (.iload 10, 2) := by decide +kernel
theorem J_HFinder_wrongAt_d176 : decode J_HFinder_wrongAt.2.1 176 = .ok (.iconst 2, 1) := by decide +kernel
theorem J_HFinder_wrongAt_d177 : decode J_HFinder_wrongAt.2.1 177 = .ok (.irem, 1) := by decide +kernel
theorem J_HFinder_wrongAt_d178 : decode J_HFinder_wrongAt.2.1 178 = .ok (.ifCond .ne 20, 3) := by decide +kernel
theorem J_HFinder_wrongAt_d181 : decode J_HFinder_wrongAt.2.1 181 = .ok (.iconst 2, 1) := by decide +kernel
theorem J_HFinder_wrongAt_d182 : decode J_HFinder_wrongAt.2.1 182 = .ok (.aload_n 0, 1) := by decide +kernel
theorem J_HFinder_wrongAt_d183 : decode J_HFinder_wrongAt.2.1 183 = .ok (.getfield 66, 3) := by decide +kernel
theorem J_HFinder_wrongAt_d186 : decode J_HFinder_wrongAt.2.1 186 = .ok (.imul, 1) := by decide +kernel
theorem J_HFinder_wrongAt_d187 : decode J_HFinder_wrongAt.2.1 187 = .ok (.aload_n 0, 1) := by decide +kernel
theorem J_HFinder_wrongAt_d188 : decode J_HFinder_wrongAt.2.1 188 = .ok (.getfield 66, 3) := by decide +kernel
theorem J_HFinder_wrongAt_d191 : decode J_HFinder_wrongAt.2.1 191 = .ok (.imul, 1) := by decide +kernel
theorem J_HFinder_wrongAt_d192 : decode J_HFinder_wrongAt.2.1 192 = .ok (.iload 11, 2) := by decide +kernel
theorem J_HFinder_wrongAt_d194 : decode J_HFinder_wrongAt.2.1 194 = .ok (.isub, 1) := by decide +kernel
theorem J_HFinder_wrongAt_d195 : decode J_HFinder_wrongAt.2.1 195 = .ok (.goto 5, 3) := by decide +kernel
theorem J_HFinder_wrongAt_d198 : decode J_HFinder_wrongAt.2.1 198 = .ok (.iload 11, 2) := by decide +kernel
theorem J_HFinder_wrongAt_d200 : decode J_HFinder_wrongAt.2.1 200 = .ok (.iadd, 1) := by decide +kernel
theorem J_HFinder_wrongAt_d201 : decode J_HFinder_wrongAt.2.1 201 = .ok (.istore 7, 2) := by decide +kernel
theorem J_HFinder_wrongAt_d203 : decode J_HFinder_wrongAt.2.1 203 = .ok (.iinc 10 1, 3) := by decide +kernel
theorem J_HFinder_wrongAt_d206 : decode J_HFinder_wrongAt.2.1 206 = .ok (.goto (-93), 3) := by decide +kernel
theorem J_HFinder_wrongAt_d209 : decode J_HFinder_wrongAt.2.1 209 = .ok (.iload 7, 2) := by decide +kernel
theorem J_HFinder_wrongAt_d211 : decode J_HFinder_wrongAt.2.1 211 = .ok (.ireturn, 1) := by decide +kernel
theorem f_HFinder_wrongAt_ok {L : Nat} {xs : Nat → Int32} {dep : Nat} {w : Bool} {p0 : Int32} {p1 : Int32} {p2 : Int32} {p3 : Int32} {p4 : Int32} {M : im_M} {Q : Int32 → Prop} (hM : lw_S w M) (h : ed (f_HFinder_wrongAt p0 p1 p2 p3 p4 M) Q) : ia (tb_G L xs) (dep + 1) J_HFinder_wrongAt (rpI M Q) (0, lv_args 0 [.ref 59, .int p0, .int p1, .int p2, .int p3, .int p4], [], M) := by
  have hS : im_St (tb_G L xs) (dep + 1) J_HFinder_wrongAt (ia (tb_G L xs) (dep + 1) J_HFinder_wrongAt (rpI M Q)) := ia_St
  unfold f_HFinder_wrongAt at h
  have l0 : im_lk (lv_args 0 [.ref 59, .int p0, .int p1, .int p2, .int p3, .int p4]) 0 = some (.ref 59) := rfl
  have l1 : im_lk (lv_args 0 [.ref 59, .int p0, .int p1, .int p2, .int p3, .int p4]) 1 = some (.int p0) := rfl
  have l2 : im_lk (lv_args 0 [.ref 59, .int p0, .int p1, .int p2, .int p3, .int p4]) 2 = some (.int p1) := rfl
  have l3 : im_lk (lv_args 0 [.ref 59, .int p0, .int p1, .int p2, .int p3, .int p4]) 3 = some (.int p2) := rfl
  have l4 : im_lk (lv_args 0 [.ref 59, .int p0, .int p1, .int p2, .int p3, .int p4]) 4 = some (.int p3) := rfl
  have l5 : im_lk (lv_args 0 [.ref 59, .int p0, .int p1, .int p2, .int p3, .int p4]) 5 = some (.int p4) := rfl
  refine iq_iload_n hS 1 J_HFinder_wrongAt_d0 l3 rfl ?_
  refine iq_bipush hS 3 J_HFinder_wrongAt_d1 (v := 7) (by decide +kernel) rfl ?_
  refine iq_isub hS 4 J_HFinder_wrongAt_d3 rfl ?_
  refine iq_aload_n hS 5 J_HFinder_wrongAt_d4 l0 rfl ?_
  refine iq_getI hS 8 J_HFinder_wrongAt_d5 lf_3_66 (Or.inl rfl) (ka_59 hM) rfl ?_
  refine iq_imul hS 9 J_HFinder_wrongAt_d8 rfl ?_
  refine iq_istore hS 11 J_HFinder_wrongAt_d9 (by decide) rfl ?_
  refine iq_iload hS 13 J_HFinder_wrongAt_d11 (lk_1i l5 (by decide)) rfl ?_
  refine iq_aload_n hS 14 J_HFinder_wrongAt_d13 (lk_1r l0 (by decide)) rfl ?_
  refine iq_getI hS 17 J_HFinder_wrongAt_d14 lf_3_66 (Or.inl rfl) (ka_59 hM) rfl ?_
  refine iq_aload_n hS 18 J_HFinder_wrongAt_d17 (lk_1r l0 (by decide)) rfl ?_
  refine iq_getI hS 21 J_HFinder_wrongAt_d18 lf_3_66 (Or.inl rfl) (ka_59 hM) rfl ?_
  refine iq_imul hS 22 J_HFinder_wrongAt_d21 rfl ?_
  refine iq_iadd hS 23 J_HFinder_wrongAt_d22 rfl ?_
  refine iq_aload_n hS 24 J_HFinder_wrongAt_d23 (lk_1r l0 (by decide)) rfl ?_
  refine iq_iload_n hS 25 J_HFinder_wrongAt_d24 (lk_1i l1 (by decide)) rfl ?_
  refine iq_aload_n hS 26 J_HFinder_wrongAt_d25 (lk_1r l0 (by decide)) rfl ?_
  refine iq_getI hS 29 J_HFinder_wrongAt_d26 lf_3_66 (Or.inl rfl) (ka_59 hM) rfl ?_
  refine iq_iload_n hS 30 J_HFinder_wrongAt_d29 (lk_1i l3 (by decide)) rfl ?_
  refine iq_iload hS 32 J_HFinder_wrongAt_d30 (lk_1i l4 (by decide)) rfl ?_
  obtain ⟨Q1, hQ1, h⟩ := bd1_ed h
  refine iq_cpI hS 35 J_HFinder_wrongAt_d32 rfl (pr_stat (vs := [_, _]) lc_3_131 lT_217 rfl rfl (by decide) rfl (Nat.le_of_ble_eq_true rfl) (Nat.le_of_ble_eq_true rfl)) (f_HFinder_loneX_ok (dep := dep + 0) hM h) rfl ?_
  intro x1 h
  replace h := hQ1 _ h
  refine iq_imul hS 36 J_HFinder_wrongAt_d35 rfl ?_
  refine iq_iadd hS 37 J_HFinder_wrongAt_d36 rfl ?_
  refine iq_iload_n hS 38 J_HFinder_wrongAt_d37 (lk_1i l2 (by decide)) rfl ?_
  refine iq_aload_n hS 39 J_HFinder_wrongAt_d38 (lk_1r l0 (by decide)) rfl ?_
  refine iq_getI hS 42 J_HFinder_wrongAt_d39 lf_3_66 (Or.inl rfl) (ka_59 hM) rfl ?_
  refine iq_iload_n hS 43 J_HFinder_wrongAt_d42 (lk_1i l3 (by decide)) rfl ?_
  refine iq_iload hS 45 J_HFinder_wrongAt_d43 (lk_1i l4 (by decide)) rfl ?_
  obtain ⟨Q2, hQ2, h⟩ := bd1_ed h
  refine iq_cpI hS 48 J_HFinder_wrongAt_d45 rfl (pr_stat (vs := [_, _]) lc_3_134 lT_218 rfl rfl (by decide) rfl (Nat.le_of_ble_eq_true rfl) (Nat.le_of_ble_eq_true rfl)) (f_HFinder_loneY_ok (dep := dep + 0) hM h) rfl ?_
  intro x2 h
  replace h := hQ2 _ h
  refine iq_imul hS 49 J_HFinder_wrongAt_d48 rfl ?_
  refine iq_iadd hS 50 J_HFinder_wrongAt_d49 rfl ?_
  refine iq_aload_n hS 51 J_HFinder_wrongAt_d50 (lk_1r l0 (by decide)) rfl ?_
  refine iq_getI hS 54 J_HFinder_wrongAt_d51 lf_3_66 (Or.inl rfl) (ka_59 hM) rfl ?_
  obtain ⟨Q3, hQ3, h⟩ := bd1_ed h
  refine iq_cpI hS 57 J_HFinder_wrongAt_d54 rfl (pr_inst (vs := [_, _, _]) lc_3_87 lT_206 rfl rfl (by decide) (by decide) rfl (Nat.le_of_ble_eq_true rfl) (Nat.le_of_ble_eq_true rfl) (fun _ => Or.inl (pr_b (ka_59 hM) (by decide) rfl))) (f_HFinder_darkIn_ok (dep := dep + 0) hM h) rfl ?_
  intro x3 h
  replace h := hQ3 _ h
  refine iq_isub hS 58 J_HFinder_wrongAt_d57 rfl ?_
  refine iq_istore hS 60 J_HFinder_wrongAt_d58 (by decide) rfl ?_
  refine iq_iload_n hS 61 J_HFinder_wrongAt_d60 (lk_1i (lk_1i l2 (by decide)) (by decide)) rfl ?_
  refine iq_iload hS 63 J_HFinder_wrongAt_d61 (lk_1i (lk_1i l4 (by decide)) (by decide)) rfl ?_
  refine iq_iconst hS 64 J_HFinder_wrongAt_d63 (v := 2) (by decide +kernel) rfl ?_
  have J4 : ∀ (z5 : Int32) (L' : List (Nat × Value)), z5 = ((if 2 ≤ p3 then ((p2 - 7) * (im_i M 59 9)) else ((6 : Int32) * (im_i M 59 9))) : Int32) → im_lk L' 0 = some (.ref 59) → im_lk L' 1 = some (.int p0) → im_lk L' 2 = some (.int p1) → im_lk L' 3 = some (.int p2) → im_lk L' 4 = some (.int p3) → im_lk L' 6 = some (.int ((p2 - 7) * (im_i M 59 9))) → im_lk L' 7 = some (.int ((p4 + ((im_i M 59 9) * (im_i M 59 9))) - x3)) → ia (tb_G L xs) (dep + 1) J_HFinder_wrongAt (rpI M Q) (79, L', [.int z5, .int p1], M) := by
    intro z5 L' e6 l7 l8 l9 l10 l11 l12 l13
    subst e6
    refine iq_iadd hS 80 J_HFinder_wrongAt_d79 rfl ?_
    refine iq_istore hS 82 J_HFinder_wrongAt_d80 (by decide) rfl ?_
    refine iq_iload_n hS 83 J_HFinder_wrongAt_d82 (lk_1i l8 (by decide)) rfl ?_
    refine iq_iload hS 85 J_HFinder_wrongAt_d83 (lk_1i l11 (by decide)) rfl ?_
    have J14 : ∀ (z15 : Int32) (L' : List (Nat × Value)), z15 = ((if p3 = 0 then ((6 : Int32) * (im_i M 59 9)) else (if ¬ p3 = 3 then ((p2 - 7) * (im_i M 59 9)) else ((6 : Int32) * (im_i M 59 9)))) : Int32) → im_lk L' 0 = some (.ref 59) → im_lk L' 1 = some (.int p0) → im_lk L' 2 = some (.int p1) → im_lk L' 3 = some (.int p2) → im_lk L' 7 = some (.int ((p4 + ((im_i M 59 9) * (im_i M 59 9))) - x3)) → im_lk L' 8 = some (.int (p1 + ((if 2 ≤ p3 then ((p2 - 7) * (im_i M 59 9)) else ((6 : Int32) * (im_i M 59 9))) : Int32))) → ia (tb_G L xs) (dep + 1) J_HFinder_wrongAt (rpI M Q) (106, L', [.int z15, .int p0], M) := by
      intro z15 L' e16 l17 l18 l19 l20 l21 l22
      subst e16
      refine iq_iadd hS 107 J_HFinder_wrongAt_d106 rfl ?_
      refine iq_istore hS 109 J_HFinder_wrongAt_d107 (by decide) rfl ?_
      refine iq_bipush hS 111 J_HFinder_wrongAt_d109 (v := 8) (by decide +kernel) rfl ?_
      refine iq_istore hS 113 J_HFinder_wrongAt_d111 (by decide) rfl ?_
      obtain ⟨Q23, hQ23, h⟩ := bd1_ed h
      have K23 : ∀ (y24 : Int32) (L' : List (Nat × Value)), im_lk L' 7 = some (.int y24) → Q23 y24 → ia (tb_G L xs) (dep + 1) J_HFinder_wrongAt (rpI M Q) (209, L', [], M) := by
        intro y24 L' l25 h
        replace h := hQ23 _ h
        refine iq_iload hS 211 J_HFinder_wrongAt_d209 l25 rfl ?_
        exact iq_iret J_HFinder_wrongAt_d211 rfl rfl ⟨_, rfl, rfl, ed_some h⟩
      obtain ⟨r23, hr23, hq23⟩ := h
      obtain ⟨n23, hn23⟩ := lp_n hr23
      have I23 : ∀ (n : Nat) (x26 : Int32) (x27 : Int32) (L' : List (Nat × Value)), im_lk L' 0 = some (.ref 59) → im_lk L' 1 = some (.int p0) → im_lk L' 2 = some (.int p1) → im_lk L' 3 = some (.int p2) → im_lk L' 7 = some (.int x26) → im_lk L' 8 = some (.int (p1 + ((if 2 ≤ p3 then ((p2 - 7) * (im_i M 59 9)) else ((6 : Int32) * (im_i M 59 9))) : Int32))) → im_lk L' 9 = some (.int (p0 + ((if p3 = 0 then ((6 : Int32) * (im_i M 59 9)) else (if ¬ p3 = 3 then ((p2 - 7) * (im_i M 59 9)) else ((6 : Int32) * (im_i M 59 9)))) : Int32))) → im_lk L' 10 = some (.int x27) → lpn (uc2 (f_HFinder_wrongAt_L113 p0 p1 p2 (p1 + ((if 2 ≤ p3 then ((p2 - 7) * (im_i M 59 9)) else ((6 : Int32) * (im_i M 59 9))) : Int32)) (p0 + ((if p3 = 0 then ((6 : Int32) * (im_i M 59 9)) else (if ¬ p3 = 3 then ((p2 - 7) * (im_i M 59 9)) else ((6 : Int32) * (im_i M 59 9)))) : Int32)) M)) n (x26, x27) = some r23 → ia (tb_G L xs) (dep + 1) J_HFinder_wrongAt (rpI M Q) (113, L', [], M) := by
        intro n
        induction n with
        | zero => intro x26 x27 L' l28 l29 l30 l31 l32 l33 l34 l35 hn; exact (lpn_0 hn).elim
        | succ n ih =>
          intro x26 x27 L' l28 l29 l30 l31 l32 l33 l34 l35 hn
          have h := lpn_ed2 hn
          unfold f_HFinder_wrongAt_L113 at h
          refine iq_iload hS 115 J_HFinder_wrongAt_d113 l35 rfl ?_
          refine iq_iload_n hS 116 J_HFinder_wrongAt_d115 l31 rfl ?_
          refine iq_bipush hS 118 J_HFinder_wrongAt_d116 (v := 9) (by decide +kernel) rfl ?_
          refine iq_isub hS 119 J_HFinder_wrongAt_d118 rfl ?_
          refine iq_icmp_gt hS 122 J_HFinder_wrongAt_d119 (t := 209) rfl (fun q119 => ?_) rfl (fun q119 => ?_)
          · replace h := ed_pos q119 h
            exact K23 _ _ l32 (lq_r h hq23)
          · replace h := ed_neg q119 h
            refine iq_iload hS 124 J_HFinder_wrongAt_d122 l32 rfl ?_
            refine iq_aload_n hS 125 J_HFinder_wrongAt_d124 l28 rfl ?_
            refine iq_getI hS 128 J_HFinder_wrongAt_d125 lf_3_48 (Or.inl rfl) (ka_59 hM) rfl ?_
            refine iq_icmp_gt hS 131 J_HFinder_wrongAt_d128 (t := 209) rfl (fun q128 => ?_) rfl (fun q128 => ?_)
            · replace h := ed_pos q128 h
              exact K23 _ _ l32 (lq_r h hq23)
            · replace h := ed_neg q128 h
              refine iq_aload_n hS 132 J_HFinder_wrongAt_d131 l28 rfl ?_
              refine iq_iload_n hS 133 J_HFinder_wrongAt_d132 l29 rfl ?_
              refine iq_iload hS 135 J_HFinder_wrongAt_d133 l35 rfl ?_
              refine iq_aload_n hS 136 J_HFinder_wrongAt_d135 l28 rfl ?_
              refine iq_getI hS 139 J_HFinder_wrongAt_d136 lf_3_66 (Or.inl rfl) (ka_59 hM) rfl ?_
              refine iq_imul hS 140 J_HFinder_wrongAt_d139 rfl ?_
              refine iq_iadd hS 141 J_HFinder_wrongAt_d140 rfl ?_
              refine iq_iload hS 143 J_HFinder_wrongAt_d141 l33 rfl ?_
              refine iq_aload_n hS 144 J_HFinder_wrongAt_d143 l28 rfl ?_
              refine iq_getI hS 147 J_HFinder_wrongAt_d144 lf_3_66 (Or.inl rfl) (ka_59 hM) rfl ?_
              obtain ⟨Q36, hQ36, h⟩ := bd1_ed h
              refine iq_cpI hS 150 J_HFinder_wrongAt_d147 rfl (pr_inst (vs := [_, _, _]) lc_3_87 lT_206 rfl rfl (by decide) (by decide) rfl (Nat.le_of_ble_eq_true rfl) (Nat.le_of_ble_eq_true rfl) (fun _ => Or.inl (pr_b (ka_59 hM) (by decide) rfl))) (f_HFinder_darkIn_ok (dep := dep + 0) hM h) rfl ?_
              intro x36 h
              replace h := hQ36 _ h
              refine iq_aload_n hS 151 J_HFinder_wrongAt_d150 l28 rfl ?_
              refine iq_iload hS 153 J_HFinder_wrongAt_d151 l34 rfl ?_
              refine iq_iload_n hS 154 J_HFinder_wrongAt_d153 l30 rfl ?_
              refine iq_iload hS 156 J_HFinder_wrongAt_d154 l35 rfl ?_
              refine iq_aload_n hS 157 J_HFinder_wrongAt_d156 l28 rfl ?_
              refine iq_getI hS 160 J_HFinder_wrongAt_d157 lf_3_66 (Or.inl rfl) (ka_59 hM) rfl ?_
              refine iq_imul hS 161 J_HFinder_wrongAt_d160 rfl ?_
              refine iq_iadd hS 162 J_HFinder_wrongAt_d161 rfl ?_
              refine iq_aload_n hS 163 J_HFinder_wrongAt_d162 l28 rfl ?_
              refine iq_getI hS 166 J_HFinder_wrongAt_d163 lf_3_66 (Or.inl rfl) (ka_59 hM) rfl ?_
              obtain ⟨Q37, hQ37, h⟩ := bd1_ed h
              refine iq_cpI hS 169 J_HFinder_wrongAt_d166 rfl (pr_inst (vs := [_, _, _]) lc_3_87 lT_206 rfl rfl (by decide) (by decide) rfl (Nat.le_of_ble_eq_true rfl) (Nat.le_of_ble_eq_true rfl) (fun _ => Or.inl (pr_b (ka_59 hM) (by decide) rfl))) (f_HFinder_darkIn_ok (dep := dep + 0) hM h) rfl ?_
              intro x37 h
              replace h := hQ37 _ h
              refine iq_iadd hS 170 J_HFinder_wrongAt_d169 rfl ?_
              refine iq_istore hS 172 J_HFinder_wrongAt_d170 (by decide) rfl ?_
              refine iq_iload hS 174 J_HFinder_wrongAt_d172 (lk_1i l32 (by decide)) rfl ?_
              refine iq_iload hS 176 J_HFinder_wrongAt_d174 (lk_1i l35 (by decide)) rfl ?_
              refine iq_iconst hS 177 J_HFinder_wrongAt_d176 (v := 2) (by decide +kernel) rfl ?_
              refine iq_irem hS 178 J_HFinder_wrongAt_d177 (by decide) rfl ?_
              have J38 : ∀ (z39 : Int32) (L' : List (Nat × Value)), z39 = ((if ¬ (x27 - x27 / 2 * 2) = 0 then (x36 + x37) else ((((2 : Int32) * (im_i M 59 9)) * (im_i M 59 9)) - (x36 + x37))) : Int32) → im_lk L' 0 = some (.ref 59) → im_lk L' 1 = some (.int p0) → im_lk L' 2 = some (.int p1) → im_lk L' 3 = some (.int p2) → im_lk L' 8 = some (.int (p1 + ((if 2 ≤ p3 then ((p2 - 7) * (im_i M 59 9)) else ((6 : Int32) * (im_i M 59 9))) : Int32))) → im_lk L' 9 = some (.int (p0 + ((if p3 = 0 then ((6 : Int32) * (im_i M 59 9)) else (if ¬ p3 = 3 then ((p2 - 7) * (im_i M 59 9)) else ((6 : Int32) * (im_i M 59 9)))) : Int32))) → im_lk L' 10 = some (.int x27) → ia (tb_G L xs) (dep + 1) J_HFinder_wrongAt (rpI M Q) (200, L', [.int z39, .int x26], M) := by
                intro z39 L' e40 l41 l42 l43 l44 l45 l46 l47
                subst e40
                refine iq_iadd hS 201 J_HFinder_wrongAt_d200 rfl ?_
                refine iq_istore hS 203 J_HFinder_wrongAt_d201 (by decide) rfl ?_
                refine iq_iincv hS 206 J_HFinder_wrongAt_d203 (c := 1) (by decide +kernel) (lk_1i l47 (by decide)) (by decide) rfl ?_
                refine iq_goto hS J_HFinder_wrongAt_d206 (t := 113) rfl ?_
                exact ih _ _ _ (lk_1r (lk_1r l41 (by decide)) (by decide)) (lk_1i (lk_1i l42 (by decide)) (by decide)) (lk_1i (lk_1i l43 (by decide)) (by decide)) (lk_1i (lk_1i l44 (by decide)) (by decide)) (lk_1i lk_1s (by decide)) (lk_1i (lk_1i l45 (by decide)) (by decide)) (lk_1i (lk_1i l46 (by decide)) (by decide)) lk_1s (lq_l h)
              refine iq_if_ne hS 181 J_HFinder_wrongAt_d178 (t := 198) rfl (fun q178 => ?_) rfl (fun q178 => ?_)
              · refine iq_iload hS 200 J_HFinder_wrongAt_d198 lk_1s rfl ?_
                exact J38 _ _ (by simp only [if_pos q178]) (lk_1r l28 (by decide)) (lk_1i l29 (by decide)) (lk_1i l30 (by decide)) (lk_1i l31 (by decide)) (lk_1i l33 (by decide)) (lk_1i l34 (by decide)) (lk_1i l35 (by decide))
              · refine iq_iconst hS 182 J_HFinder_wrongAt_d181 (v := 2) (by decide +kernel) rfl ?_
                refine iq_aload_n hS 183 J_HFinder_wrongAt_d182 (lk_1r l28 (by decide)) rfl ?_
                refine iq_getI hS 186 J_HFinder_wrongAt_d183 lf_3_66 (Or.inl rfl) (ka_59 hM) rfl ?_
                refine iq_imul hS 187 J_HFinder_wrongAt_d186 rfl ?_
                refine iq_aload_n hS 188 J_HFinder_wrongAt_d187 (lk_1r l28 (by decide)) rfl ?_
                refine iq_getI hS 191 J_HFinder_wrongAt_d188 lf_3_66 (Or.inl rfl) (ka_59 hM) rfl ?_
                refine iq_imul hS 192 J_HFinder_wrongAt_d191 rfl ?_
                refine iq_iload hS 194 J_HFinder_wrongAt_d192 lk_1s rfl ?_
                refine iq_isub hS 195 J_HFinder_wrongAt_d194 rfl ?_
                refine iq_goto hS J_HFinder_wrongAt_d195 (t := 200) rfl ?_
                exact J38 _ _ (by simp only [if_neg q178]) (lk_1r l28 (by decide)) (lk_1i l29 (by decide)) (lk_1i l30 (by decide)) (lk_1i l31 (by decide)) (lk_1i l33 (by decide)) (lk_1i l34 (by decide)) (lk_1i l35 (by decide))
      exact I23 n23 _ _ _ (lk_1r (lk_1r l17 (by decide)) (by decide)) (lk_1i (lk_1i l18 (by decide)) (by decide)) (lk_1i (lk_1i l19 (by decide)) (by decide)) (lk_1i (lk_1i l20 (by decide)) (by decide)) (lk_1i (lk_1i l21 (by decide)) (by decide)) (lk_1i (lk_1i l22 (by decide)) (by decide)) (lk_1i lk_1s (by decide)) lk_1s hn23
    refine iq_if_eq hS 88 J_HFinder_wrongAt_d85 (t := 94) rfl (fun q85 => ?_) rfl (fun q85 => ?_)
    · refine iq_bipush hS 96 J_HFinder_wrongAt_d94 (v := 6) (by decide +kernel) rfl ?_
      refine iq_aload_n hS 97 J_HFinder_wrongAt_d96 (lk_1r l7 (by decide)) rfl ?_
      refine iq_getI hS 100 J_HFinder_wrongAt_d97 lf_3_66 (Or.inl rfl) (ka_59 hM) rfl ?_
      refine iq_imul hS 101 J_HFinder_wrongAt_d100 rfl ?_
      refine iq_goto hS J_HFinder_wrongAt_d101 (t := 106) rfl ?_
      exact J14 _ _ (by simp only [if_pos q85]) (lk_1r l7 (by decide)) (lk_1i l8 (by decide)) (lk_1i l9 (by decide)) (lk_1i l10 (by decide)) (lk_1i l13 (by decide)) lk_1s
    · refine iq_iload hS 90 J_HFinder_wrongAt_d88 (lk_1i l11 (by decide)) rfl ?_
      refine iq_iconst hS 91 J_HFinder_wrongAt_d90 (v := 3) (by decide +kernel) rfl ?_
      refine iq_icmp_ne hS 94 J_HFinder_wrongAt_d91 (t := 104) rfl (fun q91 => ?_) rfl (fun q91 => ?_)
      · refine iq_iload hS 106 J_HFinder_wrongAt_d104 (lk_1i l12 (by decide)) rfl ?_
        exact J14 _ _ (by simp only [if_neg q85, if_pos q91]) (lk_1r l7 (by decide)) (lk_1i l8 (by decide)) (lk_1i l9 (by decide)) (lk_1i l10 (by decide)) (lk_1i l13 (by decide)) lk_1s
      · refine iq_bipush hS 96 J_HFinder_wrongAt_d94 (v := 6) (by decide +kernel) rfl ?_
        refine iq_aload_n hS 97 J_HFinder_wrongAt_d96 (lk_1r l7 (by decide)) rfl ?_
        refine iq_getI hS 100 J_HFinder_wrongAt_d97 lf_3_66 (Or.inl rfl) (ka_59 hM) rfl ?_
        refine iq_imul hS 101 J_HFinder_wrongAt_d100 rfl ?_
        refine iq_goto hS J_HFinder_wrongAt_d101 (t := 106) rfl ?_
        exact J14 _ _ (by simp only [if_neg q85, if_neg q91]) (lk_1r l7 (by decide)) (lk_1i l8 (by decide)) (lk_1i l9 (by decide)) (lk_1i l10 (by decide)) (lk_1i l13 (by decide)) lk_1s
  refine iq_icmp_ge hS 67 J_HFinder_wrongAt_d64 (t := 77) rfl (fun q64 => ?_) rfl (fun q64 => ?_)
  · refine iq_iload hS 79 J_HFinder_wrongAt_d77 (lk_1i lk_1s (by decide)) rfl ?_
    exact J4 _ _ (by simp only [if_pos q64]) (lk_1r (lk_1r l0 (by decide)) (by decide)) (lk_1i (lk_1i l1 (by decide)) (by decide)) (lk_1i (lk_1i l2 (by decide)) (by decide)) (lk_1i (lk_1i l3 (by decide)) (by decide)) (lk_1i (lk_1i l4 (by decide)) (by decide)) (lk_1i lk_1s (by decide)) lk_1s
  · refine iq_bipush hS 69 J_HFinder_wrongAt_d67 (v := 6) (by decide +kernel) rfl ?_
    refine iq_aload_n hS 70 J_HFinder_wrongAt_d69 (lk_1r (lk_1r l0 (by decide)) (by decide)) rfl ?_
    refine iq_getI hS 73 J_HFinder_wrongAt_d70 lf_3_66 (Or.inl rfl) (ka_59 hM) rfl ?_
    refine iq_imul hS 74 J_HFinder_wrongAt_d73 rfl ?_
    refine iq_goto hS J_HFinder_wrongAt_d74 (t := 79) rfl ?_
    exact J4 _ _ (by simp only [if_neg q64]) (lk_1r (lk_1r l0 (by decide)) (by decide)) (lk_1i (lk_1i l1 (by decide)) (by decide)) (lk_1i (lk_1i l2 (by decide)) (by decide)) (lk_1i (lk_1i l3 (by decide)) (by decide)) (lk_1i (lk_1i l4 (by decide)) (by decide)) (lk_1i lk_1s (by decide)) lk_1s
noncomputable def f_HFinder_add_L54 (v2 : Int32) (v3 : Int64) (x4 : Int32) (M5 : im_M) : Option ((Int32 × im_M) ⊕ (Int32 × im_M)) := if x4 ≤ 0 then some (.inr (x4, M5)) else gd (inb (x4 - 1) 300) <| if (lg_cmp (im_l M5 62 (Int32.toNatClampNeg (x4 - 1))) v3) ≤ 0 then some (.inr (x4, M5)) else gd (inb (x4 - 1) 300) <| gd (inb x4 300) <| gd (inb (x4 - 1) 300) <| gd (inb x4 300) <| some (.inl ((x4 + (-1)), (im_setI (im_setL M5 62 (Int32.toNatClampNeg x4) (im_l M5 62 (Int32.toNatClampNeg (x4 - 1)))) 63 (Int32.toNatClampNeg x4) (im_i (im_setL M5 62 (Int32.toNatClampNeg x4) (im_l M5 62 (Int32.toNatClampNeg (x4 - 1)))) 63 (Int32.toNatClampNeg (x4 - 1))))))
noncomputable def f_HFinder_add (p0 : Int32) (p1 : Int32) (p2 : Int32) (p3 : Int32) (p4 : Int32) (M : im_M) : Option (Int32 × im_M) := if ¬ (im_i M 59 8) = 300 then bd2 (lp (uc2 (f_HFinder_add_L54 p4 (((((((((Int32.toInt64 p1) * 512) + (Int32.toInt64 p0)) * 32) + (Int32.toInt64 (im_i M 59 9))) * 64) + (Int32.toInt64 p2)) * 4) + (Int32.toInt64 p3)))) ((im_i M 59 8), M)) fun (y6 : Int32) (M7 : im_M) => gd (inb y6 300) <| gd (inb y6 300) <| some (1, (im_setI (im_setI (im_setL M7 62 (Int32.toNatClampNeg y6) (((((((((Int32.toInt64 p1) * 512) + (Int32.toInt64 p0)) * 32) + (Int32.toInt64 (im_i M 59 9))) * 64) + (Int32.toInt64 p2)) * 4) + (Int32.toInt64 p3))) 63 (Int32.toNatClampNeg y6) p4) 59 8 ((im_i (im_setI (im_setL M7 62 (Int32.toNatClampNeg y6) (((((((((Int32.toInt64 p1) * 512) + (Int32.toInt64 p0)) * 32) + (Int32.toInt64 (im_i M 59 9))) * 64) + (Int32.toInt64 p2)) * 4) + (Int32.toInt64 p3))) 63 (Int32.toNatClampNeg y6) p4) 59 8) + 1))) else some (0, M)
theorem J_HFinder_add_d0 : decode J_HFinder_add.2.1 0 = .ok (.aload_n 0, 1) := by decide +kernel
theorem J_HFinder_add_d1 : decode J_HFinder_add.2.1 1 = .ok (.getfield 45, 3) := by decide +kernel
theorem J_HFinder_add_d4 : decode J_HFinder_add.2.1 4 = .ok (.sipush 300, 3) := by decide +kernel
theorem J_HFinder_add_d7 : decode J_HFinder_add.2.1 7 = .ok (.if_icmp .ne 5, 3) := by decide +kernel
theorem J_HFinder_add_d10 : decode J_HFinder_add.2.1 10 = .ok (.iconst 0, 1) := by decide +kernel
theorem J_HFinder_add_d11 : decode J_HFinder_add.2.1 11 = .ok (.ireturn, 1) := by decide +kernel
theorem J_HFinder_add_d12 : decode J_HFinder_add.2.1 12 = .ok (.iload_n 2, 1) := by decide +kernel
theorem J_HFinder_add_d13 : decode J_HFinder_add.2.1 13 = .ok (.i2l, 1) := by decide +kernel
theorem J_HFinder_add_d14 : decode J_HFinder_add.2.1 14 = .ok (.ldc2_w 137, 3) := by decide +kernel
theorem J_HFinder_add_d17 : decode J_HFinder_add.2.1 17 = .ok (.lmul, 1) := by decide +kernel
theorem J_HFinder_add_d18 : decode J_HFinder_add.2.1 18 = .ok (.iload_n 1, 1) := by decide +kernel
theorem J_HFinder_add_d19 : decode J_HFinder_add.2.1 19 = .ok (.i2l, 1) := by decide +kernel
theorem J_HFinder_add_d20 : decode J_HFinder_add.2.1 20 = .ok (.ladd, 1) := by decide +kernel
theorem J_HFinder_add_d21 : decode J_HFinder_add.2.1 21 = .ok (.ldc2_w 139, 3) := by decide +kernel
theorem J_HFinder_add_d24 : decode J_HFinder_add.2.1 24 = .ok (.lmul, 1) := by decide +kernel
theorem J_HFinder_add_d25 : decode J_HFinder_add.2.1 25 = .ok (.aload_n 0, 1) := by decide +kernel
theorem J_HFinder_add_d26 : decode J_HFinder_add.2.1 26 = .ok (.getfield 66, 3) := by decide +kernel
theorem J_HFinder_add_d29 : decode J_HFinder_add.2.1 29 = .ok (.i2l, 1) := by decide +kernel
theorem J_HFinder_add_d30 : decode J_HFinder_add.2.1 30 = .ok (.ladd, 1) := by decide +kernel
theorem J_HFinder_add_d31 : decode J_HFinder_add.2.1 31 = .ok (.ldc2_w 141, 3) := by decide +kernel
theorem J_HFinder_add_d34 : decode J_HFinder_add.2.1 34 = .ok (.lmul, 1) := by decide +kernel
theorem J_HFinder_add_d35 : decode J_HFinder_add.2.1 35 = .ok (.iload_n 3, 1) := by decide +kernel
theorem J_HFinder_add_d36 : decode J_HFinder_add.2.1 36 = .ok (.i2l, 1) := by decide +kernel
theorem J_HFinder_add_d37 : decode J_HFinder_add.2.1 37 = .ok (.ladd, 1) := by decide +kernel
theorem J_HFinder_add_d38 : decode J_HFinder_add.2.1 38 = .ok (.ldc2_w 143, 3) := by decide +kernel
theorem J_HFinder_add_d41 : decode J_HFinder_add.2.1 41 = .ok (.lmul, 1) := by decide +kernel
theorem J_HFinder_add_d42 : decode J_HFinder_add.2.1 42 = .ok (.iload 4, 2) := by decide +kernel
theorem J_HFinder_add_d44 : decode J_HFinder_add.2.1 44 = .ok (.i2l, 1) := by decide +kernel
theorem J_HFinder_add_d45 : decode J_HFinder_add.2.1 45 = .ok (.ladd, 1) := by decide +kernel
theorem J_HFinder_add_d46 : decode J_HFinder_add.2.1 46 = .ok (.lstore 6, 2) := by decide +kernel
theorem J_HFinder_add_d48 : decode J_HFinder_add.2.1 48 = .ok (.aload_n 0, 1) := by decide +kernel
theorem J_HFinder_add_d49 : decode J_HFinder_add.2.1 49 = .ok (.getfield 45, 3) := by decide +kernel
theorem J_HFinder_add_d52 : decode J_HFinder_add.2.1 52 = .ok (.istore 8, 2) := by decide +kernel
theorem J_HFinder_add_d54 : decode J_HFinder_add.2.1 54 = .ok (.iload 8, 2) := by decide +kernel
theorem J_HFinder_add_d56 : decode J_HFinder_add.2.1 56 = .ok (.ifCond .le 56, 3) := by decide +kernel
theorem J_HFinder_add_d59 : decode J_HFinder_add.2.1 59 = .ok (.aload_n 0, 1) := by decide +kernel
theorem J_HFinder_add_d60 : decode J_HFinder_add.2.1 60 = .ok (.getfield 23, 3) := by decide +kernel
theorem J_HFinder_add_d63 : decode J_HFinder_add.2.1 63 = .ok (.iload 8, 2) := by decide +kernel
theorem J_HFinder_add_d65 : decode J_HFinder_add.2.1 65 = .ok (.iconst 1, 1) := by decide +kernel
theorem J_HFinder_add_d66 : decode J_HFinder_add.2.1 66 = .ok (.isub, 1) := by decide +kernel
theorem J_HFinder_add_d67 : decode J_HFinder_add.2.1 67 = .ok (.laload, 1) := by decide +kernel
theorem J_HFinder_add_d68 : decode J_HFinder_add.2.1 68 = .ok (.lload 6, 2) := by decide +kernel
theorem J_HFinder_add_d70 : decode J_HFinder_add.2.1 70 = .ok (.lcmp, 1) := by decide +kernel
theorem J_HFinder_add_d71 : decode J_HFinder_add.2.1 71 = .ok (.ifCond .le 41, 3) := by decide +kernel
theorem J_HFinder_add_d74 : decode J_HFinder_add.2.1 74 = .ok (.aload_n 0, 1) := by decide +kernel
theorem J_HFinder_add_d75 : decode J_HFinder_add.2.1 75 = .ok (.getfield 23, 3) := by decide +kernel
theorem J_HFinder_add_d78 : decode J_HFinder_add.2.1 78 = .ok (.iload 8, 2) := by decide +kernel
theorem J_HFinder_add_d80 : decode J_HFinder_add.2.1 80 = .ok (.aload_n 0, 1) := by decide +kernel
theorem J_HFinder_add_d81 : decode J_HFinder_add.2.1 81 = .ok (.getfield 23, 3) := by decide +kernel
theorem J_HFinder_add_d84 : decode J_HFinder_add.2.1 84 = .ok (.iload 8, 2) := by decide +kernel
theorem J_HFinder_add_d86 : decode J_HFinder_add.2.1 86 = .ok (.iconst 1, 1) := by decide +kernel
theorem J_HFinder_add_d87 : decode J_HFinder_add.2.1 87 = .ok (.isub, 1) := by decide +kernel
theorem J_HFinder_add_d88 : decode J_HFinder_add.2.1 88 = .ok (.laload, 1) := by decide +kernel
theorem J_HFinder_add_d89 : decode J_HFinder_add.2.1 89 = .ok (.lastore, 1) := by decide +kernel
theorem J_HFinder_add_d90 : decode J_HFinder_add.2.1 90 = .ok (.aload_n 0, 1) := by decide +kernel
theorem J_HFinder_add_d91 : decode J_HFinder_add.2.1 91 = .ok (.getfield 27, 3) := by decide +kernel
theorem J_HFinder_add_d94 : decode J_HFinder_add.2.1 94 = .ok (.iload 8, 2) := by decide +kernel
theorem J_HFinder_add_d96 : decode J_HFinder_add.2.1 96 = .ok (.aload_n 0, 1) := by decide +kernel
theorem J_HFinder_add_d97 : decode J_HFinder_add.2.1 97 = .ok (.getfield 27, 3) := by decide +kernel
theorem J_HFinder_add_d100 : decode J_HFinder_add.2.1 100 = .ok (.iload 8, 2) := by decide +kernel
theorem J_HFinder_add_d102 : decode J_HFinder_add.2.1 102 = .ok (.iconst 1, 1) := by decide +kernel
theorem J_HFinder_add_d103 : decode J_HFinder_add.2.1 103 = .ok (.isub, 1) := by decide +kernel
theorem J_HFinder_add_d104 : decode J_HFinder_add.2.1 104 = .ok (.iaload, 1) := by decide +kernel
theorem J_HFinder_add_d105 : decode J_HFinder_add.2.1 105 = .ok (.iastore, 1) := by decide +kernel
theorem J_HFinder_add_d106 : decode J_HFinder_add.2.1 106 = .ok (.iinc 8 (-1), 3) := by decide +kernel
theorem J_HFinder_add_d109 : decode J_HFinder_add.2.1 109 = .ok (.goto (-55), 3) := by decide +kernel
theorem J_HFinder_add_d112 : decode J_HFinder_add.2.1 112 = .ok (.aload_n 0, 1) := by decide +kernel
theorem J_HFinder_add_d113 : decode J_HFinder_add.2.1 113 = .ok (.getfield 23, 3) := by decide +kernel
theorem J_HFinder_add_d116 : decode J_HFinder_add.2.1 116 = .ok (.iload 8, 2) := by decide +kernel
theorem J_HFinder_add_d118 : decode J_HFinder_add.2.1 118 = .ok (.lload 6, 2) := by decide +kernel
theorem J_HFinder_add_d120 : decode J_HFinder_add.2.1 120 = .ok (.lastore, 1) := by decide +kernel
theorem J_HFinder_add_d121 : decode J_HFinder_add.2.1 121 = .ok (.aload_n 0, 1) := by decide +kernel
theorem J_HFinder_add_d122 : decode J_HFinder_add.2.1 122 = .ok (.getfield 27, 3) := by decide +kernel
theorem J_HFinder_add_d125 : decode J_HFinder_add.2.1 125 = .ok (.iload 8, 2) := by decide +kernel
theorem J_HFinder_add_d127 : decode J_HFinder_add.2.1 127 = .ok (.iload 5, 2) := by decide +kernel
theorem J_HFinder_add_d129 : decode J_HFinder_add.2.1 129 = .ok (.iastore, 1) := by decide +kernel
theorem J_HFinder_add_d130 : decode J_HFinder_add.2.1 130 = .ok (.aload_n 0, 1) := by decide +kernel
theorem J_HFinder_add_d131 : decode J_HFinder_add.2.1 131 = .ok (.dup, 1) := by decide +kernel
theorem J_HFinder_add_d132 : decode J_HFinder_add.2.1 132 = .ok (.getfield 45, 3) := by decide +kernel
theorem J_HFinder_add_d135 : decode J_HFinder_add.2.1 135 = .ok (.iconst 1, 1) := by decide +kernel
theorem J_HFinder_add_d136 : decode J_HFinder_add.2.1 136 = .ok (.iadd, 1) := by decide +kernel
theorem J_HFinder_add_d137 : decode J_HFinder_add.2.1 137 = .ok (.putfield 45, 3) := by decide +kernel
theorem J_HFinder_add_d140 : decode J_HFinder_add.2.1 140 = .ok (.iconst 1, 1) := by decide +kernel
theorem J_HFinder_add_d141 : decode J_HFinder_add.2.1 141 = .ok (.ireturn, 1) := by decide +kernel
theorem f_HFinder_add_ok {L : Nat} {xs : Nat → Int32} {dep : Nat} {w : Bool} {p0 : Int32} {p1 : Int32} {p2 : Int32} {p3 : Int32} {p4 : Int32} {M : im_M} {Q : Int32 × im_M → Prop} (hM : lw_S w M) (h : ed (f_HFinder_add p0 p1 p2 p3 p4 M) Q) : ia (tb_G L xs) dep J_HFinder_add (rwI w Q) (0, lv_args 0 [.ref 59, .int p0, .int p1, .int p2, .int p3, .int p4], [], M) := by
  have hS : im_St (tb_G L xs) dep J_HFinder_add (ia (tb_G L xs) dep J_HFinder_add (rwI w Q)) := ia_St
  unfold f_HFinder_add at h
  have l0 : im_lk (lv_args 0 [.ref 59, .int p0, .int p1, .int p2, .int p3, .int p4]) 0 = some (.ref 59) := rfl
  have l1 : im_lk (lv_args 0 [.ref 59, .int p0, .int p1, .int p2, .int p3, .int p4]) 1 = some (.int p0) := rfl
  have l2 : im_lk (lv_args 0 [.ref 59, .int p0, .int p1, .int p2, .int p3, .int p4]) 2 = some (.int p1) := rfl
  have l3 : im_lk (lv_args 0 [.ref 59, .int p0, .int p1, .int p2, .int p3, .int p4]) 3 = some (.int p2) := rfl
  have l4 : im_lk (lv_args 0 [.ref 59, .int p0, .int p1, .int p2, .int p3, .int p4]) 4 = some (.int p3) := rfl
  have l5 : im_lk (lv_args 0 [.ref 59, .int p0, .int p1, .int p2, .int p3, .int p4]) 5 = some (.int p4) := rfl
  refine iq_aload_n hS 1 J_HFinder_add_d0 l0 rfl ?_
  refine iq_getI hS 4 J_HFinder_add_d1 lf_3_45 (Or.inl rfl) (ka_59 hM) rfl ?_
  refine iq_sipush hS 7 J_HFinder_add_d4 (v := 300) (by decide +kernel) rfl ?_
  refine iq_icmp_ne hS 10 J_HFinder_add_d7 (t := 12) rfl (fun q7 => ?_) rfl (fun q7 => ?_)
  · replace h := ed_pos q7 h
    refine iq_iload_n hS 13 J_HFinder_add_d12 l2 rfl ?_
    refine iq_i2l hS 14 J_HFinder_add_d13 rfl ?_
    refine iq_ldc2_w hS 17 J_HFinder_add_d14 lk_3_137 rfl ?_
    refine iq_lmul hS 18 J_HFinder_add_d17 rfl ?_
    refine iq_iload_n hS 19 J_HFinder_add_d18 l1 rfl ?_
    refine iq_i2l hS 20 J_HFinder_add_d19 rfl ?_
    refine iq_ladd hS 21 J_HFinder_add_d20 rfl ?_
    refine iq_ldc2_w hS 24 J_HFinder_add_d21 lk_3_139 rfl ?_
    refine iq_lmul hS 25 J_HFinder_add_d24 rfl ?_
    refine iq_aload_n hS 26 J_HFinder_add_d25 l0 rfl ?_
    refine iq_getI hS 29 J_HFinder_add_d26 lf_3_66 (Or.inl rfl) (ka_59 hM) rfl ?_
    refine iq_i2l hS 30 J_HFinder_add_d29 rfl ?_
    refine iq_ladd hS 31 J_HFinder_add_d30 rfl ?_
    refine iq_ldc2_w hS 34 J_HFinder_add_d31 lk_3_141 rfl ?_
    refine iq_lmul hS 35 J_HFinder_add_d34 rfl ?_
    refine iq_iload_n hS 36 J_HFinder_add_d35 l3 rfl ?_
    refine iq_i2l hS 37 J_HFinder_add_d36 rfl ?_
    refine iq_ladd hS 38 J_HFinder_add_d37 rfl ?_
    refine iq_ldc2_w hS 41 J_HFinder_add_d38 lk_3_143 rfl ?_
    refine iq_lmul hS 42 J_HFinder_add_d41 rfl ?_
    refine iq_iload hS 44 J_HFinder_add_d42 l4 rfl ?_
    refine iq_i2l hS 45 J_HFinder_add_d44 rfl ?_
    refine iq_ladd hS 46 J_HFinder_add_d45 rfl ?_
    refine iq_lstore hS 48 J_HFinder_add_d46 (by decide) rfl ?_
    refine iq_aload_n hS 49 J_HFinder_add_d48 (lk_2r l0 (by decide) (by decide)) rfl ?_
    refine iq_getI hS 52 J_HFinder_add_d49 lf_3_45 (Or.inl rfl) (ka_59 hM) rfl ?_
    refine iq_istore hS 54 J_HFinder_add_d52 (by decide) rfl ?_
    obtain ⟨Q1, hQ1, h⟩ := bd2_ed h
    have K1 : ∀ (y2 : Int32) (M3 : im_M) (L' : List (Nat × Value)), lw_S w M3 → im_lk L' 0 = some (.ref 59) → im_lk L' 5 = some (.int p4) → im_lk L' 6 = some (.long (((((((((Int32.toInt64 p1) * 512) + (Int32.toInt64 p0)) * 32) + (Int32.toInt64 (im_i M 59 9))) * 64) + (Int32.toInt64 p2)) * 4) + (Int32.toInt64 p3))) → im_lk L' 8 = some (.int y2) → Q1 (y2, M3) → ia (tb_G L xs) dep J_HFinder_add (rwI w Q) (112, L', [], M3) := by
      intro y2 M3 L' hM3 l4 l5 l6 l7 h
      replace h := hQ1 _ _ h
      refine iq_aload_n hS 113 J_HFinder_add_d112 l4 rfl ?_
      refine iq_getR hS 116 J_HFinder_add_d113 lf_3_23 (Or.inr ⟨_, rfl⟩) (ka_59 hM3) (ra_59_4 hM3) rfl ?_
      refine iq_iload hS 118 J_HFinder_add_d116 l7 rfl ?_
      refine iq_lload hS 120 J_HFinder_add_d118 l6 rfl ?_
      obtain ⟨g120, h⟩ := ed_gd h
      refine iq_lastore hS 121 J_HFinder_add_d120 ⟨(ka_62 hM3).1, (ka_62 hM3).2, g120.1, ix_lt (kl_62 hM3) g120.2⟩ rfl ?_
      refine iq_aload_n hS 122 J_HFinder_add_d121 l4 rfl ?_
      refine iq_getR hS 125 J_HFinder_add_d122 lf_3_27 (Or.inr ⟨_, rfl⟩) (ka_59 (lw_sL hM3)) (ra_59_5 (lw_sL hM3)) rfl ?_
      refine iq_iload hS 127 J_HFinder_add_d125 l7 rfl ?_
      refine iq_iload hS 129 J_HFinder_add_d127 l5 rfl ?_
      obtain ⟨g129, h⟩ := ed_gd h
      refine iq_iastore hS 130 J_HFinder_add_d129 ⟨(ka_63 (lw_sL hM3)).1, (ka_63 (lw_sL hM3)).2, g129.1, ix_lt (kl_63 (lw_sL hM3)) g129.2⟩ rfl ?_
      refine iq_aload_n hS 131 J_HFinder_add_d130 l4 rfl ?_
      refine iq_dup hS 132 J_HFinder_add_d131 rfl rfl ?_
      refine iq_getI hS 135 J_HFinder_add_d132 lf_3_45 (Or.inl rfl) (ka_59 (lw_sI (lw_sL hM3))) rfl ?_
      refine iq_iconst hS 136 J_HFinder_add_d135 (v := 1) (by decide +kernel) rfl ?_
      refine iq_iadd hS 137 J_HFinder_add_d136 rfl ?_
      refine iq_putI hS 140 J_HFinder_add_d137 lf_3_45 (Or.inl rfl) rfl (ka_59 (lw_sI (lw_sL hM3))) rfl ?_
      refine iq_iconst hS 141 J_HFinder_add_d140 (v := 1) (by decide +kernel) rfl ?_
      exact iq_iret J_HFinder_add_d141 rfl rfl ⟨_, rfl, (lw_sI (lw_sI (lw_sL hM3))), ed_some h⟩
    obtain ⟨r1, hr1, hq1⟩ := h
    obtain ⟨n1, hn1⟩ := lp_n hr1
    have I1 : ∀ (n : Nat) (x8 : Int32) (M9 : im_M) (L' : List (Nat × Value)), lw_S w M9 → im_lk L' 0 = some (.ref 59) → im_lk L' 5 = some (.int p4) → im_lk L' 6 = some (.long (((((((((Int32.toInt64 p1) * 512) + (Int32.toInt64 p0)) * 32) + (Int32.toInt64 (im_i M 59 9))) * 64) + (Int32.toInt64 p2)) * 4) + (Int32.toInt64 p3))) → im_lk L' 8 = some (.int x8) → lpn (uc2 (f_HFinder_add_L54 p4 (((((((((Int32.toInt64 p1) * 512) + (Int32.toInt64 p0)) * 32) + (Int32.toInt64 (im_i M 59 9))) * 64) + (Int32.toInt64 p2)) * 4) + (Int32.toInt64 p3)))) n (x8, M9) = some r1 → ia (tb_G L xs) dep J_HFinder_add (rwI w Q) (54, L', [], M9) := by
      intro n
      induction n with
      | zero => intro x8 M9 L' hM9 l10 l11 l12 l13 hn; exact (lpn_0 hn).elim
      | succ n ih =>
        intro x8 M9 L' hM9 l10 l11 l12 l13 hn
        have h := lpn_ed2 hn
        unfold f_HFinder_add_L54 at h
        refine iq_iload hS 56 J_HFinder_add_d54 l13 rfl ?_
        refine iq_if_le hS 59 J_HFinder_add_d56 (t := 112) rfl (fun q56 => ?_) rfl (fun q56 => ?_)
        · replace h := ed_pos q56 h
          exact K1 _ _ _ hM9 l10 l11 l12 l13 (lq_r h hq1)
        · replace h := ed_neg q56 h
          refine iq_aload_n hS 60 J_HFinder_add_d59 l10 rfl ?_
          refine iq_getR hS 63 J_HFinder_add_d60 lf_3_23 (Or.inr ⟨_, rfl⟩) (ka_59 hM9) (ra_59_4 hM9) rfl ?_
          refine iq_iload hS 65 J_HFinder_add_d63 l13 rfl ?_
          refine iq_iconst hS 66 J_HFinder_add_d65 (v := 1) (by decide +kernel) rfl ?_
          refine iq_isub hS 67 J_HFinder_add_d66 rfl ?_
          obtain ⟨g67, h⟩ := ed_gd h
          refine iq_laload hS 68 J_HFinder_add_d67 ⟨(ka_62 hM9).1, (ka_62 hM9).2, g67.1, ix_lt (kl_62 hM9) g67.2⟩ rfl ?_
          refine iq_lload hS 70 J_HFinder_add_d68 l12 rfl ?_
          refine iq_lcmp hS 71 J_HFinder_add_d70 rfl ?_
          refine iq_if_le hS 74 J_HFinder_add_d71 (t := 112) rfl (fun q71 => ?_) rfl (fun q71 => ?_)
          · replace h := ed_pos q71 h
            exact K1 _ _ _ hM9 l10 l11 l12 l13 (lq_r h hq1)
          · replace h := ed_neg q71 h
            refine iq_aload_n hS 75 J_HFinder_add_d74 l10 rfl ?_
            refine iq_getR hS 78 J_HFinder_add_d75 lf_3_23 (Or.inr ⟨_, rfl⟩) (ka_59 hM9) (ra_59_4 hM9) rfl ?_
            refine iq_iload hS 80 J_HFinder_add_d78 l13 rfl ?_
            refine iq_aload_n hS 81 J_HFinder_add_d80 l10 rfl ?_
            refine iq_getR hS 84 J_HFinder_add_d81 lf_3_23 (Or.inr ⟨_, rfl⟩) (ka_59 hM9) (ra_59_4 hM9) rfl ?_
            refine iq_iload hS 86 J_HFinder_add_d84 l13 rfl ?_
            refine iq_iconst hS 87 J_HFinder_add_d86 (v := 1) (by decide +kernel) rfl ?_
            refine iq_isub hS 88 J_HFinder_add_d87 rfl ?_
            obtain ⟨g88, h⟩ := ed_gd h
            refine iq_laload hS 89 J_HFinder_add_d88 ⟨(ka_62 hM9).1, (ka_62 hM9).2, g88.1, ix_lt (kl_62 hM9) g88.2⟩ rfl ?_
            obtain ⟨g89, h⟩ := ed_gd h
            refine iq_lastore hS 90 J_HFinder_add_d89 ⟨(ka_62 hM9).1, (ka_62 hM9).2, g89.1, ix_lt (kl_62 hM9) g89.2⟩ rfl ?_
            refine iq_aload_n hS 91 J_HFinder_add_d90 l10 rfl ?_
            refine iq_getR hS 94 J_HFinder_add_d91 lf_3_27 (Or.inr ⟨_, rfl⟩) (ka_59 (lw_sL hM9)) (ra_59_5 (lw_sL hM9)) rfl ?_
            refine iq_iload hS 96 J_HFinder_add_d94 l13 rfl ?_
            refine iq_aload_n hS 97 J_HFinder_add_d96 l10 rfl ?_
            refine iq_getR hS 100 J_HFinder_add_d97 lf_3_27 (Or.inr ⟨_, rfl⟩) (ka_59 (lw_sL hM9)) (ra_59_5 (lw_sL hM9)) rfl ?_
            refine iq_iload hS 102 J_HFinder_add_d100 l13 rfl ?_
            refine iq_iconst hS 103 J_HFinder_add_d102 (v := 1) (by decide +kernel) rfl ?_
            refine iq_isub hS 104 J_HFinder_add_d103 rfl ?_
            obtain ⟨g104, h⟩ := ed_gd h
            refine iq_iaload hS 105 J_HFinder_add_d104 ⟨(ka_63 (lw_sL hM9)).1, (ka_63 (lw_sL hM9)).2, g104.1, ix_lt (kl_63 (lw_sL hM9)) g104.2⟩ rfl ?_
            obtain ⟨g105, h⟩ := ed_gd h
            refine iq_iastore hS 106 J_HFinder_add_d105 ⟨(ka_63 (lw_sL hM9)).1, (ka_63 (lw_sL hM9)).2, g105.1, ix_lt (kl_63 (lw_sL hM9)) g105.2⟩ rfl ?_
            refine iq_iincv hS 109 J_HFinder_add_d106 (c := (-1)) (by decide +kernel) l13 (by decide) rfl ?_
            refine iq_goto hS J_HFinder_add_d109 (t := 54) rfl ?_
            exact ih _ _ _ (lw_sI (lw_sL hM9)) (lk_1r l10 (by decide)) (lk_1i l11 (by decide)) (lk_1l l12 (by decide) (by decide)) lk_1s (lq_l h)
    exact I1 n1 _ _ _ hM (lk_1r (lk_2r l0 (by decide) (by decide)) (by decide)) (lk_1i (lk_2i l5 (by decide) (by decide)) (by decide)) (lk_1l lk_2s (by decide) (by decide)) lk_1s hn1
  · replace h := ed_neg q7 h
    refine iq_iconst hS 11 J_HFinder_add_d10 (v := 0) (by decide +kernel) rfl ?_
    exact iq_iret J_HFinder_add_d11 rfl rfl ⟨_, rfl, hM, ed_some h⟩
theorem f_HFinder_add_fr {p0 : Int32} {p1 : Int32} {p2 : Int32} {p3 : Int32} {p4 : Int32} {M : im_M} {r : Int32 × im_M} (h : f_HFinder_add p0 p1 p2 p3 p4 M = some r) : fr 13835058055282163712 [(59, 8)] M r.2 := by
  replace h : ed (f_HFinder_add p0 p1 p2 p3 p4 M) (fun x => x = r) := ⟨r, h, rfl⟩
  unfold f_HFinder_add at h
  by_cases q7 : ¬ (im_i M 59 8) = 300
  · replace h := ed_pos q7 h
    obtain ⟨Q1, hQ1, h⟩ := bd2_ed h
    have K1 : ∀ (y2 : Int32) (M3 : im_M), fr 13835058055282163712 [(59, 8)] M M3 → Q1 (y2, M3) → fr 13835058055282163712 [(59, 8)] M r.2 := by
      intro y2 M3 hM3 h
      replace h := hQ1 _ _ h
      obtain ⟨g120, h⟩ := ed_gd h
      obtain ⟨g129, h⟩ := ed_gd h
      exact fr_ret h (fr_F (by decide) (fr_I (by decide) (fr_L (by decide) hM3)))
    obtain ⟨r1, hr1, hq1⟩ := h
    obtain ⟨n1, hn1⟩ := lp_n hr1
    have I1 : ∀ (n : Nat) (x4 : Int32) (M5 : im_M), fr 13835058055282163712 [(59, 8)] M M5 → lpn (uc2 (f_HFinder_add_L54 p4 (((((((((Int32.toInt64 p1) * 512) + (Int32.toInt64 p0)) * 32) + (Int32.toInt64 (im_i M 59 9))) * 64) + (Int32.toInt64 p2)) * 4) + (Int32.toInt64 p3)))) n (x4, M5) = some r1 → fr 13835058055282163712 [(59, 8)] M r.2 := by
      intro n
      induction n with
      | zero => intro x4 M5 hM5 hn; exact (lpn_0 hn).elim
      | succ n ih =>
        intro x4 M5 hM5 hn
        have h := lpn_ed2 hn
        unfold f_HFinder_add_L54 at h
        by_cases q56 : x4 ≤ 0
        · replace h := ed_pos q56 h
          exact K1 _ _ hM5 (lq_r h hq1)
        · replace h := ed_neg q56 h
          obtain ⟨g67, h⟩ := ed_gd h
          by_cases q71 : (lg_cmp (im_l M5 62 (Int32.toNatClampNeg (x4 - 1))) (((((((((Int32.toInt64 p1) * 512) + (Int32.toInt64 p0)) * 32) + (Int32.toInt64 (im_i M 59 9))) * 64) + (Int32.toInt64 p2)) * 4) + (Int32.toInt64 p3))) ≤ 0
          · replace h := ed_pos q71 h
            exact K1 _ _ hM5 (lq_r h hq1)
          · replace h := ed_neg q71 h
            obtain ⟨g88, h⟩ := ed_gd h
            obtain ⟨g89, h⟩ := ed_gd h
            obtain ⟨g104, h⟩ := ed_gd h
            obtain ⟨g105, h⟩ := ed_gd h
            exact ih _ _ (fr_I (by decide) (fr_L (by decide) hM5)) (lq_l h)
    exact I1 n1 _ _ fr_refl hn1
  · replace h := ed_neg q7 h
    exact fr_ret h fr_refl
noncomputable def f_HFinder_lookAt_L84 (v3 : Int32) (v4 : Int32) (v5 : Int32) (v6 : Int32) (v7 : Int32) (v8 : Int32) (x9 : Int32) (x10 : Int32) (M11 : im_M) : Option ((Int32 × Int32 × im_M) ⊕ ((Int32 × im_M) ⊕ (Int32 × im_M))) := if 4 ≤ x10 then some (.inr (.inl (x9, M11))) else gd (inb x10 4) <| gd (inb x10 4) <| bd1 (f_HFinder_edgedWrong (v3 + (v8 * (xa_13 x10))) (v4 + (v8 * (xa_14 x10))) x10 M11) fun (x12 : Int32) => gd (inb x10 4) <| gd (inb x10 4) <| jn0 (fun (_ : Unit) => some (.inl ((x9 + (im_i (im_setI M11 65 (Int32.toNatClampNeg x10) x12) 65 (Int32.toNatClampNeg x10))), (x10 + 1), (im_setI M11 65 (Int32.toNatClampNeg x10) x12)))) fun k13 => if v6 ≤ x10 then k13 () else gd (inb x10 4) <| bd1 (f_HFinder_leadsOn (im_i (im_setI M11 65 (Int32.toNatClampNeg x10) x12) 65 (Int32.toNatClampNeg x10)) (im_setI M11 65 (Int32.toNatClampNeg x10) x12)) fun (x14 : Int32) => if x14 = 0 then k13 () else some (.inr (.inr (1, (im_setI M11 65 (Int32.toNatClampNeg x10) x12))))
noncomputable def f_HFinder_lookAt_L169 (v27 : Int32) (v28 : Int32) (v29 : Int32) (v30 : Int32) (v31 : Int32) (x32 : Int32) (M33 : im_M) : Option ((Int32 × im_M) ⊕ ((im_M) ⊕ (Int32 × im_M))) := if 4 ≤ x32 then some (.inr (.inl M33)) else gd (inb ((3 : Int32) - x32) 4) <| bd1 (if (im_i M33 59 10) < (v31 - (im_i M33 65 (Int32.toNatClampNeg ((3 : Int32) - x32)))) then some (v31 - (im_i M33 65 (Int32.toNatClampNeg ((3 : Int32) - x32)))) else bd1 (f_HFinder_wrongAt v27 v28 v30 x32 (v31 - (im_i M33 65 (Int32.toNatClampNeg ((3 : Int32) - x32)))) M33) fun (x35 : Int32) => some x35) fun (y36 : Int32) => jn1 (fun (M47 : im_M) => some (.inl ((x32 + 1), M47))) fun k45 => if (im_i M33 59 10) < y36 then k45 M33 else bd2 (f_HFinder_add v27 v28 v29 x32 y36 M33) fun (x46 : Int32) (M46 : im_M) => if ¬ x46 = 0 then k45 M46 else some (.inr (.inr (0, M46)))
noncomputable def f_HFinder_lookAt (p0 : Int32) (p1 : Int32) (p2 : Int32) (p3 : Int32) (M : im_M) : Option (Int32 × im_M) := if p0 < 0 then some (1, M) else if p1 < 0 then some (1, M) else if (im_i M 28 0) < (p0 + (((17 : Int32) + ((4 : Int32) * p2)) * (im_i M 59 9))) then some (1, M) else if (im_i M 28 1) < (p1 + (((17 : Int32) + ((4 : Int32) * p2)) * (im_i M 59 9))) then some (1, M) else bd1 (f_HFinder_hasShades p0 p1 p2 M) fun (x1 : Int32) => if ¬ x1 = 0 then bs2 (lp (uc3 (f_HFinder_lookAt_L84 p0 p1 p2 p3 ((17 : Int32) + ((4 : Int32) * p2)) ((((17 : Int32) + ((4 : Int32) * p2)) - 7) * (im_i M 59 9)))) (0, 0, M)) (fun (y24 : Int32) (M25 : im_M) => bs1 (lp (uc2 (f_HFinder_lookAt_L169 p0 p1 p2 ((17 : Int32) + ((4 : Int32) * p2)) y24)) (0, M25)) (fun (M55 : im_M) => some (1, M55)) (fun t => some t)) (fun t => some t) else some (1, M)
theorem J_HFinder_lookAt_d0 : decode J_HFinder_lookAt.2.1 0 = .ok (.bipush 17, 2) := by decide +kernel
theorem J_HFinder_lookAt_d2 : decode J_HFinder_lookAt.2.1 2 = .ok (.iconst 4, 1) := by decide +kernel
theorem J_HFinder_lookAt_d3 : decode J_HFinder_lookAt.2.1 3 = .ok (.iload_n 3, 1) := by decide +kernel
theorem J_HFinder_lookAt_d4 : decode J_HFinder_lookAt.2.1 4 = .ok (.imul, 1) := by decide +kernel
theorem J_HFinder_lookAt_d5 : decode J_HFinder_lookAt.2.1 5 = .ok (.iadd, 1) := by decide +kernel
theorem J_HFinder_lookAt_d6 : decode J_HFinder_lookAt.2.1 6 = .ok (.istore 5, 2) := by decide +kernel
theorem J_HFinder_lookAt_d8 : decode J_HFinder_lookAt.2.1 8 = .ok (.iload_n 1, 1) := by decide +kernel
theorem J_HFinder_lookAt_d9 : decode J_HFinder_lookAt.2.1 9 = .ok (.ifCond .lt 55, 3) := by decide +kernel
theorem J_HFinder_lookAt_d12 : decode J_HFinder_lookAt.2.1 12 = .ok (.iload_n 2, 1) := by decide +kernel
theorem J_HFinder_lookAt_d13 : decode J_HFinder_lookAt.2.1 13 = .ok (.ifCond .lt 51, 3) := by decide +kernel
theorem J_HFinder_lookAt_d16 : decode J_HFinder_lookAt.2.1 16 = .ok (.iload_n 1, 1) := by decide +kernel
theorem J_HFinder_lookAt_d17 : decode J_HFinder_lookAt.2.1 17 = .ok (.iload 5, 2) := by decide +kernel
theorem J_HFinder_lookAt_d19 : decode J_HFinder_lookAt.2.1 19 = .ok (.aload_n 0, 1) := by decide +kernel
theorem J_HFinder_lookAt_d20 : decode J_HFinder_lookAt.2.1 20 = .ok (.getfield 66, 3) := by decide +kernel
theorem J_HFinder_lookAt_d23 : decode J_HFinder_lookAt.2.1 23 = .ok (.imul, 1) := by decide +kernel
theorem J_HFinder_lookAt_d24 : decode J_HFinder_lookAt.2.1 24 = .ok (.iadd, 1) := by decide +kernel
theorem J_HFinder_lookAt_d25 : decode J_HFinder_lookAt.2.1 25 = .ok (.aload_n 0, 1) := by decide +kernel
theorem J_HFinder_lookAt_d26 : decode J_HFinder_lookAt.2.1 26 = .ok (.getfield 37, 3) := by decide +kernel
theorem J_HFinder_lookAt_d29 : decode J_HFinder_lookAt.2.1 29 = .ok (.getfield 54, 3) := by decide +kernel
theorem J_HFinder_lookAt_d32 : decode J_HFinder_lookAt.2.1 32 = .ok (.if_icmp .gt 32, 3) := by decide +kernel
theorem J_HFinder_lookAt_d35 : decode J_HFinder_lookAt.2.1 35 = .ok (.iload_n 2, 1) := by decide +kernel
theorem J_HFinder_lookAt_d36 : decode J_HFinder_lookAt.2.1 36 = .ok (.iload 5, 2) := by decide +kernel
theorem J_HFinder_lookAt_d38 : decode J_HFinder_lookAt.2.1 38 = .ok (.aload_n 0, 1) := by decide +kernel
theorem J_HFinder_lookAt_d39 : decode J_HFinder_lookAt.2.1 39 = .ok (.getfield 66, 3) := by decide +kernel
theorem J_HFinder_lookAt_d42 : decode J_HFinder_lookAt.2.1 42 = .ok (.imul, 1) := by decide +kernel
theorem J_HFinder_lookAt_d43 : decode J_HFinder_lookAt.2.1 43 = .ok (.iadd, 1) := by decide +kernel
theorem J_HFinder_lookAt_d44 : decode J_HFinder_lookAt.2.1 44 = .ok (.aload_n 0, 1) := by decide +kernel
theorem J_HFinder_lookAt_d45 : decode J_HFinder_lookAt.2.1 45 = .ok (.getfield 37, 3) := by decide +kernel
theorem J_HFinder_lookAt_d48 : decode J_HFinder_lookAt.2.1 48 = .ok (.getfield 57, 3) := by decide +kernel
theorem J_HFinder_lookAt_d51 : decode J_HFinder_lookAt.2.1 51 = .ok (.if_icmp .gt 13, 3) := by decide +kernel
theorem J_HFinder_lookAt_d54 : decode J_HFinder_lookAt.2.1 54 = .ok (.aload_n 0, 1) := by decide +kernel
theorem J_HFinder_lookAt_d55 : decode J_HFinder_lookAt.2.1 55 = .ok (.iload_n 1, 1) := by decide +kernel
theorem J_HFinder_lookAt_d56 : decode J_HFinder_lookAt.2.1 56 = .ok (.iload_n 2, 1) := by decide +kernel
theorem J_HFinder_lookAt_d57 : decode J_HFinder_lookAt.2.1 57 = .ok (.iload_n 3, 1) := by decide +kernel
theorem J_HFinder_lookAt_d58 : decode J_HFinder_lookAt.2.1 58 = .ok (.invokevirtual 117, 3) := by decide +kernel
theorem J_HFinder_lookAt_d61 : decode J_HFinder_lookAt.2.1 61 = .ok (.ifCond .ne 5, 3) := by decide +kernel
theorem J_HFinder_lookAt_d64 : decode J_HFinder_lookAt.2.1 64 = .ok (.iconst 1, 1) := by decide +kernel
theorem J_HFinder_lookAt_d65 : decode J_HFinder_lookAt.2.1 65 = .ok (.ireturn, 1) := by decide +kernel
theorem J_HFinder_lookAt_d66 : decode J_HFinder_lookAt.2.1 66 = .ok (.iload 5, 2) := by decide +kernel
theorem J_HFinder_lookAt_d68 : decode J_HFinder_lookAt.2.1 68 = .ok (.bipush 7, 2) := by decide +kernel
theorem J_HFinder_lookAt_d70 : decode J_HFinder_lookAt.2.1 70 = .ok (.isub, 1) := by decide +kernel
theorem J_HFinder_lookAt_d71 : decode J_HFinder_lookAt.2.1 71 = .ok (.aload_n 0, 1) := by decide +kernel
theorem J_HFinder_lookAt_d72 : decode J_HFinder_lookAt.2.1 72 = .ok (.getfield 66, 3) := by decide +kernel
theorem J_HFinder_lookAt_d75 : decode J_HFinder_lookAt.2.1 75 = .ok (.imul, 1) := by decide +kernel
theorem J_HFinder_lookAt_d76 : decode J_HFinder_lookAt.2.1 76 = .ok (.istore 6, 2) := by decide +kernel
theorem J_HFinder_lookAt_d78 : decode J_HFinder_lookAt.2.1 78 = .ok (.iconst 0, 1) := by decide +kernel
theorem J_HFinder_lookAt_d79 : decode J_HFinder_lookAt.2.1 79 = .ok (.istore 7, 2) := by decide +kernel
theorem J_HFinder_lookAt_d81 : decode J_HFinder_lookAt.2.1 81 = .ok (.iconst 0, 1) := by decide +kernel
theorem J_HFinder_lookAt_d82 : decode J_HFinder_lookAt.2.1 82 = .ok (.istore 8, 2) := by decide +kernel
theorem J_HFinder_lookAt_d84 : decode J_HFinder_lookAt.2.1 84 = .ok (.iload 8, 2) := by decide +kernel
theorem J_HFinder_lookAt_d86 : decode J_HFinder_lookAt.2.1 86 = .ok (.iconst 4, 1) := by decide +kernel
theorem J_HFinder_lookAt_d87 : decode J_HFinder_lookAt.2.1 87 = .ok (.if_icmp .ge 79, 3) := by decide +kernel
theorem J_HFinder_lookAt_d90 : decode J_HFinder_lookAt.2.1 90 = .ok (.aload_n 0, 1) := by decide +kernel
theorem J_HFinder_lookAt_d91 : decode J_HFinder_lookAt.2.1 91 = .ok (.getfield 34, 3) := by decide +kernel
theorem J_HFinder_lookAt_d94 : decode J_HFinder_lookAt.2.1 94 = .ok (.iload 8, 2) := by decide +kernel
theorem J_HFinder_lookAt_d96 : decode J_HFinder_lookAt.2.1 96 = .ok (.aload_n 0, 1) := by decide +kernel
theorem J_HFinder_lookAt_d97 : decode J_HFinder_lookAt.2.1 97 = .ok (.iload_n 1, 1) := by decide +kernel
theorem J_HFinder_lookAt_d98 : decode J_HFinder_lookAt.2.1 98 = .ok (.iload 6, 2) := by decide +kernel
theorem J_HFinder_lookAt_d100 : decode J_HFinder_lookAt.2.1 100 = .ok (.getstatic 108, 3) := by decide +kernel
theorem J_HFinder_lookAt_d103 : decode J_HFinder_lookAt.2.1 103 = .ok (.iload 8, 2) := by decide +kernel
theorem J_HFinder_lookAt_d105 : decode J_HFinder_lookAt.2.1 105 = .ok (.iaload, 1) := by decide +kernel
theorem J_HFinder_lookAt_d106 : decode J_HFinder_lookAt.2.1 106 = .ok (.imul, 1) := by decide +kernel
theorem J_HFinder_lookAt_d107 : decode J_HFinder_lookAt.2.1 107 = .ok (.iadd, 1) := by decide +kernel
theorem J_HFinder_lookAt_d108 : decode J_HFinder_lookAt.2.1 108 = .ok (.iload_n 2, 1) := by decide +kernel
theorem J_HFinder_lookAt_d109 : decode J_HFinder_lookAt.2.1 109 = .ok (.iload 6, 2) := by decide +kernel
theorem J_HFinder_lookAt_d111 : decode J_HFinder_lookAt.2.1 111 = .ok (.getstatic 111, 3) := by decide +kernel
theorem J_HFinder_lookAt_d114 : decode J_HFinder_lookAt.2.1 114 = .ok (.iload 8, 2) := by decide +kernel
theorem J_HFinder_lookAt_d116 : decode J_HFinder_lookAt.2.1 116 = .ok (.iaload, 1) := by decide +kernel
theorem J_HFinder_lookAt_d117 : decode J_HFinder_lookAt.2.1 117 = .ok (.imul, 1) := by decide +kernel
theorem J_HFinder_lookAt_d118 : decode J_HFinder_lookAt.2.1 118 = .ok (.iadd, 1) := by decide +kernel
theorem J_HFinder_lookAt_d119 : decode J_HFinder_lookAt.2.1 119 = .ok (.iload 8, 2) := by decide +kernel
theorem J_HFinder_lookAt_d121 : decode J_HFinder_lookAt.2.1 121 = .ok (.invokevirtual 101, 3) := by decide +kernel
theorem J_HFinder_lookAt_d124 : decode J_HFinder_lookAt.2.1 124 = .ok (.iastore, 1) := by decide +kernel
theorem J_HFinder_lookAt_d125 : decode J_HFinder_lookAt.2.1 125 = .ok (.iload 7, 2) := by decide +kernel
theorem J_HFinder_lookAt_d127 : decode J_HFinder_lookAt.2.1 127 = .ok (.aload_n 0, 1) := by decide +kernel
theorem J_HFinder_lookAt_d128 : decode J_HFinder_lookAt.2.1 128 = .ok (.getfield 34, 3) := by decide +kernel
theorem J_HFinder_lookAt_d131 : decode J_HFinder_lookAt.2.1 131 = .ok (.iload 8, 2) := by decide +kernel
theorem J_HFinder_lookAt_d133 : decode J_HFinder_lookAt.2.1 133 = .ok (.iaload, 1) := by decide +kernel
theorem J_HFinder_lookAt_d134 : decode J_HFinder_lookAt.2.1 134 = .ok (.iadd, 1) := by decide +kernel
theorem J_HFinder_lookAt_d135 : decode J_HFinder_lookAt.2.1 135 = .ok (.istore 7, 2) := by decide +kernel
theorem J_HFinder_lookAt_d137 : decode J_HFinder_lookAt.2.1 137 = .ok (.iload 8, 2) := by decide +kernel
theorem J_HFinder_lookAt_d139 : decode J_HFinder_lookAt.2.1 139 = .ok (.iload 4, 2) := by decide +kernel
theorem J_HFinder_lookAt_d141 : decode J_HFinder_lookAt.2.1 141 = .ok (.if_icmp .ge 19, 3) := by decide +kernel
theorem J_HFinder_lookAt_d144 : decode J_HFinder_lookAt.2.1 144 = .ok (.aload_n 0, 1) := by decide +kernel
theorem J_HFinder_lookAt_d145 : decode J_HFinder_lookAt.2.1 145 = .ok (.aload_n 0, 1) := by decide +kernel
theorem J_HFinder_lookAt_d146 : decode J_HFinder_lookAt.2.1 146 = .ok (.getfield 34, 3) := by decide +kernel
theorem J_HFinder_lookAt_d149 : decode J_HFinder_lookAt.2.1 149 = .ok (.iload 8, 2) := by decide +kernel
theorem J_HFinder_lookAt_d151 : decode J_HFinder_lookAt.2.1 151 = .ok (.iaload, 1) := by decide +kernel
theorem J_HFinder_lookAt_d152 : decode J_HFinder_lookAt.2.1 152 = .ok (.invokevirtual 94, 3) := by decide +kernel
theorem J_HFinder_lookAt_d155 : decode J_HFinder_lookAt.2.1 155 = .ok (.ifCond .eq 5, 3) := by decide +kernel
theorem J_HFinder_lookAt_d158 : decode J_HFinder_lookAt.2.1 158 = .ok (.iconst 1, 1) := by decide +kernel
theorem J_HFinder_lookAt_d159 : decode J_HFinder_lookAt.2.1 159 = .ok (.ireturn, 1) := by decide +kernel
theorem J_HFinder_lookAt_d160 : decode J_HFinder_lookAt.2.1 160 = .ok (.iinc 8 1, 3) := by decide +kernel
theorem J_HFinder_lookAt_d163 : decode J_HFinder_lookAt.2.1 163 = .ok (.goto (-79), 3) := by decide +kernel
theorem J_HFinder_lookAt_d166 : decode J_HFinder_lookAt.2.1 166 = .ok (.iconst 0, 1) := by decide +kernel
theorem J_HFinder_lookAt_d167 : decode J_HFinder_lookAt.2.1 167 = .ok (.istore 8, 2) := by decide +kernel
theorem J_HFinder_lookAt_d169 : decode J_HFinder_lookAt.2.1 169 = .ok (.iload 8, 2) := by decide +kernel
theorem J_HFinder_lookAt_d171 : decode J_HFinder_lookAt.2.1 171 = .ok (.iconst 4, 1) := by decide +kernel
theorem J_HFinder_lookAt_d172 : decode J_HFinder_lookAt.2.1 172 = .ok (.if_icmp .ge 71, 3) := by decide +kernel
theorem J_HFinder_lookAt_d175 : decode J_HFinder_lookAt.2.1 175 = .ok (.iload 7, 2) := by decide +kernel
theorem J_HFinder_lookAt_d177 : decode J_HFinder_lookAt.2.1 177 = .ok (.aload_n 0, 1) := by decide +kernel
theorem J_HFinder_lookAt_d178 : decode J_HFinder_lookAt.2.1 178 = .ok (.getfield 34, 3) := by decide +kernel
theorem J_HFinder_lookAt_d181 : decode J_HFinder_lookAt.2.1 181 = .ok (.iconst 3, 1) := by decide +kernel
theorem J_HFinder_lookAt_d182 : decode J_HFinder_lookAt.2.1 182 = .ok (.iload 8, 2) := by decide +kernel
theorem J_HFinder_lookAt_d184 : decode J_HFinder_lookAt.2.1 184 = .ok (.isub, 1) := by decide +kernel
theorem J_HFinder_lookAt_d185 : decode J_HFinder_lookAt.2.1 185 = .ok (.iaload, 1) := by decide +kernel
theorem J_HFinder_lookAt_d186 : decode J_HFinder_lookAt.2.1 186 = .ok (.isub, 1) := by decide +kernel
theorem J_HFinder_lookAt_d187 : decode J_HFinder_lookAt.2.1 187 = .ok (.istore 9, 2) := by decide +kernel
theorem J_HFinder_lookAt_d189 : decode J_HFinder_lookAt.2.1 189 = .ok (.iload 9, 2) := by decide +kernel
theorem J_HFinder_lookAt_d191 : decode J_HFinder_lookAt.2.1 191 = .ok (.aload_n 0, 1) := by decide +kernel
theorem J_HFinder_lookAt_d192 : decode J_HFinder_lookAt.2.1 192 = .ok (.getfield 48, 3) := by decide +kernel
theorem J_HFinder_lookAt_d195 : decode J_HFinder_lookAt.2.1 195 = .ok (.if_icmp .gt 17, 3) := by decide +kernel
theorem J_HFinder_lookAt_d198 : decode J_HFinder_lookAt.2.1 198 = .ok (.aload_n 0, 1) := by decide +kernel
theorem J_HFinder_lookAt_d199 : decode J_HFinder_lookAt.2.1 199 = .ok (.iload_n 1, 1) := by decide +kernel
theorem J_HFinder_lookAt_d200 : decode J_HFinder_lookAt.2.1 200 = .ok (.iload_n 2, 1) := by decide +kernel
theorem J_HFinder_lookAt_d201 : decode J_HFinder_lookAt.2.1 201 = .ok (.iload 5, 2) := by decide +kernel
theorem J_HFinder_lookAt_d203 : decode J_HFinder_lookAt.2.1 203 = .ok (.iload 8, 2) := by decide +kernel
theorem J_HFinder_lookAt_d205 : decode J_HFinder_lookAt.2.1 205 = .ok (.iload 9, 2) := by decide +kernel
theorem J_HFinder_lookAt_d207 : decode J_HFinder_lookAt.2.1 207 = .ok (.invokevirtual 120, 3) := by decide +kernel
theorem J_HFinder_lookAt_d210 : decode J_HFinder_lookAt.2.1 210 = .ok (.istore 9, 2) := by decide +kernel
theorem J_HFinder_lookAt_d212 : decode J_HFinder_lookAt.2.1 212 = .ok (.iload 9, 2) := by decide +kernel
theorem J_HFinder_lookAt_d214 : decode J_HFinder_lookAt.2.1 214 = .ok (.aload_n 0, 1) := by decide +kernel
theorem J_HFinder_lookAt_d215 : decode J_HFinder_lookAt.2.1 215 = .ok (.getfield 48, 3) := by decide +kernel
theorem J_HFinder_lookAt_d218 : decode J_HFinder_lookAt.2.1 218 = .ok (.if_icmp .gt 19, 3) := by decide +kernel
theorem J_HFinder_lookAt_d221 : decode J_HFinder_lookAt.2.1 221 = .ok (.aload_n 0, 1) := by decide +kernel
theorem J_HFinder_lookAt_d222 : decode J_HFinder_lookAt.2.1 222 = .ok (.iload_n 1, 1) := by decide +kernel
theorem J_HFinder_lookAt_d223 : decode J_HFinder_lookAt.2.1 223 = .ok (.iload_n 2, 1) := by decide +kernel
theorem J_HFinder_lookAt_d224 : decode J_HFinder_lookAt.2.1 224 = .ok (.iload_n 3, 1) := by decide +kernel
theorem J_HFinder_lookAt_d225 : decode J_HFinder_lookAt.2.1 225 = .ok (.iload 8, 2) := by decide +kernel
theorem J_HFinder_lookAt_d227 : decode J_HFinder_lookAt.2.1 227 = .ok (.iload 9, 2) := by decide +kernel
theorem J_HFinder_lookAt_d229 : decode J_HFinder_lookAt.2.1 229 = .ok (.invokevirtual 124, 3) := by decide +kernel
theorem J_HFinder_lookAt_d232 : decode J_HFinder_lookAt.2.1 232 = .ok (.ifCond .ne 5, 3) := by decide +kernel
theorem J_HFinder_lookAt_d235 : decode J_HFinder_lookAt.2.1 235 = .ok (.iconst 0, 1) := by decide +kernel
theorem J_HFinder_lookAt_d236 : decode J_HFinder_lookAt.2.1 236 = .ok (.ireturn, 1) := by decide +kernel
theorem J_HFinder_lookAt_d237 : decode J_HFinder_lookAt.2.1 237 = .ok (.iinc 8 1, 3) := by decide +kernel
theorem J_HFinder_lookAt_d240 : decode J_HFinder_lookAt.2.1 240 = .ok (.goto (-71), 3) := by decide +kernel
theorem J_HFinder_lookAt_d243 : decode J_HFinder_lookAt.2.1 243 = .ok (.iconst 1, 1) := by decide +kernel
theorem J_HFinder_lookAt_d244 : decode J_HFinder_lookAt.2.1 244 = .ok (.ireturn, 1) := by decide +kernel
theorem f_HFinder_lookAt_ok {L : Nat} {xs : Nat → Int32} {dep : Nat} {w : Bool} {p0 : Int32} {p1 : Int32} {p2 : Int32} {p3 : Int32} {M : im_M} {Q : Int32 × im_M → Prop} (hM : lw_S w M) (h : ed (f_HFinder_lookAt p0 p1 p2 p3 M) Q) : ia (tb_G L xs) (dep + 2) J_HFinder_lookAt (rwI w Q) (0, lv_args 0 [.ref 59, .int p0, .int p1, .int p2, .int p3], [], M) := by
  have hS : im_St (tb_G L xs) (dep + 2) J_HFinder_lookAt (ia (tb_G L xs) (dep + 2) J_HFinder_lookAt (rwI w Q)) := ia_St
  unfold f_HFinder_lookAt at h
  have l0 : im_lk (lv_args 0 [.ref 59, .int p0, .int p1, .int p2, .int p3]) 0 = some (.ref 59) := rfl
  have l1 : im_lk (lv_args 0 [.ref 59, .int p0, .int p1, .int p2, .int p3]) 1 = some (.int p0) := rfl
  have l2 : im_lk (lv_args 0 [.ref 59, .int p0, .int p1, .int p2, .int p3]) 2 = some (.int p1) := rfl
  have l3 : im_lk (lv_args 0 [.ref 59, .int p0, .int p1, .int p2, .int p3]) 3 = some (.int p2) := rfl
  have l4 : im_lk (lv_args 0 [.ref 59, .int p0, .int p1, .int p2, .int p3]) 4 = some (.int p3) := rfl
  refine iq_bipush hS 2 J_HFinder_lookAt_d0 (v := 17) (by decide +kernel) rfl ?_
  refine iq_iconst hS 3 J_HFinder_lookAt_d2 (v := 4) (by decide +kernel) rfl ?_
  refine iq_iload_n hS 4 J_HFinder_lookAt_d3 l3 rfl ?_
  refine iq_imul hS 5 J_HFinder_lookAt_d4 rfl ?_
  refine iq_iadd hS 6 J_HFinder_lookAt_d5 rfl ?_
  refine iq_istore hS 8 J_HFinder_lookAt_d6 (by decide) rfl ?_
  refine iq_iload_n hS 9 J_HFinder_lookAt_d8 (lk_1i l1 (by decide)) rfl ?_
  refine iq_if_lt hS 12 J_HFinder_lookAt_d9 (t := 64) rfl (fun q9 => ?_) rfl (fun q9 => ?_)
  · replace h := ed_pos q9 h
    refine iq_iconst hS 65 J_HFinder_lookAt_d64 (v := 1) (by decide +kernel) rfl ?_
    exact iq_iret J_HFinder_lookAt_d65 rfl rfl ⟨_, rfl, hM, ed_some h⟩
  · replace h := ed_neg q9 h
    refine iq_iload_n hS 13 J_HFinder_lookAt_d12 (lk_1i l2 (by decide)) rfl ?_
    refine iq_if_lt hS 16 J_HFinder_lookAt_d13 (t := 64) rfl (fun q13 => ?_) rfl (fun q13 => ?_)
    · replace h := ed_pos q13 h
      refine iq_iconst hS 65 J_HFinder_lookAt_d64 (v := 1) (by decide +kernel) rfl ?_
      exact iq_iret J_HFinder_lookAt_d65 rfl rfl ⟨_, rfl, hM, ed_some h⟩
    · replace h := ed_neg q13 h
      refine iq_iload_n hS 17 J_HFinder_lookAt_d16 (lk_1i l1 (by decide)) rfl ?_
      refine iq_iload hS 19 J_HFinder_lookAt_d17 lk_1s rfl ?_
      refine iq_aload_n hS 20 J_HFinder_lookAt_d19 (lk_1r l0 (by decide)) rfl ?_
      refine iq_getI hS 23 J_HFinder_lookAt_d20 lf_3_66 (Or.inl rfl) (ka_59 hM) rfl ?_
      refine iq_imul hS 24 J_HFinder_lookAt_d23 rfl ?_
      refine iq_iadd hS 25 J_HFinder_lookAt_d24 rfl ?_
      refine iq_aload_n hS 26 J_HFinder_lookAt_d25 (lk_1r l0 (by decide)) rfl ?_
      refine iq_getR hS 29 J_HFinder_lookAt_d26 lf_3_37 (Or.inl ⟨_, rfl⟩) (ka_59 hM) (ra_59_1 hM) rfl ?_
      refine iq_getI hS 32 J_HFinder_lookAt_d29 lf_3_54 (Or.inl rfl) (ka_28 hM) rfl ?_
      refine iq_icmp_gt hS 35 J_HFinder_lookAt_d32 (t := 64) rfl (fun q32 => ?_) rfl (fun q32 => ?_)
      · replace h := ed_pos q32 h
        refine iq_iconst hS 65 J_HFinder_lookAt_d64 (v := 1) (by decide +kernel) rfl ?_
        exact iq_iret J_HFinder_lookAt_d65 rfl rfl ⟨_, rfl, hM, ed_some h⟩
      · replace h := ed_neg q32 h
        refine iq_iload_n hS 36 J_HFinder_lookAt_d35 (lk_1i l2 (by decide)) rfl ?_
        refine iq_iload hS 38 J_HFinder_lookAt_d36 lk_1s rfl ?_
        refine iq_aload_n hS 39 J_HFinder_lookAt_d38 (lk_1r l0 (by decide)) rfl ?_
        refine iq_getI hS 42 J_HFinder_lookAt_d39 lf_3_66 (Or.inl rfl) (ka_59 hM) rfl ?_
        refine iq_imul hS 43 J_HFinder_lookAt_d42 rfl ?_
        refine iq_iadd hS 44 J_HFinder_lookAt_d43 rfl ?_
        refine iq_aload_n hS 45 J_HFinder_lookAt_d44 (lk_1r l0 (by decide)) rfl ?_
        refine iq_getR hS 48 J_HFinder_lookAt_d45 lf_3_37 (Or.inl ⟨_, rfl⟩) (ka_59 hM) (ra_59_1 hM) rfl ?_
        refine iq_getI hS 51 J_HFinder_lookAt_d48 lf_3_57 (Or.inl rfl) (ka_28 hM) rfl ?_
        refine iq_icmp_gt hS 54 J_HFinder_lookAt_d51 (t := 64) rfl (fun q51 => ?_) rfl (fun q51 => ?_)
        · replace h := ed_pos q51 h
          refine iq_iconst hS 65 J_HFinder_lookAt_d64 (v := 1) (by decide +kernel) rfl ?_
          exact iq_iret J_HFinder_lookAt_d65 rfl rfl ⟨_, rfl, hM, ed_some h⟩
        · replace h := ed_neg q51 h
          refine iq_aload_n hS 55 J_HFinder_lookAt_d54 (lk_1r l0 (by decide)) rfl ?_
          refine iq_iload_n hS 56 J_HFinder_lookAt_d55 (lk_1i l1 (by decide)) rfl ?_
          refine iq_iload_n hS 57 J_HFinder_lookAt_d56 (lk_1i l2 (by decide)) rfl ?_
          refine iq_iload_n hS 58 J_HFinder_lookAt_d57 (lk_1i l3 (by decide)) rfl ?_
          obtain ⟨Q1, hQ1, h⟩ := bd1_ed h
          refine iq_cpI hS 61 J_HFinder_lookAt_d58 rfl (pr_inst (vs := [_, _, _]) lc_3_117 lT_214 rfl rfl (by decide) (by decide) rfl (Nat.le_of_ble_eq_true rfl) (Nat.le_of_ble_eq_true rfl) (fun _ => Or.inl (pr_b (ka_59 hM) (by decide) rfl))) (f_HFinder_hasShades_ok (dep := dep + 0) hM h) rfl ?_
          intro x1 h
          replace h := hQ1 _ h
          refine iq_if_ne hS 64 J_HFinder_lookAt_d61 (t := 66) rfl (fun q61 => ?_) rfl (fun q61 => ?_)
          · replace h := ed_pos q61 h
            refine iq_iload hS 68 J_HFinder_lookAt_d66 lk_1s rfl ?_
            refine iq_bipush hS 70 J_HFinder_lookAt_d68 (v := 7) (by decide +kernel) rfl ?_
            refine iq_isub hS 71 J_HFinder_lookAt_d70 rfl ?_
            refine iq_aload_n hS 72 J_HFinder_lookAt_d71 (lk_1r l0 (by decide)) rfl ?_
            refine iq_getI hS 75 J_HFinder_lookAt_d72 lf_3_66 (Or.inl rfl) (ka_59 hM) rfl ?_
            refine iq_imul hS 76 J_HFinder_lookAt_d75 rfl ?_
            refine iq_istore hS 78 J_HFinder_lookAt_d76 (by decide) rfl ?_
            refine iq_iconst hS 79 J_HFinder_lookAt_d78 (v := 0) (by decide +kernel) rfl ?_
            refine iq_istore hS 81 J_HFinder_lookAt_d79 (by decide) rfl ?_
            refine iq_iconst hS 82 J_HFinder_lookAt_d81 (v := 0) (by decide +kernel) rfl ?_
            refine iq_istore hS 84 J_HFinder_lookAt_d82 (by decide) rfl ?_
            obtain ⟨Q2, hQ2, hR2, h⟩ := bs2_ed h
            have K2 : ∀ (y3 : Int32) (M4 : im_M) (L' : List (Nat × Value)), lw_S w M4 → im_lk L' 0 = some (.ref 59) → im_lk L' 1 = some (.int p0) → im_lk L' 2 = some (.int p1) → im_lk L' 3 = some (.int p2) → im_lk L' 5 = some (.int ((17 : Int32) + ((4 : Int32) * p2))) → im_lk L' 7 = some (.int y3) → Q2 (.inl (y3, M4)) → ia (tb_G L xs) (dep + 2) J_HFinder_lookAt (rwI w Q) (166, L', [], M4) := by
              intro y3 M4 L' hM4 l5 l6 l7 l8 l9 l10 h
              replace h := hQ2 _ _ h
              refine iq_iconst hS 167 J_HFinder_lookAt_d166 (v := 0) (by decide +kernel) rfl ?_
              refine iq_istore hS 169 J_HFinder_lookAt_d167 (by decide) rfl ?_
              obtain ⟨Q11, hQ11, hR11, h⟩ := bs1_ed h
              have K11 : ∀ (M12 : im_M) (L' : List (Nat × Value)), lw_S w M12 → Q11 (.inl M12) → ia (tb_G L xs) (dep + 2) J_HFinder_lookAt (rwI w Q) (243, L', [], M12) := by
                intro M12 L' hM12  h
                replace h := hQ11 _ h
                refine iq_iconst hS 244 J_HFinder_lookAt_d243 (v := 1) (by decide +kernel) rfl ?_
                exact iq_iret J_HFinder_lookAt_d244 rfl rfl ⟨_, rfl, hM12, ed_some h⟩
              obtain ⟨r11, hr11, hq11⟩ := h
              obtain ⟨n11, hn11⟩ := lp_n hr11
              have I11 : ∀ (n : Nat) (x13 : Int32) (M14 : im_M) (L' : List (Nat × Value)), lw_S w M14 → im_lk L' 0 = some (.ref 59) → im_lk L' 1 = some (.int p0) → im_lk L' 2 = some (.int p1) → im_lk L' 3 = some (.int p2) → im_lk L' 5 = some (.int ((17 : Int32) + ((4 : Int32) * p2))) → im_lk L' 7 = some (.int y3) → im_lk L' 8 = some (.int x13) → lpn (uc2 (f_HFinder_lookAt_L169 p0 p1 p2 ((17 : Int32) + ((4 : Int32) * p2)) y3)) n (x13, M14) = some r11 → ia (tb_G L xs) (dep + 2) J_HFinder_lookAt (rwI w Q) (169, L', [], M14) := by
                intro n
                induction n with
                | zero => intro x13 M14 L' hM14 l15 l16 l17 l18 l19 l20 l21 hn; exact (lpn_0 hn).elim
                | succ n ih =>
                  intro x13 M14 L' hM14 l15 l16 l17 l18 l19 l20 l21 hn
                  have h := lpn_ed2 hn
                  unfold f_HFinder_lookAt_L169 at h
                  refine iq_iload hS 171 J_HFinder_lookAt_d169 l21 rfl ?_
                  refine iq_iconst hS 172 J_HFinder_lookAt_d171 (v := 4) (by decide +kernel) rfl ?_
                  refine iq_icmp_ge hS 175 J_HFinder_lookAt_d172 (t := 243) rfl (fun q172 => ?_) rfl (fun q172 => ?_)
                  · replace h := ed_pos q172 h
                    exact K11 _ _ hM14  (lq_r h hq11)
                  · replace h := ed_neg q172 h
                    refine iq_iload hS 177 J_HFinder_lookAt_d175 l20 rfl ?_
                    refine iq_aload_n hS 178 J_HFinder_lookAt_d177 l15 rfl ?_
                    refine iq_getR hS 181 J_HFinder_lookAt_d178 lf_3_34 (Or.inr ⟨_, rfl⟩) (ka_59 hM14) (ra_59_7 hM14) rfl ?_
                    refine iq_iconst hS 182 J_HFinder_lookAt_d181 (v := 3) (by decide +kernel) rfl ?_
                    refine iq_iload hS 184 J_HFinder_lookAt_d182 l21 rfl ?_
                    refine iq_isub hS 185 J_HFinder_lookAt_d184 rfl ?_
                    obtain ⟨g185, h⟩ := ed_gd h
                    refine iq_iaload hS 186 J_HFinder_lookAt_d185 ⟨(ka_65 hM14).1, (ka_65 hM14).2, g185.1, ix_lt (kl_65 hM14) g185.2⟩ rfl ?_
                    refine iq_isub hS 187 J_HFinder_lookAt_d186 rfl ?_
                    refine iq_istore hS 189 J_HFinder_lookAt_d187 (by decide) rfl ?_
                    refine iq_iload hS 191 J_HFinder_lookAt_d189 lk_1s rfl ?_
                    refine iq_aload_n hS 192 J_HFinder_lookAt_d191 (lk_1r l15 (by decide)) rfl ?_
                    refine iq_getI hS 195 J_HFinder_lookAt_d192 lf_3_48 (Or.inl rfl) (ka_59 hM14) rfl ?_
                    obtain ⟨Q22, hQ22, h⟩ := bd1_ed h
                    have J22 : ∀ (y24 : Int32) (L' : List (Nat × Value)), im_lk L' 0 = some (.ref 59) → im_lk L' 1 = some (.int p0) → im_lk L' 2 = some (.int p1) → im_lk L' 3 = some (.int p2) → im_lk L' 5 = some (.int ((17 : Int32) + ((4 : Int32) * p2))) → im_lk L' 7 = some (.int y3) → im_lk L' 8 = some (.int x13) → im_lk L' 9 = some (.int y24) → Q22 y24 → ia (tb_G L xs) (dep + 2) J_HFinder_lookAt (rwI w Q) (212, L', [], M14) := by
                      intro y24 L' l25 l26 l27 l28 l29 l30 l31 l32 h
                      replace h := hQ22 _ h
                      refine iq_iload hS 214 J_HFinder_lookAt_d212 l32 rfl ?_
                      refine iq_aload_n hS 215 J_HFinder_lookAt_d214 l25 rfl ?_
                      refine iq_getI hS 218 J_HFinder_lookAt_d215 lf_3_48 (Or.inl rfl) (ka_59 hM14) rfl ?_
                      obtain ⟨k33, Q33, hQ33, hk33, h⟩ := jn1_ed h
                      have J33 : ∀ (M35 : im_M) (L' : List (Nat × Value)), lw_S w M35 → im_lk L' 0 = some (.ref 59) → im_lk L' 1 = some (.int p0) → im_lk L' 2 = some (.int p1) → im_lk L' 3 = some (.int p2) → im_lk L' 5 = some (.int ((17 : Int32) + ((4 : Int32) * p2))) → im_lk L' 7 = some (.int y3) → im_lk L' 8 = some (.int x13) → Q33 M35 → ia (tb_G L xs) (dep + 2) J_HFinder_lookAt (rwI w Q) (237, L', [], M35) := by
                        intro M35 L' hM35 l36 l37 l38 l39 l40 l41 l42 h
                        replace h := hQ33 _ h
                        refine iq_iincv hS 240 J_HFinder_lookAt_d237 (c := 1) (by decide +kernel) l42 (by decide) rfl ?_
                        refine iq_goto hS J_HFinder_lookAt_d240 (t := 169) rfl ?_
                        exact ih _ _ _ hM35 (lk_1r l36 (by decide)) (lk_1i l37 (by decide)) (lk_1i l38 (by decide)) (lk_1i l39 (by decide)) (lk_1i l40 (by decide)) (lk_1i l41 (by decide)) lk_1s (lq_l h)
                      refine iq_icmp_gt hS 221 J_HFinder_lookAt_d218 (t := 237) rfl (fun q218 => ?_) rfl (fun q218 => ?_)
                      · replace h := ed_pos q218 h
                        exact J33 _ _ hM14 l25 l26 l27 l28 l29 l30 l31 (hk33 _ h)
                      · replace h := ed_neg q218 h
                        refine iq_aload_n hS 222 J_HFinder_lookAt_d221 l25 rfl ?_
                        refine iq_iload_n hS 223 J_HFinder_lookAt_d222 l26 rfl ?_
                        refine iq_iload_n hS 224 J_HFinder_lookAt_d223 l27 rfl ?_
                        refine iq_iload_n hS 225 J_HFinder_lookAt_d224 l28 rfl ?_
                        refine iq_iload hS 227 J_HFinder_lookAt_d225 l31 rfl ?_
                        refine iq_iload hS 229 J_HFinder_lookAt_d227 l32 rfl ?_
                        obtain ⟨Q34, hQ34, h⟩ := bd2_ed h
                        refine iq_cwI hS 232 J_HFinder_lookAt_d229 rfl (pr_inst (vs := [_, _, _, _, _]) lc_3_124 lT_219 rfl rfl (by decide) (by decide) rfl (Nat.le_of_ble_eq_true rfl) (Nat.le_of_ble_eq_true rfl) (fun _ => Or.inl (pr_b (ka_59 hM14) (by decide) rfl))) (f_HFinder_add_ok (dep := dep + 1) hM14 h) rfl ?_
                        intro x34 M34 hM34 h
                        replace h := hQ34 _ _ h
                        refine iq_if_ne hS 235 J_HFinder_lookAt_d232 (t := 237) rfl (fun q232 => ?_) rfl (fun q232 => ?_)
                        · replace h := ed_pos q232 h
                          exact J33 _ _ hM34 l25 l26 l27 l28 l29 l30 l31 (hk33 _ h)
                        · replace h := ed_neg q232 h
                          refine iq_iconst hS 236 J_HFinder_lookAt_d235 (v := 0) (by decide +kernel) rfl ?_
                          exact iq_iret J_HFinder_lookAt_d236 rfl rfl ⟨_, rfl, hM34, ed_some (hR11 _ (lq_r h hq11))⟩
                    refine iq_icmp_gt hS 198 J_HFinder_lookAt_d195 (t := 212) rfl (fun q195 => ?_) rfl (fun q195 => ?_)
                    · replace h := ed_pos q195 h
                      exact J22 _ _ (lk_1r l15 (by decide)) (lk_1i l16 (by decide)) (lk_1i l17 (by decide)) (lk_1i l18 (by decide)) (lk_1i l19 (by decide)) (lk_1i l20 (by decide)) (lk_1i l21 (by decide)) lk_1s (ed_some h)
                    · replace h := ed_neg q195 h
                      refine iq_aload_n hS 199 J_HFinder_lookAt_d198 (lk_1r l15 (by decide)) rfl ?_
                      refine iq_iload_n hS 200 J_HFinder_lookAt_d199 (lk_1i l16 (by decide)) rfl ?_
                      refine iq_iload_n hS 201 J_HFinder_lookAt_d200 (lk_1i l17 (by decide)) rfl ?_
                      refine iq_iload hS 203 J_HFinder_lookAt_d201 (lk_1i l19 (by decide)) rfl ?_
                      refine iq_iload hS 205 J_HFinder_lookAt_d203 (lk_1i l21 (by decide)) rfl ?_
                      refine iq_iload hS 207 J_HFinder_lookAt_d205 lk_1s rfl ?_
                      obtain ⟨Q23, hQ23, h⟩ := bd1_ed h
                      refine iq_cpI hS 210 J_HFinder_lookAt_d207 rfl (pr_inst (vs := [_, _, _, _, _]) lc_3_120 lT_216 rfl rfl (by decide) (by decide) rfl (Nat.le_of_ble_eq_true rfl) (Nat.le_of_ble_eq_true rfl) (fun _ => Or.inl (pr_b (ka_59 hM14) (by decide) rfl))) (f_HFinder_wrongAt_ok (dep := dep + 0) hM14 h) rfl ?_
                      intro x23 h
                      replace h := hQ23 _ h
                      refine iq_istore hS 212 J_HFinder_lookAt_d210 (by decide) rfl ?_
                      exact J22 _ _ (lk_1r (lk_1r l15 (by decide)) (by decide)) (lk_1i (lk_1i l16 (by decide)) (by decide)) (lk_1i (lk_1i l17 (by decide)) (by decide)) (lk_1i (lk_1i l18 (by decide)) (by decide)) (lk_1i (lk_1i l19 (by decide)) (by decide)) (lk_1i (lk_1i l20 (by decide)) (by decide)) (lk_1i (lk_1i l21 (by decide)) (by decide)) lk_1s (ed_some h)
              exact I11 n11 _ _ _ hM4 (lk_1r l5 (by decide)) (lk_1i l6 (by decide)) (lk_1i l7 (by decide)) (lk_1i l8 (by decide)) (lk_1i l9 (by decide)) (lk_1i l10 (by decide)) lk_1s hn11
            obtain ⟨r2, hr2, hq2⟩ := h
            obtain ⟨n2, hn2⟩ := lp_n hr2
            have I2 : ∀ (n : Nat) (x43 : Int32) (x44 : Int32) (M45 : im_M) (L' : List (Nat × Value)), lw_S w M45 → im_lk L' 0 = some (.ref 59) → im_lk L' 1 = some (.int p0) → im_lk L' 2 = some (.int p1) → im_lk L' 3 = some (.int p2) → im_lk L' 4 = some (.int p3) → im_lk L' 5 = some (.int ((17 : Int32) + ((4 : Int32) * p2))) → im_lk L' 6 = some (.int ((((17 : Int32) + ((4 : Int32) * p2)) - 7) * (im_i M 59 9))) → im_lk L' 7 = some (.int x43) → im_lk L' 8 = some (.int x44) → lpn (uc3 (f_HFinder_lookAt_L84 p0 p1 p2 p3 ((17 : Int32) + ((4 : Int32) * p2)) ((((17 : Int32) + ((4 : Int32) * p2)) - 7) * (im_i M 59 9)))) n (x43, x44, M45) = some r2 → ia (tb_G L xs) (dep + 2) J_HFinder_lookAt (rwI w Q) (84, L', [], M45) := by
              intro n
              induction n with
              | zero => intro x43 x44 M45 L' hM45 l46 l47 l48 l49 l50 l51 l52 l53 l54 hn; exact (lpn_0 hn).elim
              | succ n ih =>
                intro x43 x44 M45 L' hM45 l46 l47 l48 l49 l50 l51 l52 l53 l54 hn
                have h := lpn_ed3 hn
                unfold f_HFinder_lookAt_L84 at h
                refine iq_iload hS 86 J_HFinder_lookAt_d84 l54 rfl ?_
                refine iq_iconst hS 87 J_HFinder_lookAt_d86 (v := 4) (by decide +kernel) rfl ?_
                refine iq_icmp_ge hS 90 J_HFinder_lookAt_d87 (t := 166) rfl (fun q87 => ?_) rfl (fun q87 => ?_)
                · replace h := ed_pos q87 h
                  exact K2 _ _ _ hM45 l46 l47 l48 l49 l51 l53 (lq_r h hq2)
                · replace h := ed_neg q87 h
                  refine iq_aload_n hS 91 J_HFinder_lookAt_d90 l46 rfl ?_
                  refine iq_getR hS 94 J_HFinder_lookAt_d91 lf_3_34 (Or.inr ⟨_, rfl⟩) (ka_59 hM45) (ra_59_7 hM45) rfl ?_
                  refine iq_iload hS 96 J_HFinder_lookAt_d94 l54 rfl ?_
                  refine iq_aload_n hS 97 J_HFinder_lookAt_d96 l46 rfl ?_
                  refine iq_iload_n hS 98 J_HFinder_lookAt_d97 l47 rfl ?_
                  refine iq_iload hS 100 J_HFinder_lookAt_d98 l52 rfl ?_
                  refine iq_getstatic hS 103 J_HFinder_lookAt_d100 gs_3_108 rfl ?_
                  refine iq_iload hS 105 J_HFinder_lookAt_d103 l54 rfl ?_
                  obtain ⟨g105, h⟩ := ed_gd h
                  refine iq_xl_13 hS 106 J_HFinder_lookAt_d105 hM45 g105 rfl ?_
                  refine iq_imul hS 107 J_HFinder_lookAt_d106 rfl ?_
                  refine iq_iadd hS 108 J_HFinder_lookAt_d107 rfl ?_
                  refine iq_iload_n hS 109 J_HFinder_lookAt_d108 l48 rfl ?_
                  refine iq_iload hS 111 J_HFinder_lookAt_d109 l52 rfl ?_
                  refine iq_getstatic hS 114 J_HFinder_lookAt_d111 gs_3_111 rfl ?_
                  refine iq_iload hS 116 J_HFinder_lookAt_d114 l54 rfl ?_
                  obtain ⟨g116, h⟩ := ed_gd h
                  refine iq_xl_14 hS 117 J_HFinder_lookAt_d116 hM45 g116 rfl ?_
                  refine iq_imul hS 118 J_HFinder_lookAt_d117 rfl ?_
                  refine iq_iadd hS 119 J_HFinder_lookAt_d118 rfl ?_
                  refine iq_iload hS 121 J_HFinder_lookAt_d119 l54 rfl ?_
                  obtain ⟨Q55, hQ55, h⟩ := bd1_ed h
                  refine iq_cpI hS 124 J_HFinder_lookAt_d121 rfl (pr_inst (vs := [_, _, _]) lc_3_101 lT_211 rfl rfl (by decide) (by decide) rfl (Nat.le_of_ble_eq_true rfl) (Nat.le_of_ble_eq_true rfl) (fun _ => Or.inl (pr_b (ka_59 hM45) (by decide) rfl))) (f_HFinder_edgedWrong_ok (dep := dep + 0) hM45 h) rfl ?_
                  intro x55 h
                  replace h := hQ55 _ h
                  obtain ⟨g124, h⟩ := ed_gd h
                  refine iq_iastore hS 125 J_HFinder_lookAt_d124 ⟨(ka_65 hM45).1, (ka_65 hM45).2, g124.1, ix_lt (kl_65 hM45) g124.2⟩ rfl ?_
                  refine iq_iload hS 127 J_HFinder_lookAt_d125 l53 rfl ?_
                  refine iq_aload_n hS 128 J_HFinder_lookAt_d127 l46 rfl ?_
                  refine iq_getR hS 131 J_HFinder_lookAt_d128 lf_3_34 (Or.inr ⟨_, rfl⟩) (ka_59 (lw_sI hM45)) (ra_59_7 (lw_sI hM45)) rfl ?_
                  refine iq_iload hS 133 J_HFinder_lookAt_d131 l54 rfl ?_
                  obtain ⟨g133, h⟩ := ed_gd h
                  refine iq_iaload hS 134 J_HFinder_lookAt_d133 ⟨(ka_65 (lw_sI hM45)).1, (ka_65 (lw_sI hM45)).2, g133.1, ix_lt (kl_65 (lw_sI hM45)) g133.2⟩ rfl ?_
                  refine iq_iadd hS 135 J_HFinder_lookAt_d134 rfl ?_
                  refine iq_istore hS 137 J_HFinder_lookAt_d135 (by decide) rfl ?_
                  refine iq_iload hS 139 J_HFinder_lookAt_d137 (lk_1i l54 (by decide)) rfl ?_
                  refine iq_iload hS 141 J_HFinder_lookAt_d139 (lk_1i l50 (by decide)) rfl ?_
                  obtain ⟨k56, Q56, hQ56, hk56, h⟩ := jn0_ed h
                  have J56 : ∀  (L' : List (Nat × Value)), im_lk L' 0 = some (.ref 59) → im_lk L' 1 = some (.int p0) → im_lk L' 2 = some (.int p1) → im_lk L' 3 = some (.int p2) → im_lk L' 4 = some (.int p3) → im_lk L' 5 = some (.int ((17 : Int32) + ((4 : Int32) * p2))) → im_lk L' 6 = some (.int ((((17 : Int32) + ((4 : Int32) * p2)) - 7) * (im_i M 59 9))) → im_lk L' 7 = some (.int (x43 + (im_i (im_setI M45 65 (Int32.toNatClampNeg x44) x55) 65 (Int32.toNatClampNeg x44)))) → im_lk L' 8 = some (.int x44) → Q56 () → ia (tb_G L xs) (dep + 2) J_HFinder_lookAt (rwI w Q) (160, L', [], (im_setI M45 65 (Int32.toNatClampNeg x44) x55)) := by
                    intro  L' l58 l59 l60 l61 l62 l63 l64 l65 l66 h
                    replace h := hQ56  h
                    refine iq_iincv hS 163 J_HFinder_lookAt_d160 (c := 1) (by decide +kernel) l66 (by decide) rfl ?_
                    refine iq_goto hS J_HFinder_lookAt_d163 (t := 84) rfl ?_
                    exact ih _ _ _ _ (lw_sI hM45) (lk_1r l58 (by decide)) (lk_1i l59 (by decide)) (lk_1i l60 (by decide)) (lk_1i l61 (by decide)) (lk_1i l62 (by decide)) (lk_1i l63 (by decide)) (lk_1i l64 (by decide)) (lk_1i l65 (by decide)) lk_1s (lq_l h)
                  refine iq_icmp_ge hS 144 J_HFinder_lookAt_d141 (t := 160) rfl (fun q141 => ?_) rfl (fun q141 => ?_)
                  · replace h := ed_pos q141 h
                    exact J56  _ (lk_1r l46 (by decide)) (lk_1i l47 (by decide)) (lk_1i l48 (by decide)) (lk_1i l49 (by decide)) (lk_1i l50 (by decide)) (lk_1i l51 (by decide)) (lk_1i l52 (by decide)) lk_1s (lk_1i l54 (by decide)) (hk56  h)
                  · replace h := ed_neg q141 h
                    refine iq_aload_n hS 145 J_HFinder_lookAt_d144 (lk_1r l46 (by decide)) rfl ?_
                    refine iq_aload_n hS 146 J_HFinder_lookAt_d145 (lk_1r l46 (by decide)) rfl ?_
                    refine iq_getR hS 149 J_HFinder_lookAt_d146 lf_3_34 (Or.inr ⟨_, rfl⟩) (ka_59 (lw_sI hM45)) (ra_59_7 (lw_sI hM45)) rfl ?_
                    refine iq_iload hS 151 J_HFinder_lookAt_d149 (lk_1i l54 (by decide)) rfl ?_
                    obtain ⟨g151, h⟩ := ed_gd h
                    refine iq_iaload hS 152 J_HFinder_lookAt_d151 ⟨(ka_65 (lw_sI hM45)).1, (ka_65 (lw_sI hM45)).2, g151.1, ix_lt (kl_65 (lw_sI hM45)) g151.2⟩ rfl ?_
                    obtain ⟨Q57, hQ57, h⟩ := bd1_ed h
                    refine iq_cpI hS 155 J_HFinder_lookAt_d152 rfl (pr_inst (vs := [_]) lc_3_94 lT_209 rfl rfl (by decide) (by decide) rfl (Nat.le_of_ble_eq_true rfl) (Nat.le_of_ble_eq_true rfl) (fun _ => Or.inl (pr_b (ka_59 (lw_sI hM45)) (by decide) rfl))) (f_HFinder_leadsOn_ok (dep := dep + 1) (lw_sI hM45) h) rfl ?_
                    intro x57 h
                    replace h := hQ57 _ h
                    refine iq_if_eq hS 158 J_HFinder_lookAt_d155 (t := 160) rfl (fun q155 => ?_) rfl (fun q155 => ?_)
                    · replace h := ed_pos q155 h
                      exact J56  _ (lk_1r l46 (by decide)) (lk_1i l47 (by decide)) (lk_1i l48 (by decide)) (lk_1i l49 (by decide)) (lk_1i l50 (by decide)) (lk_1i l51 (by decide)) (lk_1i l52 (by decide)) lk_1s (lk_1i l54 (by decide)) (hk56  h)
                    · replace h := ed_neg q155 h
                      refine iq_iconst hS 159 J_HFinder_lookAt_d158 (v := 1) (by decide +kernel) rfl ?_
                      exact iq_iret J_HFinder_lookAt_d159 rfl rfl ⟨_, rfl, (lw_sI hM45), ed_some (hR2 _ (lq_r h hq2))⟩
            exact I2 n2 _ _ _ _ hM (lk_1r (lk_1r (lk_1r (lk_1r l0 (by decide)) (by decide)) (by decide)) (by decide)) (lk_1i (lk_1i (lk_1i (lk_1i l1 (by decide)) (by decide)) (by decide)) (by decide)) (lk_1i (lk_1i (lk_1i (lk_1i l2 (by decide)) (by decide)) (by decide)) (by decide)) (lk_1i (lk_1i (lk_1i (lk_1i l3 (by decide)) (by decide)) (by decide)) (by decide)) (lk_1i (lk_1i (lk_1i (lk_1i l4 (by decide)) (by decide)) (by decide)) (by decide)) (lk_1i (lk_1i (lk_1i lk_1s (by decide)) (by decide)) (by decide)) (lk_1i (lk_1i lk_1s (by decide)) (by decide)) (lk_1i lk_1s (by decide)) lk_1s hn2
          · replace h := ed_neg q61 h
            refine iq_iconst hS 65 J_HFinder_lookAt_d64 (v := 1) (by decide +kernel) rfl ?_
            exact iq_iret J_HFinder_lookAt_d65 rfl rfl ⟨_, rfl, hM, ed_some h⟩
theorem f_HFinder_lookAt_fr {p0 : Int32} {p1 : Int32} {p2 : Int32} {p3 : Int32} {M : im_M} {r : Int32 × im_M} (h : f_HFinder_lookAt p0 p1 p2 p3 M = some r) : fr 50728546202701266944 [(59, 8)] M r.2 := by
  replace h : ed (f_HFinder_lookAt p0 p1 p2 p3 M) (fun x => x = r) := ⟨r, h, rfl⟩
  unfold f_HFinder_lookAt at h
  by_cases q9 : p0 < 0
  · replace h := ed_pos q9 h
    exact fr_ret h fr_refl
  · replace h := ed_neg q9 h
    by_cases q13 : p1 < 0
    · replace h := ed_pos q13 h
      exact fr_ret h fr_refl
    · replace h := ed_neg q13 h
      by_cases q32 : (im_i M 28 0) < (p0 + (((17 : Int32) + ((4 : Int32) * p2)) * (im_i M 59 9)))
      · replace h := ed_pos q32 h
        exact fr_ret h fr_refl
      · replace h := ed_neg q32 h
        by_cases q51 : (im_i M 28 1) < (p1 + (((17 : Int32) + ((4 : Int32) * p2)) * (im_i M 59 9)))
        · replace h := ed_pos q51 h
          exact fr_ret h fr_refl
        · replace h := ed_neg q51 h
          obtain ⟨Q1, hQ1, h⟩ := bd1_ed h
          obtain ⟨x1, e1, h⟩ := h
          replace h := hQ1 _ h
          by_cases q61 : ¬ x1 = 0
          · replace h := ed_pos q61 h
            obtain ⟨Q2, hQ2, hR2, h⟩ := bs2_ed h
            have K2 : ∀ (y3 : Int32) (M4 : im_M), fr 50728546202701266944 [(59, 8)] M M4 → Q2 (.inl (y3, M4)) → fr 50728546202701266944 [(59, 8)] M r.2 := by
              intro y3 M4 hM4 h
              replace h := hQ2 _ _ h
              obtain ⟨Q5, hQ5, hR5, h⟩ := bs1_ed h
              have K5 : ∀ (M6 : im_M), fr 50728546202701266944 [(59, 8)] M M6 → Q5 (.inl M6) → fr 50728546202701266944 [(59, 8)] M r.2 := by
                intro M6 hM6 h
                replace h := hQ5 _ h
                exact fr_ret h hM6
              obtain ⟨r5, hr5, hq5⟩ := h
              obtain ⟨n5, hn5⟩ := lp_n hr5
              have I5 : ∀ (n : Nat) (x7 : Int32) (M8 : im_M), fr 50728546202701266944 [(59, 8)] M M8 → lpn (uc2 (f_HFinder_lookAt_L169 p0 p1 p2 ((17 : Int32) + ((4 : Int32) * p2)) y3)) n (x7, M8) = some r5 → fr 50728546202701266944 [(59, 8)] M r.2 := by
                intro n
                induction n with
                | zero => intro x7 M8 hM8 hn; exact (lpn_0 hn).elim
                | succ n ih =>
                  intro x7 M8 hM8 hn
                  have h := lpn_ed2 hn
                  unfold f_HFinder_lookAt_L169 at h
                  by_cases q172 : 4 ≤ x7
                  · replace h := ed_pos q172 h
                    exact K5 _ hM8 (lq_r h hq5)
                  · replace h := ed_neg q172 h
                    obtain ⟨g185, h⟩ := ed_gd h
                    obtain ⟨Q9, hQ9, h⟩ := bd1_ed h
                    have J9 : ∀ (y11 : Int32), Q9 y11 → fr 50728546202701266944 [(59, 8)] M r.2 := by
                      intro y11 h
                      replace h := hQ9 _ h
                      obtain ⟨k20, Q20, hQ20, hk20, h⟩ := jn1_ed h
                      have J20 : ∀ (M22 : im_M), fr 50728546202701266944 [(59, 8)] M M22 → Q20 M22 → fr 50728546202701266944 [(59, 8)] M r.2 := by
                        intro M22 hM22 h
                        replace h := hQ20 _ h
                        exact ih _ _ hM22 (lq_l h)
                      by_cases q218 : (im_i M8 59 10) < y11
                      · replace h := ed_pos q218 h
                        exact J20 _ hM8 (hk20 _ h)
                      · replace h := ed_neg q218 h
                        obtain ⟨Q21, hQ21, h⟩ := bd2_ed h
                        obtain ⟨⟨x21, M21⟩, e21, h⟩ := h
                        replace h := hQ21 _ _ h
                        by_cases q232 : ¬ x21 = 0
                        · replace h := ed_pos q232 h
                          exact J20 _ (fr_tr (fr_mono (by decide) (by decide +kernel) (f_HFinder_add_fr e21)) hM8) (hk20 _ h)
                        · replace h := ed_neg q232 h
                          exact fr_ret (hR5 _ (lq_r h hq5)) (fr_tr (fr_mono (by decide) (by decide +kernel) (f_HFinder_add_fr e21)) hM8)
                    by_cases q195 : (im_i M8 59 10) < (y3 - (im_i M8 65 (Int32.toNatClampNeg ((3 : Int32) - x7))))
                    · replace h := ed_pos q195 h
                      exact J9 _ (ed_some h)
                    · replace h := ed_neg q195 h
                      obtain ⟨Q10, hQ10, h⟩ := bd1_ed h
                      obtain ⟨x10, e10, h⟩ := h
                      replace h := hQ10 _ h
                      exact J9 _ (ed_some h)
              exact I5 n5 _ _ hM4 hn5
            obtain ⟨r2, hr2, hq2⟩ := h
            obtain ⟨n2, hn2⟩ := lp_n hr2
            have I2 : ∀ (n : Nat) (x30 : Int32) (x31 : Int32) (M32 : im_M), fr 50728546202701266944 [(59, 8)] M M32 → lpn (uc3 (f_HFinder_lookAt_L84 p0 p1 p2 p3 ((17 : Int32) + ((4 : Int32) * p2)) ((((17 : Int32) + ((4 : Int32) * p2)) - 7) * (im_i M 59 9)))) n (x30, x31, M32) = some r2 → fr 50728546202701266944 [(59, 8)] M r.2 := by
              intro n
              induction n with
              | zero => intro x30 x31 M32 hM32 hn; exact (lpn_0 hn).elim
              | succ n ih =>
                intro x30 x31 M32 hM32 hn
                have h := lpn_ed3 hn
                unfold f_HFinder_lookAt_L84 at h
                by_cases q87 : 4 ≤ x31
                · replace h := ed_pos q87 h
                  exact K2 _ _ hM32 (lq_r h hq2)
                · replace h := ed_neg q87 h
                  obtain ⟨g105, h⟩ := ed_gd h
                  obtain ⟨g116, h⟩ := ed_gd h
                  obtain ⟨Q33, hQ33, h⟩ := bd1_ed h
                  obtain ⟨x33, e33, h⟩ := h
                  replace h := hQ33 _ h
                  obtain ⟨g124, h⟩ := ed_gd h
                  obtain ⟨g133, h⟩ := ed_gd h
                  obtain ⟨k34, Q34, hQ34, hk34, h⟩ := jn0_ed h
                  have J34 : Q34 () → fr 50728546202701266944 [(59, 8)] M r.2 := by
                    intro  h
                    replace h := hQ34  h
                    exact ih _ _ _ (fr_I (by decide) hM32) (lq_l h)
                  by_cases q141 : p3 ≤ x31
                  · replace h := ed_pos q141 h
                    exact J34  (hk34  h)
                  · replace h := ed_neg q141 h
                    obtain ⟨g151, h⟩ := ed_gd h
                    obtain ⟨Q35, hQ35, h⟩ := bd1_ed h
                    obtain ⟨x35, e35, h⟩ := h
                    replace h := hQ35 _ h
                    by_cases q155 : x35 = 0
                    · replace h := ed_pos q155 h
                      exact J34  (hk34  h)
                    · replace h := ed_neg q155 h
                      exact fr_ret (hR2 _ (lq_r h hq2)) (fr_I (by decide) hM32)
            exact I2 n2 _ _ _ fr_refl hn2
          · replace h := ed_neg q61 h
            exact fr_ret h fr_refl
noncomputable def f_HFinder_lookFrom_L3 (v2 : Int32) (v3 : Int32) (v4 : Int32) (v5 : Int32) (x6 : Int32) (M7 : im_M) : Option ((Int32 × im_M) ⊕ ((im_M) ⊕ (Int32 × im_M))) := if 40 < x6 then some (.inr (.inl M7)) else if v5 < (((17 : Int32) + ((4 : Int32) * x6)) * (im_i M7 59 9)) then some (.inr (.inl M7)) else gd (inb v4 4) <| gd (inb v4 4) <| bd2 (f_HFinder_lookAt (v2 - ((((10 : Int32) + ((4 : Int32) * x6)) * (im_i M7 59 9)) * (xa_13 v4))) (v3 - ((((10 : Int32) + ((4 : Int32) * x6)) * (im_i M7 59 9)) * (xa_14 v4))) x6 v4 M7) fun (x8 : Int32) (M8 : im_M) => if ¬ x8 = 0 then some (.inl ((x6 + 1), M8)) else some (.inr (.inr (0, M8)))
noncomputable def f_HFinder_lookFrom (p0 : Int32) (p1 : Int32) (p2 : Int32) (p3 : Int32) (M : im_M) : Option (Int32 × im_M) := bs1 (lp (uc2 (f_HFinder_lookFrom_L3 p0 p1 p2 p3)) (1, M)) (fun (M9 : im_M) => some (1, M9)) (fun t => some t)
theorem J_HFinder_lookFrom_d0 : decode J_HFinder_lookFrom.2.1 0 = .ok (.iconst 1, 1) := by decide +kernel
theorem J_HFinder_lookFrom_d1 : decode J_HFinder_lookFrom.2.1 1 = .ok (.istore 5, 2) := by decide +kernel
theorem J_HFinder_lookFrom_d3 : decode J_HFinder_lookFrom.2.1 3 = .ok (.iload 5, 2) := by decide +kernel
theorem J_HFinder_lookFrom_d5 : decode J_HFinder_lookFrom.2.1 5 = .ok (.bipush 40, 2) := by decide +kernel
theorem J_HFinder_lookFrom_d7 : decode J_HFinder_lookFrom.2.1 7 = .ok (.if_icmp .gt 72, 3) := by decide +kernel
theorem J_HFinder_lookFrom_d10 : decode J_HFinder_lookFrom.2.1 10 = .ok (.bipush 17, 2) := by decide +kernel
theorem J_HFinder_lookFrom_d12 : decode J_HFinder_lookFrom.2.1 12 = .ok (.iconst 4, 1) := by decide +kernel
theorem J_HFinder_lookFrom_d13 : decode J_HFinder_lookFrom.2.1 13 = .ok (.iload 5, 2) := by decide +kernel
theorem J_HFinder_lookFrom_d15 : decode J_HFinder_lookFrom.2.1 15 = .ok (.imul, 1) := by decide +kernel
theorem J_HFinder_lookFrom_d16 : decode J_HFinder_lookFrom.2.1 16 = .ok (.iadd, 1) := by decide +kernel
theorem J_HFinder_lookFrom_d17 : decode J_HFinder_lookFrom.2.1 17 = .ok (.aload_n 0, 1) := by decide +kernel
theorem J_HFinder_lookFrom_d18 : decode J_HFinder_lookFrom.2.1 18 = .ok (.getfield 66, 3) := by decide +kernel
theorem J_HFinder_lookFrom_d21 : decode J_HFinder_lookFrom.2.1 21 = .ok (.imul, 1) := by decide +kernel
theorem J_HFinder_lookFrom_d22 : decode J_HFinder_lookFrom.2.1 22 = .ok (.iload 4, 2) := by decide +kernel
theorem J_HFinder_lookFrom_d24 : decode J_HFinder_lookFrom.2.1 24 = .ok (.if_icmp .gt 55, 3) := by decide +kernel
theorem J_HFinder_lookFrom_d27 : decode J_HFinder_lookFrom.2.1 27 = .ok (.bipush 10, 2) := by decide +kernel
theorem J_HFinder_lookFrom_d29 : decode J_HFinder_lookFrom.2.1 29 = .ok (.iconst 4, 1) := by decide +kernel
theorem J_HFinder_lookFrom_d30 : decode J_HFinder_lookFrom.2.1 30 = .ok (.iload 5, 2) := by decide +kernel
theorem J_HFinder_lookFrom_d32 : decode J_HFinder_lookFrom.2.1 32 = .ok (.imul, 1) := by decide +kernel
theorem J_HFinder_lookFrom_d33 : decode J_HFinder_lookFrom.2.1 33 = .ok (.iadd, 1) := by decide +kernel
theorem J_HFinder_lookFrom_d34 : decode J_HFinder_lookFrom.2.1 34 = .ok (.aload_n 0, 1) := by decide +kernel
theorem J_HFinder_lookFrom_d35 : decode J_HFinder_lookFrom.2.1 35 = .ok (.getfield 66, 3) := by decide +kernel
theorem J_HFinder_lookFrom_d38 : decode J_HFinder_lookFrom.2.1 38 = .ok (.imul, 1) := by decide +kernel
theorem J_HFinder_lookFrom_d39 : decode J_HFinder_lookFrom.2.1 39 = .ok (.istore 6, 2) := by decide +kernel
theorem J_HFinder_lookFrom_d41 : decode J_HFinder_lookFrom.2.1 41 = .ok (.aload_n 0, 1) := by decide +kernel
theorem J_HFinder_lookFrom_d42 : decode J_HFinder_lookFrom.2.1 42 = .ok (.iload_n 1, 1) := by decide +kernel
theorem J_HFinder_lookFrom_d43 : decode J_HFinder_lookFrom.2.1 43 = .ok (.iload 6, 2) := by decide +kernel
theorem J_HFinder_lookFrom_d45 : decode J_HFinder_lookFrom.2.1 45 = .ok (.getstatic 108, 3) := by decide +kernel
theorem J_HFinder_lookFrom_d48 : decode J_HFinder_lookFrom.2.1 48 = .ok (.iload_n 3, 1) := by decide +kernel
theorem J_HFinder_lookFrom_d49 : decode J_HFinder_lookFrom.2.1 49 = .ok (.iaload, 1) := by decide +kernel
theorem J_HFinder_lookFrom_d50 : decode J_HFinder_lookFrom.2.1 50 = .ok (.imul, 1) := by decide +kernel
theorem J_HFinder_lookFrom_d51 : decode J_HFinder_lookFrom.2.1 51 = .ok (.isub, 1) := by decide +kernel
theorem J_HFinder_lookFrom_d52 : decode J_HFinder_lookFrom.2.1 52 = .ok (.iload_n 2, 1) := by decide +kernel
theorem J_HFinder_lookFrom_d53 : decode J_HFinder_lookFrom.2.1 53 = .ok (.iload 6, 2) := by decide +kernel
theorem J_HFinder_lookFrom_d55 : decode J_HFinder_lookFrom.2.1 55 = .ok (.getstatic 111, 3) := by decide +kernel
theorem J_HFinder_lookFrom_d58 : decode J_HFinder_lookFrom.2.1 58 = .ok (.iload_n 3, 1) := by decide +kernel
theorem J_HFinder_lookFrom_d59 : decode J_HFinder_lookFrom.2.1 59 = .ok (.iaload, 1) := by decide +kernel
theorem J_HFinder_lookFrom_d60 : decode J_HFinder_lookFrom.2.1 60 = .ok (.imul, 1) := by decide +kernel
theorem J_HFinder_lookFrom_d61 : decode J_HFinder_lookFrom.2.1 61 = .ok (.isub, 1) := by decide +kernel
theorem J_HFinder_lookFrom_d62 : decode J_HFinder_lookFrom.2.1 62 = .ok (.iload 5, 2) := by decide +kernel
theorem J_HFinder_lookFrom_d64 : decode J_HFinder_lookFrom.2.1 64 = .ok (.iload_n 3, 1) := by decide +kernel
theorem J_HFinder_lookFrom_d65 : decode J_HFinder_lookFrom.2.1 65 = .ok (.invokevirtual 114, 3) := by decide +kernel
theorem J_HFinder_lookFrom_d68 : decode J_HFinder_lookFrom.2.1 68 = .ok (.ifCond .ne 5, 3) := by decide +kernel
theorem J_HFinder_lookFrom_d71 : decode J_HFinder_lookFrom.2.1 71 = .ok (.iconst 0, 1) := by decide +kernel
theorem J_HFinder_lookFrom_d72 : decode J_HFinder_lookFrom.2.1 72 = .ok (.ireturn, 1) := by decide +kernel
theorem J_HFinder_lookFrom_d73 : decode J_HFinder_lookFrom.2.1 73 = .ok (.iinc 5 1, 3) := by decide +kernel
theorem J_HFinder_lookFrom_d76 : decode J_HFinder_lookFrom.2.1 76 = .ok (.goto (-73), 3) := by decide +kernel
theorem J_HFinder_lookFrom_d79 : decode J_HFinder_lookFrom.2.1 79 = .ok (.iconst 1, 1) := by decide +kernel
theorem J_HFinder_lookFrom_d80 : decode J_HFinder_lookFrom.2.1 80 = .ok (.ireturn, 1) := by decide +kernel
theorem f_HFinder_lookFrom_ok {L : Nat} {xs : Nat → Int32} {dep : Nat} {w : Bool} {p0 : Int32} {p1 : Int32} {p2 : Int32} {p3 : Int32} {M : im_M} {Q : Int32 × im_M → Prop} (hM : lw_S w M) (h : ed (f_HFinder_lookFrom p0 p1 p2 p3 M) Q) : ia (tb_G L xs) (dep + 3) J_HFinder_lookFrom (rwI w Q) (0, lv_args 0 [.ref 59, .int p0, .int p1, .int p2, .int p3], [], M) := by
  have hS : im_St (tb_G L xs) (dep + 3) J_HFinder_lookFrom (ia (tb_G L xs) (dep + 3) J_HFinder_lookFrom (rwI w Q)) := ia_St
  unfold f_HFinder_lookFrom at h
  have l0 : im_lk (lv_args 0 [.ref 59, .int p0, .int p1, .int p2, .int p3]) 0 = some (.ref 59) := rfl
  have l1 : im_lk (lv_args 0 [.ref 59, .int p0, .int p1, .int p2, .int p3]) 1 = some (.int p0) := rfl
  have l2 : im_lk (lv_args 0 [.ref 59, .int p0, .int p1, .int p2, .int p3]) 2 = some (.int p1) := rfl
  have l3 : im_lk (lv_args 0 [.ref 59, .int p0, .int p1, .int p2, .int p3]) 3 = some (.int p2) := rfl
  have l4 : im_lk (lv_args 0 [.ref 59, .int p0, .int p1, .int p2, .int p3]) 4 = some (.int p3) := rfl
  refine iq_iconst hS 1 J_HFinder_lookFrom_d0 (v := 1) (by decide +kernel) rfl ?_
  refine iq_istore hS 3 J_HFinder_lookFrom_d1 (by decide) rfl ?_
  obtain ⟨Q1, hQ1, hR1, h⟩ := bs1_ed h
  have K1 : ∀ (M2 : im_M) (L' : List (Nat × Value)), lw_S w M2 → Q1 (.inl M2) → ia (tb_G L xs) (dep + 3) J_HFinder_lookFrom (rwI w Q) (79, L', [], M2) := by
    intro M2 L' hM2  h
    replace h := hQ1 _ h
    refine iq_iconst hS 80 J_HFinder_lookFrom_d79 (v := 1) (by decide +kernel) rfl ?_
    exact iq_iret J_HFinder_lookFrom_d80 rfl rfl ⟨_, rfl, hM2, ed_some h⟩
  obtain ⟨r1, hr1, hq1⟩ := h
  obtain ⟨n1, hn1⟩ := lp_n hr1
  have I1 : ∀ (n : Nat) (x3 : Int32) (M4 : im_M) (L' : List (Nat × Value)), lw_S w M4 → im_lk L' 0 = some (.ref 59) → im_lk L' 1 = some (.int p0) → im_lk L' 2 = some (.int p1) → im_lk L' 3 = some (.int p2) → im_lk L' 4 = some (.int p3) → im_lk L' 5 = some (.int x3) → lpn (uc2 (f_HFinder_lookFrom_L3 p0 p1 p2 p3)) n (x3, M4) = some r1 → ia (tb_G L xs) (dep + 3) J_HFinder_lookFrom (rwI w Q) (3, L', [], M4) := by
    intro n
    induction n with
    | zero => intro x3 M4 L' hM4 l5 l6 l7 l8 l9 l10 hn; exact (lpn_0 hn).elim
    | succ n ih =>
      intro x3 M4 L' hM4 l5 l6 l7 l8 l9 l10 hn
      have h := lpn_ed2 hn
      unfold f_HFinder_lookFrom_L3 at h
      refine iq_iload hS 5 J_HFinder_lookFrom_d3 l10 rfl ?_
      refine iq_bipush hS 7 J_HFinder_lookFrom_d5 (v := 40) (by decide +kernel) rfl ?_
      refine iq_icmp_gt hS 10 J_HFinder_lookFrom_d7 (t := 79) rfl (fun q7 => ?_) rfl (fun q7 => ?_)
      · replace h := ed_pos q7 h
        exact K1 _ _ hM4  (lq_r h hq1)
      · replace h := ed_neg q7 h
        refine iq_bipush hS 12 J_HFinder_lookFrom_d10 (v := 17) (by decide +kernel) rfl ?_
        refine iq_iconst hS 13 J_HFinder_lookFrom_d12 (v := 4) (by decide +kernel) rfl ?_
        refine iq_iload hS 15 J_HFinder_lookFrom_d13 l10 rfl ?_
        refine iq_imul hS 16 J_HFinder_lookFrom_d15 rfl ?_
        refine iq_iadd hS 17 J_HFinder_lookFrom_d16 rfl ?_
        refine iq_aload_n hS 18 J_HFinder_lookFrom_d17 l5 rfl ?_
        refine iq_getI hS 21 J_HFinder_lookFrom_d18 lf_3_66 (Or.inl rfl) (ka_59 hM4) rfl ?_
        refine iq_imul hS 22 J_HFinder_lookFrom_d21 rfl ?_
        refine iq_iload hS 24 J_HFinder_lookFrom_d22 l9 rfl ?_
        refine iq_icmp_gt hS 27 J_HFinder_lookFrom_d24 (t := 79) rfl (fun q24 => ?_) rfl (fun q24 => ?_)
        · replace h := ed_pos q24 h
          exact K1 _ _ hM4  (lq_r h hq1)
        · replace h := ed_neg q24 h
          refine iq_bipush hS 29 J_HFinder_lookFrom_d27 (v := 10) (by decide +kernel) rfl ?_
          refine iq_iconst hS 30 J_HFinder_lookFrom_d29 (v := 4) (by decide +kernel) rfl ?_
          refine iq_iload hS 32 J_HFinder_lookFrom_d30 l10 rfl ?_
          refine iq_imul hS 33 J_HFinder_lookFrom_d32 rfl ?_
          refine iq_iadd hS 34 J_HFinder_lookFrom_d33 rfl ?_
          refine iq_aload_n hS 35 J_HFinder_lookFrom_d34 l5 rfl ?_
          refine iq_getI hS 38 J_HFinder_lookFrom_d35 lf_3_66 (Or.inl rfl) (ka_59 hM4) rfl ?_
          refine iq_imul hS 39 J_HFinder_lookFrom_d38 rfl ?_
          refine iq_istore hS 41 J_HFinder_lookFrom_d39 (by decide) rfl ?_
          refine iq_aload_n hS 42 J_HFinder_lookFrom_d41 (lk_1r l5 (by decide)) rfl ?_
          refine iq_iload_n hS 43 J_HFinder_lookFrom_d42 (lk_1i l6 (by decide)) rfl ?_
          refine iq_iload hS 45 J_HFinder_lookFrom_d43 lk_1s rfl ?_
          refine iq_getstatic hS 48 J_HFinder_lookFrom_d45 gs_3_108 rfl ?_
          refine iq_iload_n hS 49 J_HFinder_lookFrom_d48 (lk_1i l8 (by decide)) rfl ?_
          obtain ⟨g49, h⟩ := ed_gd h
          refine iq_xl_13 hS 50 J_HFinder_lookFrom_d49 hM4 g49 rfl ?_
          refine iq_imul hS 51 J_HFinder_lookFrom_d50 rfl ?_
          refine iq_isub hS 52 J_HFinder_lookFrom_d51 rfl ?_
          refine iq_iload_n hS 53 J_HFinder_lookFrom_d52 (lk_1i l7 (by decide)) rfl ?_
          refine iq_iload hS 55 J_HFinder_lookFrom_d53 lk_1s rfl ?_
          refine iq_getstatic hS 58 J_HFinder_lookFrom_d55 gs_3_111 rfl ?_
          refine iq_iload_n hS 59 J_HFinder_lookFrom_d58 (lk_1i l8 (by decide)) rfl ?_
          obtain ⟨g59, h⟩ := ed_gd h
          refine iq_xl_14 hS 60 J_HFinder_lookFrom_d59 hM4 g59 rfl ?_
          refine iq_imul hS 61 J_HFinder_lookFrom_d60 rfl ?_
          refine iq_isub hS 62 J_HFinder_lookFrom_d61 rfl ?_
          refine iq_iload hS 64 J_HFinder_lookFrom_d62 (lk_1i l10 (by decide)) rfl ?_
          refine iq_iload_n hS 65 J_HFinder_lookFrom_d64 (lk_1i l8 (by decide)) rfl ?_
          obtain ⟨Q11, hQ11, h⟩ := bd2_ed h
          refine iq_cwI hS 68 J_HFinder_lookFrom_d65 rfl (pr_inst (vs := [_, _, _, _]) lc_3_114 lT_213 rfl rfl (by decide) (by decide) rfl (Nat.le_of_ble_eq_true rfl) (Nat.le_of_ble_eq_true rfl) (fun _ => Or.inl (pr_b (ka_59 hM4) (by decide) rfl))) (f_HFinder_lookAt_ok (dep := dep + 0) hM4 h) rfl ?_
          intro x11 M11 hM11 h
          replace h := hQ11 _ _ h
          refine iq_if_ne hS 71 J_HFinder_lookFrom_d68 (t := 73) rfl (fun q68 => ?_) rfl (fun q68 => ?_)
          · replace h := ed_pos q68 h
            refine iq_iincv hS 76 J_HFinder_lookFrom_d73 (c := 1) (by decide +kernel) (lk_1i l10 (by decide)) (by decide) rfl ?_
            refine iq_goto hS J_HFinder_lookFrom_d76 (t := 3) rfl ?_
            exact ih _ _ _ hM11 (lk_1r (lk_1r l5 (by decide)) (by decide)) (lk_1i (lk_1i l6 (by decide)) (by decide)) (lk_1i (lk_1i l7 (by decide)) (by decide)) (lk_1i (lk_1i l8 (by decide)) (by decide)) (lk_1i (lk_1i l9 (by decide)) (by decide)) lk_1s (lq_l h)
          · replace h := ed_neg q68 h
            refine iq_iconst hS 72 J_HFinder_lookFrom_d71 (v := 0) (by decide +kernel) rfl ?_
            exact iq_iret J_HFinder_lookFrom_d72 rfl rfl ⟨_, rfl, hM11, ed_some (hR1 _ (lq_r h hq1))⟩
  exact I1 n1 _ _ _ hM (lk_1r l0 (by decide)) (lk_1i l1 (by decide)) (lk_1i l2 (by decide)) (lk_1i l3 (by decide)) (lk_1i l4 (by decide)) lk_1s hn1
theorem f_HFinder_lookFrom_fr {p0 : Int32} {p1 : Int32} {p2 : Int32} {p3 : Int32} {M : im_M} {r : Int32 × im_M} (h : f_HFinder_lookFrom p0 p1 p2 p3 M = some r) : fr 50728546202701266944 [(59, 8)] M r.2 := by
  replace h : ed (f_HFinder_lookFrom p0 p1 p2 p3 M) (fun x => x = r) := ⟨r, h, rfl⟩
  unfold f_HFinder_lookFrom at h
  obtain ⟨Q1, hQ1, hR1, h⟩ := bs1_ed h
  have K1 : ∀ (M2 : im_M), fr 50728546202701266944 [(59, 8)] M M2 → Q1 (.inl M2) → fr 50728546202701266944 [(59, 8)] M r.2 := by
    intro M2 hM2 h
    replace h := hQ1 _ h
    exact fr_ret h hM2
  obtain ⟨r1, hr1, hq1⟩ := h
  obtain ⟨n1, hn1⟩ := lp_n hr1
  have I1 : ∀ (n : Nat) (x3 : Int32) (M4 : im_M), fr 50728546202701266944 [(59, 8)] M M4 → lpn (uc2 (f_HFinder_lookFrom_L3 p0 p1 p2 p3)) n (x3, M4) = some r1 → fr 50728546202701266944 [(59, 8)] M r.2 := by
    intro n
    induction n with
    | zero => intro x3 M4 hM4 hn; exact (lpn_0 hn).elim
    | succ n ih =>
      intro x3 M4 hM4 hn
      have h := lpn_ed2 hn
      unfold f_HFinder_lookFrom_L3 at h
      by_cases q7 : 40 < x3
      · replace h := ed_pos q7 h
        exact K1 _ hM4 (lq_r h hq1)
      · replace h := ed_neg q7 h
        by_cases q24 : p3 < (((17 : Int32) + ((4 : Int32) * x3)) * (im_i M4 59 9))
        · replace h := ed_pos q24 h
          exact K1 _ hM4 (lq_r h hq1)
        · replace h := ed_neg q24 h
          obtain ⟨g49, h⟩ := ed_gd h
          obtain ⟨g59, h⟩ := ed_gd h
          obtain ⟨Q5, hQ5, h⟩ := bd2_ed h
          obtain ⟨⟨x5, M5⟩, e5, h⟩ := h
          replace h := hQ5 _ _ h
          by_cases q68 : ¬ x5 = 0
          · replace h := ed_pos q68 h
            exact ih _ _ (fr_tr (fr_mono (by decide) (by decide +kernel) (f_HFinder_lookAt_fr e5)) hM4) (lq_l h)
          · replace h := ed_neg q68 h
            exact fr_ret (hR1 _ (lq_r h hq1)) (fr_tr (fr_mono (by decide) (by decide +kernel) (f_HFinder_lookAt_fr e5)) hM4)
  exact I1 n1 _ _ fr_refl hn1
noncomputable def f_HFinder_lookAtAll_L45 (v11 : Int32) (v12 : Int32) (v13 : Int32) (x14 : Int32) (M15 : im_M) : Option ((Int32 × im_M) ⊕ ((im_M) ⊕ (Int32 × im_M))) := if 4 ≤ x14 then some (.inr (.inl M15)) else gd (inb ((v12 * 512) + v13) 262144) <| bd1 (f_HFinder_leadsOn (im_i M15 61 (Int32.toNatClampNeg ((v12 * 512) + v13))) M15) fun (x16 : Int32) => if x16 = 0 then some (.inr (.inl M15)) else bd1 (f_HFinder_hasEdges v13 v12 x14 M15) fun (x17 : Int32) => jn1 (fun (M22 : im_M) => some (.inl ((x14 + 1), M22))) fun k18 => if x17 = 0 then k18 M15 else bd1 (f_HFinder_edgedWrong v13 v12 x14 M15) fun (x19 : Int32) => bd1 (f_HFinder_leadsOn x19 M15) fun (x20 : Int32) => if x20 = 0 then k18 M15 else bd2 (f_HFinder_lookFrom v13 v12 x14 v11 M15) fun (x21 : Int32) (M21 : im_M) => if ¬ x21 = 0 then k18 M21 else some (.inr (.inr (0, M21)))
noncomputable def f_HFinder_lookAtAll_L23 (v6 : Int32) (v7 : Int32) (x8 : Int32) (M9 : im_M) : Option ((Int32 × im_M) ⊕ ((im_M) ⊕ (Int32 × im_M))) := if (im_i M9 28 0) < (x8 + ((7 : Int32) * (im_i M9 59 9))) then some (.inr (.inl M9)) else bs1 (lp (uc2 (f_HFinder_lookAtAll_L45 v6 v7 x8)) (0, M9)) (fun (M28 : im_M) => some (.inl ((x8 + 1), M28))) (fun t => some (.inr (.inr t)))
noncomputable def f_HFinder_lookAtAll_L2 (v2 : Int32) (x3 : Int32) (M4 : im_M) : Option ((Int32 × im_M) ⊕ ((im_M) ⊕ (Int32 × im_M))) := if (im_i M4 28 1) < (x3 + ((7 : Int32) * (im_i M4 59 9))) then some (.inr (.inl M4)) else bs1 (lp (uc2 (f_HFinder_lookAtAll_L23 v2 x3)) (0, M4)) (fun (M29 : im_M) => some (.inl ((x3 + 1), M29))) (fun t => some (.inr (.inr t)))
noncomputable def f_HFinder_lookAtAll (p0 : Int32) (M : im_M) : Option (Int32 × im_M) := bs1 (lp (uc2 (f_HFinder_lookAtAll_L2 p0)) (0, M)) (fun (M30 : im_M) => some (1, M30)) (fun t => some t)
theorem J_HFinder_lookAtAll_d0 : decode J_HFinder_lookAtAll.2.1 0 = .ok (.iconst 0, 1) := by decide +kernel
theorem J_HFinder_lookAtAll_d1 : decode J_HFinder_lookAtAll.2.1 1 = .ok (.istore_n 2, 1) := by decide +kernel
theorem J_HFinder_lookAtAll_d2 : decode J_HFinder_lookAtAll.2.1 2 = .ok (.iload_n 2, 1) := by decide +kernel
theorem J_HFinder_lookAtAll_d3 : decode J_HFinder_lookAtAll.2.1 3 = .ok (.bipush 7, 2) := by decide +kernel
theorem J_HFinder_lookAtAll_d5 : decode J_HFinder_lookAtAll.2.1 5 = .ok (.aload_n 0, 1) := by decide +kernel
theorem J_HFinder_lookAtAll_d6 : decode J_HFinder_lookAtAll.2.1 6 = .ok (.getfield 66, 3) := by decide +kernel
theorem J_HFinder_lookAtAll_d9 : decode J_HFinder_lookAtAll.2.1 9 = .ok (.imul, 1) := by decide +kernel
theorem J_HFinder_lookAtAll_d10 : decode J_HFinder_lookAtAll.2.1 10 = .ok (.iadd, 1) := by decide +kernel
theorem J_HFinder_lookAtAll_d11 : decode J_HFinder_lookAtAll.2.1 11 = .ok (.aload_n 0, 1) := by decide +kernel
theorem J_HFinder_lookAtAll_d12 : decode J_HFinder_lookAtAll.2.1 12 = .ok (.getfield 37, 3) := by decide +kernel
theorem J_HFinder_lookAtAll_d15 : decode J_HFinder_lookAtAll.2.1 15 = .ok (.getfield 57, 3) := by decide +kernel
theorem J_HFinder_lookAtAll_d18 : decode J_HFinder_lookAtAll.2.1 18 = .ok (.if_icmp .gt 110, 3) := by decide +kernel
theorem J_HFinder_lookAtAll_d21 : decode J_HFinder_lookAtAll.2.1 21 = .ok (.iconst 0, 1) := by decide +kernel
theorem J_HFinder_lookAtAll_d22 : decode J_HFinder_lookAtAll.2.1 22 = .ok (.istore_n 3, 1) := by decide +kernel
theorem J_HFinder_lookAtAll_d23 : decode J_HFinder_lookAtAll.2.1 23 = .ok (.iload_n 3, 1) := by decide +kernel
theorem J_HFinder_lookAtAll_d24 : decode J_HFinder_lookAtAll.2.1 24 = .ok (.bipush 7, 2) := by decide +kernel
theorem J_HFinder_lookAtAll_d26 : decode J_HFinder_lookAtAll.2.1 26 = .ok (.aload_n 0, 1) := by decide +kernel
theorem J_HFinder_lookAtAll_d27 : decode J_HFinder_lookAtAll.2.1 27 = .ok (.getfield 66, 3) := by decide +kernel
theorem J_HFinder_lookAtAll_d30 : decode J_HFinder_lookAtAll.2.1 30 = .ok (.imul, 1) := by decide +kernel
theorem J_HFinder_lookAtAll_d31 : decode J_HFinder_lookAtAll.2.1 31 = .ok (.iadd, 1) := by decide +kernel
theorem J_HFinder_lookAtAll_d32 : decode J_HFinder_lookAtAll.2.1 32 = .ok (.aload_n 0, 1) := by decide +kernel
theorem J_HFinder_lookAtAll_d33 : decode J_HFinder_lookAtAll.2.1 33 = .ok (.getfield 37, 3) := by decide +kernel
theorem J_HFinder_lookAtAll_d36 : decode J_HFinder_lookAtAll.2.1 36 = .ok (.getfield 54, 3) := by decide +kernel
theorem J_HFinder_lookAtAll_d39 : decode J_HFinder_lookAtAll.2.1 39 = .ok (.if_icmp .gt 83, 3) := by decide +kernel
theorem J_HFinder_lookAtAll_d42 : decode J_HFinder_lookAtAll.2.1 42 = .ok (.iconst 0, 1) := by decide +kernel
theorem J_HFinder_lookAtAll_d43 : decode J_HFinder_lookAtAll.2.1 43 = .ok (.istore 4, 2) := by decide +kernel
theorem J_HFinder_lookAtAll_d45 : decode J_HFinder_lookAtAll.2.1 45 = .ok (.iload 4, 2) := by decide +kernel
theorem J_HFinder_lookAtAll_d47 : decode J_HFinder_lookAtAll.2.1 47 = .ok (.iconst 4, 1) := by decide +kernel
theorem J_HFinder_lookAtAll_d48 : decode J_HFinder_lookAtAll.2.1 48 = .ok (.if_icmp .ge 68, 3) := by decide +kernel
theorem J_HFinder_lookAtAll_d51 : decode J_HFinder_lookAtAll.2.1 51 = .ok (.aload_n 0, 1) := by decide +kernel
theorem J_HFinder_lookAtAll_d52 : decode J_HFinder_lookAtAll.2.1 52 = .ok (.aload_n 0, 1) := by decide +kernel
theorem J_HFinder_lookAtAll_d53 : decode J_HFinder_lookAtAll.2.1 53 = .ok (.getfield 19, 3) := by decide +kernel
theorem J_HFinder_lookAtAll_d56 : decode J_HFinder_lookAtAll.2.1 56 = .ok (.iload_n 2, 1) := by decide +kernel
theorem J_HFinder_lookAtAll_d57 : decode J_HFinder_lookAtAll.2.1 57 = .ok (.sipush 512, 3) := by decide +kernel
theorem J_HFinder_lookAtAll_d60 : decode J_HFinder_lookAtAll.2.1 60 = .ok (.imul, 1) := by decide +kernel
theorem J_HFinder_lookAtAll_d61 : decode J_HFinder_lookAtAll.2.1 61 = .ok (.iload_n 3, 1) := by decide +kernel
theorem J_HFinder_lookAtAll_d62 : decode J_HFinder_lookAtAll.2.1 62 = .ok (.iadd, 1) := by decide +kernel
theorem J_HFinder_lookAtAll_d63 : decode J_HFinder_lookAtAll.2.1 63 = .ok (.saload, 1) := by decide +kernel
theorem J_HFinder_lookAtAll_d64 : decode J_HFinder_lookAtAll.2.1 64 = .ok (.invokevirtual 94, 3) := by decide +kernel
theorem J_HFinder_lookAtAll_d67 : decode J_HFinder_lookAtAll.2.1 67 = .ok (.ifCond .eq 49, 3) := by decide +kernel
theorem J_HFinder_lookAtAll_d70 : decode J_HFinder_lookAtAll.2.1 70 = .ok (.aload_n 0, 1) := by decide +kernel
theorem J_HFinder_lookAtAll_d71 : decode J_HFinder_lookAtAll.2.1 71 = .ok (.iload_n 3, 1) := by decide +kernel
theorem J_HFinder_lookAtAll_d72 : decode J_HFinder_lookAtAll.2.1 72 = .ok (.iload_n 2, 1) := by decide +kernel
theorem J_HFinder_lookAtAll_d73 : decode J_HFinder_lookAtAll.2.1 73 = .ok (.iload 4, 2) := by decide +kernel
theorem J_HFinder_lookAtAll_d75 : decode J_HFinder_lookAtAll.2.1 75 = .ok (.invokevirtual 97, 3) := by decide +kernel
theorem J_HFinder_lookAtAll_d78 : decode J_HFinder_lookAtAll.2.1 78 = .ok (.ifCond .eq 32, 3) := by decide +kernel
theorem J_HFinder_lookAtAll_d81 : decode J_HFinder_lookAtAll.2.1 81 = .ok (.aload_n 0, 1) := by decide +kernel
theorem J_HFinder_lookAtAll_d82 : decode J_HFinder_lookAtAll.2.1 82 = .ok (.aload_n 0, 1) := by decide +kernel
theorem J_HFinder_lookAtAll_d83 : decode J_HFinder_lookAtAll.2.1 83 = .ok (.iload_n 3, 1) := by decide +kernel
theorem J_HFinder_lookAtAll_d84 : decode J_HFinder_lookAtAll.2.1 84 = .ok (.iload_n 2, 1) := by decide +kernel
theorem J_HFinder_lookAtAll_d85 : decode J_HFinder_lookAtAll.2.1 85 = .ok (.iload 4, 2) := by decide +kernel
theorem J_HFinder_lookAtAll_d87 : decode J_HFinder_lookAtAll.2.1 87 = .ok (.invokevirtual 101, 3) := by decide +kernel
theorem J_HFinder_lookAtAll_d90 : decode J_HFinder_lookAtAll.2.1 90 = .ok (.invokevirtual 94, 3) := by decide +kernel
theorem J_HFinder_lookAtAll_d93 : decode J_HFinder_lookAtAll.2.1 93 = .ok (.ifCond .eq 17, 3) := by decide +kernel
theorem J_HFinder_lookAtAll_d96 : decode J_HFinder_lookAtAll.2.1 96 = .ok (.aload_n 0, 1) := by decide +kernel
theorem J_HFinder_lookAtAll_d97 : decode J_HFinder_lookAtAll.2.1 97 = .ok (.iload_n 3, 1) := by decide +kernel
theorem J_HFinder_lookAtAll_d98 : decode J_HFinder_lookAtAll.2.1 98 = .ok (.iload_n 2, 1) := by decide +kernel
theorem J_HFinder_lookAtAll_d99 : decode J_HFinder_lookAtAll.2.1 99 = .ok (.iload 4, 2) := by decide +kernel
theorem J_HFinder_lookAtAll_d101 : decode J_HFinder_lookAtAll.2.1 101 = .ok (.iload_n 1, 1) := by decide +kernel
theorem J_HFinder_lookAtAll_d102 : decode J_HFinder_lookAtAll.2.1 102 = .ok (.invokevirtual 104, 3) := by decide +kernel
theorem J_HFinder_lookAtAll_d105 : decode J_HFinder_lookAtAll.2.1 105 = .ok (.ifCond .ne 5, 3) := by decide +kernel
theorem J_HFinder_lookAtAll_d108 : decode J_HFinder_lookAtAll.2.1 108 = .ok (.iconst 0, 1) := by decide +kernel
theorem J_HFinder_lookAtAll_d109 : decode J_HFinder_lookAtAll.2.1 109 = .ok (.ireturn, 1) := by decide +kernel
theorem J_HFinder_lookAtAll_d110 : decode J_HFinder_lookAtAll.2.1 110 = .ok (.iinc 4 1, 3) := by decide +kernel
theorem J_HFinder_lookAtAll_d113 : decode J_HFinder_lookAtAll.2.1 113 = .ok (.goto (-68), 3) := by decide +kernel
theorem J_HFinder_lookAtAll_d116 : decode J_HFinder_lookAtAll.2.1 116 = .ok (.iinc 3 1, 3) := by decide +kernel
theorem J_HFinder_lookAtAll_d119 : decode J_HFinder_lookAtAll.2.1 119 = .ok (.goto (-96), 3) := by decide +kernel
theorem J_HFinder_lookAtAll_d122 : decode J_HFinder_lookAtAll.2.1 122 = .ok (.iinc 2 1, 3) := by decide +kernel
theorem J_HFinder_lookAtAll_d125 : decode J_HFinder_lookAtAll.2.1 125 = .ok (.goto (-123), 3) := by decide +kernel
theorem J_HFinder_lookAtAll_d128 : decode J_HFinder_lookAtAll.2.1 128 = .ok (.iconst 1, 1) := by decide +kernel
theorem J_HFinder_lookAtAll_d129 : decode J_HFinder_lookAtAll.2.1 129 = .ok (.ireturn, 1) := by decide +kernel
theorem f_HFinder_lookAtAll_ok {L : Nat} {xs : Nat → Int32} {dep : Nat} {w : Bool} {p0 : Int32} {M : im_M} {Q : Int32 × im_M → Prop} (hM : lw_S w M) (h : ed (f_HFinder_lookAtAll p0 M) Q) : ia (tb_G L xs) (dep + 4) J_HFinder_lookAtAll (rwI w Q) (0, lv_args 0 [.ref 59, .int p0], [], M) := by
  have hS : im_St (tb_G L xs) (dep + 4) J_HFinder_lookAtAll (ia (tb_G L xs) (dep + 4) J_HFinder_lookAtAll (rwI w Q)) := ia_St
  unfold f_HFinder_lookAtAll at h
  have l0 : im_lk (lv_args 0 [.ref 59, .int p0]) 0 = some (.ref 59) := rfl
  have l1 : im_lk (lv_args 0 [.ref 59, .int p0]) 1 = some (.int p0) := rfl
  refine iq_iconst hS 1 J_HFinder_lookAtAll_d0 (v := 0) (by decide +kernel) rfl ?_
  refine iq_istore_n hS 2 J_HFinder_lookAtAll_d1 (by decide) rfl ?_
  obtain ⟨Q1, hQ1, hR1, h⟩ := bs1_ed h
  have K1 : ∀ (M2 : im_M) (L' : List (Nat × Value)), lw_S w M2 → Q1 (.inl M2) → ia (tb_G L xs) (dep + 4) J_HFinder_lookAtAll (rwI w Q) (128, L', [], M2) := by
    intro M2 L' hM2  h
    replace h := hQ1 _ h
    refine iq_iconst hS 129 J_HFinder_lookAtAll_d128 (v := 1) (by decide +kernel) rfl ?_
    exact iq_iret J_HFinder_lookAtAll_d129 rfl rfl ⟨_, rfl, hM2, ed_some h⟩
  obtain ⟨r1, hr1, hq1⟩ := h
  obtain ⟨n1, hn1⟩ := lp_n hr1
  have I1 : ∀ (n : Nat) (x3 : Int32) (M4 : im_M) (L' : List (Nat × Value)), lw_S w M4 → im_lk L' 0 = some (.ref 59) → im_lk L' 1 = some (.int p0) → im_lk L' 2 = some (.int x3) → lpn (uc2 (f_HFinder_lookAtAll_L2 p0)) n (x3, M4) = some r1 → ia (tb_G L xs) (dep + 4) J_HFinder_lookAtAll (rwI w Q) (2, L', [], M4) := by
    intro n
    induction n with
    | zero => intro x3 M4 L' hM4 l5 l6 l7 hn; exact (lpn_0 hn).elim
    | succ n ih =>
      intro x3 M4 L' hM4 l5 l6 l7 hn
      have h := lpn_ed2 hn
      unfold f_HFinder_lookAtAll_L2 at h
      refine iq_iload_n hS 3 J_HFinder_lookAtAll_d2 l7 rfl ?_
      refine iq_bipush hS 5 J_HFinder_lookAtAll_d3 (v := 7) (by decide +kernel) rfl ?_
      refine iq_aload_n hS 6 J_HFinder_lookAtAll_d5 l5 rfl ?_
      refine iq_getI hS 9 J_HFinder_lookAtAll_d6 lf_3_66 (Or.inl rfl) (ka_59 hM4) rfl ?_
      refine iq_imul hS 10 J_HFinder_lookAtAll_d9 rfl ?_
      refine iq_iadd hS 11 J_HFinder_lookAtAll_d10 rfl ?_
      refine iq_aload_n hS 12 J_HFinder_lookAtAll_d11 l5 rfl ?_
      refine iq_getR hS 15 J_HFinder_lookAtAll_d12 lf_3_37 (Or.inl ⟨_, rfl⟩) (ka_59 hM4) (ra_59_1 hM4) rfl ?_
      refine iq_getI hS 18 J_HFinder_lookAtAll_d15 lf_3_57 (Or.inl rfl) (ka_28 hM4) rfl ?_
      refine iq_icmp_gt hS 21 J_HFinder_lookAtAll_d18 (t := 128) rfl (fun q18 => ?_) rfl (fun q18 => ?_)
      · replace h := ed_pos q18 h
        exact K1 _ _ hM4  (lq_r h hq1)
      · replace h := ed_neg q18 h
        refine iq_iconst hS 22 J_HFinder_lookAtAll_d21 (v := 0) (by decide +kernel) rfl ?_
        refine iq_istore_n hS 23 J_HFinder_lookAtAll_d22 (by decide) rfl ?_
        obtain ⟨Q8, hQ8, hR8, h⟩ := bs1_ed h
        have K8 : ∀ (M9 : im_M) (L' : List (Nat × Value)), lw_S w M9 → im_lk L' 0 = some (.ref 59) → im_lk L' 1 = some (.int p0) → im_lk L' 2 = some (.int x3) → Q8 (.inl M9) → ia (tb_G L xs) (dep + 4) J_HFinder_lookAtAll (rwI w Q) (122, L', [], M9) := by
          intro M9 L' hM9 l10 l11 l12 h
          replace h := hQ8 _ h
          refine iq_iincv hS 125 J_HFinder_lookAtAll_d122 (c := 1) (by decide +kernel) l12 (by decide) rfl ?_
          refine iq_goto hS J_HFinder_lookAtAll_d125 (t := 2) rfl ?_
          exact ih _ _ _ hM9 (lk_1r l10 (by decide)) (lk_1i l11 (by decide)) lk_1s (lq_l h)
        obtain ⟨r8, hr8, hq8⟩ := h
        obtain ⟨n8, hn8⟩ := lp_n hr8
        have I8 : ∀ (n : Nat) (x13 : Int32) (M14 : im_M) (L' : List (Nat × Value)), lw_S w M14 → im_lk L' 0 = some (.ref 59) → im_lk L' 1 = some (.int p0) → im_lk L' 2 = some (.int x3) → im_lk L' 3 = some (.int x13) → lpn (uc2 (f_HFinder_lookAtAll_L23 p0 x3)) n (x13, M14) = some r8 → ia (tb_G L xs) (dep + 4) J_HFinder_lookAtAll (rwI w Q) (23, L', [], M14) := by
          intro n
          induction n with
          | zero => intro x13 M14 L' hM14 l15 l16 l17 l18 hn; exact (lpn_0 hn).elim
          | succ n ih =>
            intro x13 M14 L' hM14 l15 l16 l17 l18 hn
            have h := lpn_ed2 hn
            unfold f_HFinder_lookAtAll_L23 at h
            refine iq_iload_n hS 24 J_HFinder_lookAtAll_d23 l18 rfl ?_
            refine iq_bipush hS 26 J_HFinder_lookAtAll_d24 (v := 7) (by decide +kernel) rfl ?_
            refine iq_aload_n hS 27 J_HFinder_lookAtAll_d26 l15 rfl ?_
            refine iq_getI hS 30 J_HFinder_lookAtAll_d27 lf_3_66 (Or.inl rfl) (ka_59 hM14) rfl ?_
            refine iq_imul hS 31 J_HFinder_lookAtAll_d30 rfl ?_
            refine iq_iadd hS 32 J_HFinder_lookAtAll_d31 rfl ?_
            refine iq_aload_n hS 33 J_HFinder_lookAtAll_d32 l15 rfl ?_
            refine iq_getR hS 36 J_HFinder_lookAtAll_d33 lf_3_37 (Or.inl ⟨_, rfl⟩) (ka_59 hM14) (ra_59_1 hM14) rfl ?_
            refine iq_getI hS 39 J_HFinder_lookAtAll_d36 lf_3_54 (Or.inl rfl) (ka_28 hM14) rfl ?_
            refine iq_icmp_gt hS 42 J_HFinder_lookAtAll_d39 (t := 122) rfl (fun q39 => ?_) rfl (fun q39 => ?_)
            · replace h := ed_pos q39 h
              exact K8 _ _ hM14 l15 l16 l17 (lq_r h hq8)
            · replace h := ed_neg q39 h
              refine iq_iconst hS 43 J_HFinder_lookAtAll_d42 (v := 0) (by decide +kernel) rfl ?_
              refine iq_istore hS 45 J_HFinder_lookAtAll_d43 (by decide) rfl ?_
              obtain ⟨Q19, hQ19, hR19, h⟩ := bs1_ed h
              have K19 : ∀ (M20 : im_M) (L' : List (Nat × Value)), lw_S w M20 → im_lk L' 0 = some (.ref 59) → im_lk L' 1 = some (.int p0) → im_lk L' 2 = some (.int x3) → im_lk L' 3 = some (.int x13) → Q19 (.inl M20) → ia (tb_G L xs) (dep + 4) J_HFinder_lookAtAll (rwI w Q) (116, L', [], M20) := by
                intro M20 L' hM20 l21 l22 l23 l24 h
                replace h := hQ19 _ h
                refine iq_iincv hS 119 J_HFinder_lookAtAll_d116 (c := 1) (by decide +kernel) l24 (by decide) rfl ?_
                refine iq_goto hS J_HFinder_lookAtAll_d119 (t := 23) rfl ?_
                exact ih _ _ _ hM20 (lk_1r l21 (by decide)) (lk_1i l22 (by decide)) (lk_1i l23 (by decide)) lk_1s (lq_l h)
              obtain ⟨r19, hr19, hq19⟩ := h
              obtain ⟨n19, hn19⟩ := lp_n hr19
              have I19 : ∀ (n : Nat) (x25 : Int32) (M26 : im_M) (L' : List (Nat × Value)), lw_S w M26 → im_lk L' 0 = some (.ref 59) → im_lk L' 1 = some (.int p0) → im_lk L' 2 = some (.int x3) → im_lk L' 3 = some (.int x13) → im_lk L' 4 = some (.int x25) → lpn (uc2 (f_HFinder_lookAtAll_L45 p0 x3 x13)) n (x25, M26) = some r19 → ia (tb_G L xs) (dep + 4) J_HFinder_lookAtAll (rwI w Q) (45, L', [], M26) := by
                intro n
                induction n with
                | zero => intro x25 M26 L' hM26 l27 l28 l29 l30 l31 hn; exact (lpn_0 hn).elim
                | succ n ih =>
                  intro x25 M26 L' hM26 l27 l28 l29 l30 l31 hn
                  have h := lpn_ed2 hn
                  unfold f_HFinder_lookAtAll_L45 at h
                  refine iq_iload hS 47 J_HFinder_lookAtAll_d45 l31 rfl ?_
                  refine iq_iconst hS 48 J_HFinder_lookAtAll_d47 (v := 4) (by decide +kernel) rfl ?_
                  refine iq_icmp_ge hS 51 J_HFinder_lookAtAll_d48 (t := 116) rfl (fun q48 => ?_) rfl (fun q48 => ?_)
                  · replace h := ed_pos q48 h
                    exact K19 _ _ hM26 l27 l28 l29 l30 (lq_r h hq19)
                  · replace h := ed_neg q48 h
                    refine iq_aload_n hS 52 J_HFinder_lookAtAll_d51 l27 rfl ?_
                    refine iq_aload_n hS 53 J_HFinder_lookAtAll_d52 l27 rfl ?_
                    refine iq_getR hS 56 J_HFinder_lookAtAll_d53 lf_3_19 (Or.inr ⟨_, rfl⟩) (ka_59 hM26) (ra_59_3 hM26) rfl ?_
                    refine iq_iload_n hS 57 J_HFinder_lookAtAll_d56 l29 rfl ?_
                    refine iq_sipush hS 60 J_HFinder_lookAtAll_d57 (v := 512) (by decide +kernel) rfl ?_
                    refine iq_imul hS 61 J_HFinder_lookAtAll_d60 rfl ?_
                    refine iq_iload_n hS 62 J_HFinder_lookAtAll_d61 l30 rfl ?_
                    refine iq_iadd hS 63 J_HFinder_lookAtAll_d62 rfl ?_
                    obtain ⟨g63, h⟩ := ed_gd h
                    refine iq_saload hS 64 J_HFinder_lookAtAll_d63 ⟨(ka_61 hM26).1, (ka_61 hM26).2, g63.1, ix_lt (kl_61 hM26) g63.2⟩ rfl ?_
                    obtain ⟨Q32, hQ32, h⟩ := bd1_ed h
                    refine iq_cpI hS 67 J_HFinder_lookAtAll_d64 rfl (pr_inst (vs := [_]) lc_3_94 lT_209 rfl rfl (by decide) (by decide) rfl (Nat.le_of_ble_eq_true rfl) (Nat.le_of_ble_eq_true rfl) (fun _ => Or.inl (pr_b (ka_59 hM26) (by decide) rfl))) (f_HFinder_leadsOn_ok (dep := dep + 3) hM26 h) rfl ?_
                    intro x32 h
                    replace h := hQ32 _ h
                    refine iq_if_eq hS 70 J_HFinder_lookAtAll_d67 (t := 116) rfl (fun q67 => ?_) rfl (fun q67 => ?_)
                    · replace h := ed_pos q67 h
                      exact K19 _ _ hM26 l27 l28 l29 l30 (lq_r h hq19)
                    · replace h := ed_neg q67 h
                      refine iq_aload_n hS 71 J_HFinder_lookAtAll_d70 l27 rfl ?_
                      refine iq_iload_n hS 72 J_HFinder_lookAtAll_d71 l30 rfl ?_
                      refine iq_iload_n hS 73 J_HFinder_lookAtAll_d72 l29 rfl ?_
                      refine iq_iload hS 75 J_HFinder_lookAtAll_d73 l31 rfl ?_
                      obtain ⟨Q33, hQ33, h⟩ := bd1_ed h
                      refine iq_cpI hS 78 J_HFinder_lookAtAll_d75 rfl (pr_inst (vs := [_, _, _]) lc_3_97 lT_210 rfl rfl (by decide) (by decide) rfl (Nat.le_of_ble_eq_true rfl) (Nat.le_of_ble_eq_true rfl) (fun _ => Or.inl (pr_b (ka_59 hM26) (by decide) rfl))) (f_HFinder_hasEdges_ok (dep := dep + 3) hM26 h) rfl ?_
                      intro x33 h
                      replace h := hQ33 _ h
                      obtain ⟨k34, Q34, hQ34, hk34, h⟩ := jn1_ed h
                      have J34 : ∀ (M38 : im_M) (L' : List (Nat × Value)), lw_S w M38 → im_lk L' 0 = some (.ref 59) → im_lk L' 1 = some (.int p0) → im_lk L' 2 = some (.int x3) → im_lk L' 3 = some (.int x13) → im_lk L' 4 = some (.int x25) → Q34 M38 → ia (tb_G L xs) (dep + 4) J_HFinder_lookAtAll (rwI w Q) (110, L', [], M38) := by
                        intro M38 L' hM38 l39 l40 l41 l42 l43 h
                        replace h := hQ34 _ h
                        refine iq_iincv hS 113 J_HFinder_lookAtAll_d110 (c := 1) (by decide +kernel) l43 (by decide) rfl ?_
                        refine iq_goto hS J_HFinder_lookAtAll_d113 (t := 45) rfl ?_
                        exact ih _ _ _ hM38 (lk_1r l39 (by decide)) (lk_1i l40 (by decide)) (lk_1i l41 (by decide)) (lk_1i l42 (by decide)) lk_1s (lq_l h)
                      refine iq_if_eq hS 81 J_HFinder_lookAtAll_d78 (t := 110) rfl (fun q78 => ?_) rfl (fun q78 => ?_)
                      · replace h := ed_pos q78 h
                        exact J34 _ _ hM26 l27 l28 l29 l30 l31 (hk34 _ h)
                      · replace h := ed_neg q78 h
                        refine iq_aload_n hS 82 J_HFinder_lookAtAll_d81 l27 rfl ?_
                        refine iq_aload_n hS 83 J_HFinder_lookAtAll_d82 l27 rfl ?_
                        refine iq_iload_n hS 84 J_HFinder_lookAtAll_d83 l30 rfl ?_
                        refine iq_iload_n hS 85 J_HFinder_lookAtAll_d84 l29 rfl ?_
                        refine iq_iload hS 87 J_HFinder_lookAtAll_d85 l31 rfl ?_
                        obtain ⟨Q35, hQ35, h⟩ := bd1_ed h
                        refine iq_cpI hS 90 J_HFinder_lookAtAll_d87 rfl (pr_inst (vs := [_, _, _]) lc_3_101 lT_211 rfl rfl (by decide) (by decide) rfl (Nat.le_of_ble_eq_true rfl) (Nat.le_of_ble_eq_true rfl) (fun _ => Or.inl (pr_b (ka_59 hM26) (by decide) rfl))) (f_HFinder_edgedWrong_ok (dep := dep + 2) hM26 h) rfl ?_
                        intro x35 h
                        replace h := hQ35 _ h
                        obtain ⟨Q36, hQ36, h⟩ := bd1_ed h
                        refine iq_cpI hS 93 J_HFinder_lookAtAll_d90 rfl (pr_inst (vs := [_]) lc_3_94 lT_209 rfl rfl (by decide) (by decide) rfl (Nat.le_of_ble_eq_true rfl) (Nat.le_of_ble_eq_true rfl) (fun _ => Or.inl (pr_b (ka_59 hM26) (by decide) rfl))) (f_HFinder_leadsOn_ok (dep := dep + 3) hM26 h) rfl ?_
                        intro x36 h
                        replace h := hQ36 _ h
                        refine iq_if_eq hS 96 J_HFinder_lookAtAll_d93 (t := 110) rfl (fun q93 => ?_) rfl (fun q93 => ?_)
                        · replace h := ed_pos q93 h
                          exact J34 _ _ hM26 l27 l28 l29 l30 l31 (hk34 _ h)
                        · replace h := ed_neg q93 h
                          refine iq_aload_n hS 97 J_HFinder_lookAtAll_d96 l27 rfl ?_
                          refine iq_iload_n hS 98 J_HFinder_lookAtAll_d97 l30 rfl ?_
                          refine iq_iload_n hS 99 J_HFinder_lookAtAll_d98 l29 rfl ?_
                          refine iq_iload hS 101 J_HFinder_lookAtAll_d99 l31 rfl ?_
                          refine iq_iload_n hS 102 J_HFinder_lookAtAll_d101 l28 rfl ?_
                          obtain ⟨Q37, hQ37, h⟩ := bd2_ed h
                          refine iq_cwI hS 105 J_HFinder_lookAtAll_d102 rfl (pr_inst (vs := [_, _, _, _]) lc_3_104 lT_212 rfl rfl (by decide) (by decide) rfl (Nat.le_of_ble_eq_true rfl) (Nat.le_of_ble_eq_true rfl) (fun _ => Or.inl (pr_b (ka_59 hM26) (by decide) rfl))) (f_HFinder_lookFrom_ok (dep := dep + 0) hM26 h) rfl ?_
                          intro x37 M37 hM37 h
                          replace h := hQ37 _ _ h
                          refine iq_if_ne hS 108 J_HFinder_lookAtAll_d105 (t := 110) rfl (fun q105 => ?_) rfl (fun q105 => ?_)
                          · replace h := ed_pos q105 h
                            exact J34 _ _ hM37 l27 l28 l29 l30 l31 (hk34 _ h)
                          · replace h := ed_neg q105 h
                            refine iq_iconst hS 109 J_HFinder_lookAtAll_d108 (v := 0) (by decide +kernel) rfl ?_
                            exact iq_iret J_HFinder_lookAtAll_d109 rfl rfl ⟨_, rfl, hM37, ed_some (hR1 _ (lq_r (hR8 _ (lq_r (hR19 _ (lq_r h hq19)) hq8)) hq1))⟩
              exact I19 n19 _ _ _ hM14 (lk_1r l15 (by decide)) (lk_1i l16 (by decide)) (lk_1i l17 (by decide)) (lk_1i l18 (by decide)) lk_1s hn19
        exact I8 n8 _ _ _ hM4 (lk_1r l5 (by decide)) (lk_1i l6 (by decide)) (lk_1i l7 (by decide)) lk_1s hn8
  exact I1 n1 _ _ _ hM (lk_1r l0 (by decide)) (lk_1i l1 (by decide)) lk_1s hn1
theorem f_HFinder_lookAtAll_fr {p0 : Int32} {M : im_M} {r : Int32 × im_M} (h : f_HFinder_lookAtAll p0 M = some r) : fr 50728546202701266944 [(59, 8)] M r.2 := by
  replace h : ed (f_HFinder_lookAtAll p0 M) (fun x => x = r) := ⟨r, h, rfl⟩
  unfold f_HFinder_lookAtAll at h
  obtain ⟨Q1, hQ1, hR1, h⟩ := bs1_ed h
  have K1 : ∀ (M2 : im_M), fr 50728546202701266944 [(59, 8)] M M2 → Q1 (.inl M2) → fr 50728546202701266944 [(59, 8)] M r.2 := by
    intro M2 hM2 h
    replace h := hQ1 _ h
    exact fr_ret h hM2
  obtain ⟨r1, hr1, hq1⟩ := h
  obtain ⟨n1, hn1⟩ := lp_n hr1
  have I1 : ∀ (n : Nat) (x3 : Int32) (M4 : im_M), fr 50728546202701266944 [(59, 8)] M M4 → lpn (uc2 (f_HFinder_lookAtAll_L2 p0)) n (x3, M4) = some r1 → fr 50728546202701266944 [(59, 8)] M r.2 := by
    intro n
    induction n with
    | zero => intro x3 M4 hM4 hn; exact (lpn_0 hn).elim
    | succ n ih =>
      intro x3 M4 hM4 hn
      have h := lpn_ed2 hn
      unfold f_HFinder_lookAtAll_L2 at h
      by_cases q18 : (im_i M4 28 1) < (x3 + ((7 : Int32) * (im_i M4 59 9)))
      · replace h := ed_pos q18 h
        exact K1 _ hM4 (lq_r h hq1)
      · replace h := ed_neg q18 h
        obtain ⟨Q5, hQ5, hR5, h⟩ := bs1_ed h
        have K5 : ∀ (M6 : im_M), fr 50728546202701266944 [(59, 8)] M M6 → Q5 (.inl M6) → fr 50728546202701266944 [(59, 8)] M r.2 := by
          intro M6 hM6 h
          replace h := hQ5 _ h
          exact ih _ _ hM6 (lq_l h)
        obtain ⟨r5, hr5, hq5⟩ := h
        obtain ⟨n5, hn5⟩ := lp_n hr5
        have I5 : ∀ (n : Nat) (x7 : Int32) (M8 : im_M), fr 50728546202701266944 [(59, 8)] M M8 → lpn (uc2 (f_HFinder_lookAtAll_L23 p0 x3)) n (x7, M8) = some r5 → fr 50728546202701266944 [(59, 8)] M r.2 := by
          intro n
          induction n with
          | zero => intro x7 M8 hM8 hn; exact (lpn_0 hn).elim
          | succ n ih =>
            intro x7 M8 hM8 hn
            have h := lpn_ed2 hn
            unfold f_HFinder_lookAtAll_L23 at h
            by_cases q39 : (im_i M8 28 0) < (x7 + ((7 : Int32) * (im_i M8 59 9)))
            · replace h := ed_pos q39 h
              exact K5 _ hM8 (lq_r h hq5)
            · replace h := ed_neg q39 h
              obtain ⟨Q9, hQ9, hR9, h⟩ := bs1_ed h
              have K9 : ∀ (M10 : im_M), fr 50728546202701266944 [(59, 8)] M M10 → Q9 (.inl M10) → fr 50728546202701266944 [(59, 8)] M r.2 := by
                intro M10 hM10 h
                replace h := hQ9 _ h
                exact ih _ _ hM10 (lq_l h)
              obtain ⟨r9, hr9, hq9⟩ := h
              obtain ⟨n9, hn9⟩ := lp_n hr9
              have I9 : ∀ (n : Nat) (x11 : Int32) (M12 : im_M), fr 50728546202701266944 [(59, 8)] M M12 → lpn (uc2 (f_HFinder_lookAtAll_L45 p0 x3 x7)) n (x11, M12) = some r9 → fr 50728546202701266944 [(59, 8)] M r.2 := by
                intro n
                induction n with
                | zero => intro x11 M12 hM12 hn; exact (lpn_0 hn).elim
                | succ n ih =>
                  intro x11 M12 hM12 hn
                  have h := lpn_ed2 hn
                  unfold f_HFinder_lookAtAll_L45 at h
                  by_cases q48 : 4 ≤ x11
                  · replace h := ed_pos q48 h
                    exact K9 _ hM12 (lq_r h hq9)
                  · replace h := ed_neg q48 h
                    obtain ⟨g63, h⟩ := ed_gd h
                    obtain ⟨Q13, hQ13, h⟩ := bd1_ed h
                    obtain ⟨x13, e13, h⟩ := h
                    replace h := hQ13 _ h
                    by_cases q67 : x13 = 0
                    · replace h := ed_pos q67 h
                      exact K9 _ hM12 (lq_r h hq9)
                    · replace h := ed_neg q67 h
                      obtain ⟨Q14, hQ14, h⟩ := bd1_ed h
                      obtain ⟨x14, e14, h⟩ := h
                      replace h := hQ14 _ h
                      obtain ⟨k15, Q15, hQ15, hk15, h⟩ := jn1_ed h
                      have J15 : ∀ (M19 : im_M), fr 50728546202701266944 [(59, 8)] M M19 → Q15 M19 → fr 50728546202701266944 [(59, 8)] M r.2 := by
                        intro M19 hM19 h
                        replace h := hQ15 _ h
                        exact ih _ _ hM19 (lq_l h)
                      by_cases q78 : x14 = 0
                      · replace h := ed_pos q78 h
                        exact J15 _ hM12 (hk15 _ h)
                      · replace h := ed_neg q78 h
                        obtain ⟨Q16, hQ16, h⟩ := bd1_ed h
                        obtain ⟨x16, e16, h⟩ := h
                        replace h := hQ16 _ h
                        obtain ⟨Q17, hQ17, h⟩ := bd1_ed h
                        obtain ⟨x17, e17, h⟩ := h
                        replace h := hQ17 _ h
                        by_cases q93 : x17 = 0
                        · replace h := ed_pos q93 h
                          exact J15 _ hM12 (hk15 _ h)
                        · replace h := ed_neg q93 h
                          obtain ⟨Q18, hQ18, h⟩ := bd2_ed h
                          obtain ⟨⟨x18, M18⟩, e18, h⟩ := h
                          replace h := hQ18 _ _ h
                          by_cases q105 : ¬ x18 = 0
                          · replace h := ed_pos q105 h
                            exact J15 _ (fr_tr (fr_mono (by decide) (by decide +kernel) (f_HFinder_lookFrom_fr e18)) hM12) (hk15 _ h)
                          · replace h := ed_neg q105 h
                            exact fr_ret (hR1 _ (lq_r (hR5 _ (lq_r (hR9 _ (lq_r h hq9)) hq5)) hq1)) (fr_tr (fr_mono (by decide) (by decide +kernel) (f_HFinder_lookFrom_fr e18)) hM12)
              exact I9 n9 _ _ hM8 hn9
        exact I5 n5 _ _ hM4 hn5
  exact I1 n1 _ _ fr_refl hn1
noncomputable def f_HFinder_part (p0 : Int32) (p1 : Int32) (M : im_M) : Option (Int32) := gd (inb p0 300) <| if p1 = 0 then some ((Int64.toInt32 ((im_l M 62 (Int32.toNatClampNeg p0)) >>> (Int32.toInt64 13 &&& 63) : Int64)) &&& 511) else if p1 = 1 then some (Int64.toInt32 ((im_l M 62 (Int32.toNatClampNeg p0)) >>> (Int32.toInt64 22 &&& 63) : Int64)) else if p1 = 2 then some ((Int64.toInt32 ((im_l M 62 (Int32.toNatClampNeg p0)) >>> (Int32.toInt64 8 &&& 63) : Int64)) &&& 31) else if p1 = 3 then some ((Int64.toInt32 ((im_l M 62 (Int32.toNatClampNeg p0)) >>> (Int32.toInt64 2 &&& 63) : Int64)) &&& 63) else if p1 = 4 then some ((Int64.toInt32 (im_l M 62 (Int32.toNatClampNeg p0))) &&& 3) else gd (inb p0 300) <| some (im_i M 63 (Int32.toNatClampNeg p0))
theorem J_HFinder_part_d0 : decode J_HFinder_part.2.1 0 = .ok (.aload_n 0, 1) := by decide +kernel
theorem J_HFinder_part_d1 : decode J_HFinder_part.2.1 1 = .ok (.getfield 23, 3) := by decide +kernel
theorem J_HFinder_part_d4 : decode J_HFinder_part.2.1 4 = .ok (.iload_n 1, 1) := by decide +kernel
theorem J_HFinder_part_d5 : decode J_HFinder_part.2.1 5 = .ok (.laload, 1) := by decide +kernel
theorem J_HFinder_part_d6 : decode J_HFinder_part.2.1 6 = .ok (.lstore_n 3, 1) := by decide +kernel
theorem J_HFinder_part_d7 : decode J_HFinder_part.2.1 7 = .ok (.iload_n 2, 1) := by decide +kernel
theorem J_HFinder_part_d8 : decode J_HFinder_part.2.1 8 = .ok (.tableswitch 74 0 4 #[36, 46, 52, 61, 69], 36) := by decide +kernel
theorem J_HFinder_part_d44 : decode J_HFinder_part.2.1 44 = .ok (.lload_n 3, 1) := by decide +kernel
theorem J_HFinder_part_d45 : decode J_HFinder_part.2.1 45 = .ok (.bipush 13, 2) := by decide +kernel
theorem J_HFinder_part_d47 : decode J_HFinder_part.2.1 47 = .ok (.lshr, 1) := by decide +kernel
theorem J_HFinder_part_d48 : decode J_HFinder_part.2.1 48 = .ok (.l2i, 1) := by decide +kernel
theorem J_HFinder_part_d49 : decode J_HFinder_part.2.1 49 = .ok (.sipush 511, 3) := by decide +kernel
theorem J_HFinder_part_d52 : decode J_HFinder_part.2.1 52 = .ok (.iand, 1) := by decide +kernel
theorem J_HFinder_part_d53 : decode J_HFinder_part.2.1 53 = .ok (.ireturn, 1) := by decide +kernel
theorem J_HFinder_part_d54 : decode J_HFinder_part.2.1 54 = .ok (.lload_n 3, 1) := by decide +kernel
theorem J_HFinder_part_d55 : decode J_HFinder_part.2.1 55 = .ok (.bipush 22, 2) := by decide +kernel
theorem J_HFinder_part_d57 : decode J_HFinder_part.2.1 57 = .ok (.lshr, 1) := by decide +kernel
theorem J_HFinder_part_d58 : decode J_HFinder_part.2.1 58 = .ok (.l2i, 1) := by decide +kernel
theorem J_HFinder_part_d59 : decode J_HFinder_part.2.1 59 = .ok (.ireturn, 1) := by decide +kernel
theorem J_HFinder_part_d60 : decode J_HFinder_part.2.1 60 = .ok (.lload_n 3, 1) := by decide +kernel
theorem J_HFinder_part_d61 : decode J_HFinder_part.2.1 61 = .ok (.bipush 8, 2) := by decide +kernel
theorem J_HFinder_part_d63 : decode J_HFinder_part.2.1 63 = .ok (.lshr, 1) := by decide +kernel
theorem J_HFinder_part_d64 : decode J_HFinder_part.2.1 64 = .ok (.l2i, 1) := by decide +kernel
theorem J_HFinder_part_d65 : decode J_HFinder_part.2.1 65 = .ok (.bipush 31, 2) := by decide +kernel
theorem J_HFinder_part_d67 : decode J_HFinder_part.2.1 67 = .ok (.iand, 1) := by decide +kernel
theorem J_HFinder_part_d68 : decode J_HFinder_part.2.1 68 = .ok (.ireturn, 1) := by decide +kernel
theorem J_HFinder_part_d69 : decode J_HFinder_part.2.1 69 = .ok (.lload_n 3, 1) := by decide +kernel
theorem J_HFinder_part_d70 : decode J_HFinder_part.2.1 70 = .ok (.iconst 2, 1) := by decide +kernel
theorem J_HFinder_part_d71 : decode J_HFinder_part.2.1 71 = .ok (.lshr, 1) := by decide +kernel
theorem J_HFinder_part_d72 : decode J_HFinder_part.2.1 72 = .ok (.l2i, 1) := by decide +kernel
theorem J_HFinder_part_d73 : decode J_HFinder_part.2.1 73 = .ok (.bipush 63, 2) := by decide +kernel
theorem J_HFinder_part_d75 : decode J_HFinder_part.2.1 75 = .ok (.iand, 1) := by decide +kernel
theorem J_HFinder_part_d76 : decode J_HFinder_part.2.1 76 = .ok (.ireturn, 1) := by decide +kernel
theorem J_HFinder_part_d77 : decode J_HFinder_part.2.1 77 = .ok (.lload_n 3, 1) := by decide +kernel
theorem J_HFinder_part_d78 : decode J_HFinder_part.2.1 78 = .ok (.l2i, 1) := by decide +kernel
theorem J_HFinder_part_d79 : decode J_HFinder_part.2.1 79 = .ok (.iconst 3, 1) := by decide +kernel
theorem J_HFinder_part_d80 : decode J_HFinder_part.2.1 80 = .ok (.iand, 1) := by decide +kernel
theorem J_HFinder_part_d81 : decode J_HFinder_part.2.1 81 = .ok (.ireturn, 1) := by decide +kernel
theorem J_HFinder_part_d82 : decode J_HFinder_part.2.1 82 = .ok (.aload_n 0, 1) := by decide +kernel
theorem J_HFinder_part_d83 : decode J_HFinder_part.2.1 83 = .ok (.getfield 27, 3) := by decide +kernel
theorem J_HFinder_part_d86 : decode J_HFinder_part.2.1 86 = .ok (.iload_n 1, 1) := by decide +kernel
theorem J_HFinder_part_d87 : decode J_HFinder_part.2.1 87 = .ok (.iaload, 1) := by decide +kernel
theorem J_HFinder_part_d88 : decode J_HFinder_part.2.1 88 = .ok (.ireturn, 1) := by decide +kernel
theorem f_HFinder_part_ok {L : Nat} {xs : Nat → Int32} {dep : Nat} {w : Bool} {p0 : Int32} {p1 : Int32} {M : im_M} {Q : Int32 → Prop} (hM : lw_S w M) (h : ed (f_HFinder_part p0 p1 M) Q) : ia (tb_G L xs) dep J_HFinder_part (rpI M Q) (0, lv_args 0 [.ref 59, .int p0, .int p1], [], M) := by
  have hS : im_St (tb_G L xs) dep J_HFinder_part (ia (tb_G L xs) dep J_HFinder_part (rpI M Q)) := ia_St
  unfold f_HFinder_part at h
  have l0 : im_lk (lv_args 0 [.ref 59, .int p0, .int p1]) 0 = some (.ref 59) := rfl
  have l1 : im_lk (lv_args 0 [.ref 59, .int p0, .int p1]) 1 = some (.int p0) := rfl
  have l2 : im_lk (lv_args 0 [.ref 59, .int p0, .int p1]) 2 = some (.int p1) := rfl
  refine iq_aload_n hS 1 J_HFinder_part_d0 l0 rfl ?_
  refine iq_getR hS 4 J_HFinder_part_d1 lf_3_23 (Or.inr ⟨_, rfl⟩) (ka_59 hM) (ra_59_4 hM) rfl ?_
  refine iq_iload_n hS 5 J_HFinder_part_d4 l1 rfl ?_
  obtain ⟨g5, h⟩ := ed_gd h
  refine iq_laload hS 6 J_HFinder_part_d5 ⟨(ka_62 hM).1, (ka_62 hM).2, g5.1, ix_lt (kl_62 hM) g5.2⟩ rfl ?_
  refine iq_lstore_n hS 7 J_HFinder_part_d6 (by decide) rfl ?_
  refine iq_iload_n hS 8 J_HFinder_part_d7 (lk_2i l2 (by decide) (by decide)) rfl ?_
  by_cases q8_0 : p1 = 0
  · replace h := ed_pos q8_0 h
    refine iq_tsw hS J_HFinder_part_d8 (t := 44) (sw_v q8_0 (by decide +kernel)) ?_
    refine iq_lload_n hS 45 J_HFinder_part_d44 lk_2s rfl ?_
    refine iq_bipush hS 47 J_HFinder_part_d45 (v := 13) (by decide +kernel) rfl ?_
    refine iq_lshr hS 48 J_HFinder_part_d47 rfl ?_
    refine iq_l2i hS 49 J_HFinder_part_d48 rfl ?_
    refine iq_sipush hS 52 J_HFinder_part_d49 (v := 511) (by decide +kernel) rfl ?_
    refine iq_iand hS 53 J_HFinder_part_d52 rfl ?_
    exact iq_iret J_HFinder_part_d53 rfl rfl ⟨_, rfl, rfl, ed_some h⟩
  replace h := ed_neg q8_0 h
  by_cases q8_1 : p1 = 1
  · replace h := ed_pos q8_1 h
    refine iq_tsw hS J_HFinder_part_d8 (t := 54) (sw_v q8_1 (by decide +kernel)) ?_
    refine iq_lload_n hS 55 J_HFinder_part_d54 lk_2s rfl ?_
    refine iq_bipush hS 57 J_HFinder_part_d55 (v := 22) (by decide +kernel) rfl ?_
    refine iq_lshr hS 58 J_HFinder_part_d57 rfl ?_
    refine iq_l2i hS 59 J_HFinder_part_d58 rfl ?_
    exact iq_iret J_HFinder_part_d59 rfl rfl ⟨_, rfl, rfl, ed_some h⟩
  replace h := ed_neg q8_1 h
  by_cases q8_2 : p1 = 2
  · replace h := ed_pos q8_2 h
    refine iq_tsw hS J_HFinder_part_d8 (t := 60) (sw_v q8_2 (by decide +kernel)) ?_
    refine iq_lload_n hS 61 J_HFinder_part_d60 lk_2s rfl ?_
    refine iq_bipush hS 63 J_HFinder_part_d61 (v := 8) (by decide +kernel) rfl ?_
    refine iq_lshr hS 64 J_HFinder_part_d63 rfl ?_
    refine iq_l2i hS 65 J_HFinder_part_d64 rfl ?_
    refine iq_bipush hS 67 J_HFinder_part_d65 (v := 31) (by decide +kernel) rfl ?_
    refine iq_iand hS 68 J_HFinder_part_d67 rfl ?_
    exact iq_iret J_HFinder_part_d68 rfl rfl ⟨_, rfl, rfl, ed_some h⟩
  replace h := ed_neg q8_2 h
  by_cases q8_3 : p1 = 3
  · replace h := ed_pos q8_3 h
    refine iq_tsw hS J_HFinder_part_d8 (t := 69) (sw_v q8_3 (by decide +kernel)) ?_
    refine iq_lload_n hS 70 J_HFinder_part_d69 lk_2s rfl ?_
    refine iq_iconst hS 71 J_HFinder_part_d70 (v := 2) (by decide +kernel) rfl ?_
    refine iq_lshr hS 72 J_HFinder_part_d71 rfl ?_
    refine iq_l2i hS 73 J_HFinder_part_d72 rfl ?_
    refine iq_bipush hS 75 J_HFinder_part_d73 (v := 63) (by decide +kernel) rfl ?_
    refine iq_iand hS 76 J_HFinder_part_d75 rfl ?_
    exact iq_iret J_HFinder_part_d76 rfl rfl ⟨_, rfl, rfl, ed_some h⟩
  replace h := ed_neg q8_3 h
  by_cases q8_4 : p1 = 4
  · replace h := ed_pos q8_4 h
    refine iq_tsw hS J_HFinder_part_d8 (t := 77) (sw_v q8_4 (by decide +kernel)) ?_
    refine iq_lload_n hS 78 J_HFinder_part_d77 lk_2s rfl ?_
    refine iq_l2i hS 79 J_HFinder_part_d78 rfl ?_
    refine iq_iconst hS 80 J_HFinder_part_d79 (v := 3) (by decide +kernel) rfl ?_
    refine iq_iand hS 81 J_HFinder_part_d80 rfl ?_
    exact iq_iret J_HFinder_part_d81 rfl rfl ⟨_, rfl, rfl, ed_some h⟩
  replace h := ed_neg q8_4 h
  refine iq_tsw hS J_HFinder_part_d8 (t := 82) (sw_d [0, 1, 2, 3, 4] (by decide) (by decide) (by decide +kernel) (sw_nc q8_0 (sw_nc q8_1 (sw_nc q8_2 (sw_nc q8_3 (sw_nc q8_4 sw_nn)))))) ?_
  refine iq_aload_n hS 83 J_HFinder_part_d82 (lk_2r l0 (by decide) (by decide)) rfl ?_
  refine iq_getR hS 86 J_HFinder_part_d83 lf_3_27 (Or.inr ⟨_, rfl⟩) (ka_59 hM) (ra_59_5 hM) rfl ?_
  refine iq_iload_n hS 87 J_HFinder_part_d86 (lk_2i l1 (by decide) (by decide)) rfl ?_
  obtain ⟨g87, h⟩ := ed_gd h
  refine iq_iaload hS 88 J_HFinder_part_d87 ⟨(ka_63 hM).1, (ka_63 hM).2, g87.1, ix_lt (kl_63 hM) g87.2⟩ rfl ?_
  exact iq_iret J_HFinder_part_d88 rfl rfl ⟨_, rfl, rfl, ed_some h⟩
