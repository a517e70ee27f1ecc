/-! A TURN OF THE LAW'S LOOP, FOR EACH KIND OF CALL -/
theorem pr_X {X : im_E} {d d' : im_J} {hh : List (Nat × Nat × Nat × Nat)} {k pc : Nat} {L : List (Nat × Value)} {M : im_M} {st vs rest : List Value} (hX : X.2.2.1 d.2.2.2.2.2.2 k = some (d', hh)) (hst : st = vs.reverse ++ rest) (hl : d'.2.2.1 ≤ 45) (hn : vs.length = d'.2.2.2.2.1) (hs : (rest.map fun v => v.category).sum ≤ 8) (hsl : (lg_sl vs).length ≤ d'.2.2.1) : im_prepX X d (.invokestatic k) (pc, L, st, M) = some (d', hh, vs, rest) := by
  subst hst
  unfold im_prepX
  simp only [hX]
  have e1 : vs.reverse.length = d'.2.2.2.2.1 := by rw [List.length_reverse]; exact hn
  have e2 : (vs.reverse ++ rest).drop d'.2.2.2.2.1 = rest := by rw [← e1]; exact List.drop_left
  have e3 : (vs.reverse ++ rest).take d'.2.2.2.2.1 = vs.reverse := by rw [← e1]; exact List.take_left
  rw [e2, e3, List.reverse_reverse, if_pos ⟨hl, by rw [List.length_append, e1]; exact Nat.le_add_right _ _, hs, hsl⟩]
theorem xk_s {L : Nat} {xs : Nat → Int32} : ig_xk (tb_G L xs) 5000000 = (33, L) := by
  show tb_xk L 5000000 = _
  unfold tb_xk
  rw [if_pos rfl]
theorem iq_scr {L : Nat} {xs : Nat → Int32} {dep : Nat} {d : im_J} {R : im_F → Prop} {pc i c : Nat} {l : List (Nat × Value)} {r : List Value} {M : im_M} {v : Int32} (h : im_St (tb_G L xs) dep d R) (q : Nat) (hd : decode d.2.1 pc = .ok (.iaload, 1)) (hn : im_n M = 139) (hv : v = nI (i + c)) (hL : L ≤ 2560) (hi : i + c < L) (hq : pc + 1 = q) (k : R (q, l, .int (xs (i + c)) :: r, M)) : R (pc, l, .int v :: .ref 5000000 :: r, M) := by
  subst hv
  refine iq_xiaload h q hd (by rw [hn]; decide) ⟨by rw [xk_s], by rw [nI_toInt (by omega)]; omega, by rw [xk_s, nI_toInt (by omega)]; omega⟩ hq ?_
  have e : ig_xi (tb_G L xs) 5000000 (nI (i + c)).toNatClampNeg = xs (i + c) := by
    rw [nI_clamp (by omega)]
    show tb_xi xs 5000000 (i + c) = _
    unfold tb_xi
    rw [if_pos rfl]
  rw [e]; exact k
theorem lw_L5 {i : Nat} {Lc : List (Nat × Value)} {v : Int32} (h0 : im_lk Lc 0 = some (.ref 5000000)) (h1 : im_lk Lc 1 = some (.ref 0)) (h2 : im_lk Lc 2 = some (.ref 69)) (h3 : im_lk Lc 3 = some (.ref 138)) (hv : v = nI (i + 5)) : lw_L (i + 5) (im_st1 Lc 4 (.int v)) := by
  subst hv
  exact ⟨lk_1r h0 (by decide), lk_1r h1 (by decide), lk_1r h2 (by decide), lk_1r h3 (by decide), lk_1s⟩
/-- from the head of the loop, with so much thrown already -/
def lw_H (L : Nat) (xs : Nat → Int32) (dep : Nat) (P : Option Value → im_M → Nat → Prop) (i : Nat) (M : im_M) : Prop := ∀ Lc, lw_L i Lc → ix (tb_G L xs) tb_X (dep + 30) J_law [] P (23, Lc, [], M)
/-- what comes of a call of the law's own method: its answer, memory, throws -/
def lw_W (L : Nat) (xs : Nat → Int32) (dep : Nat) (d : im_J) (hh : List (Nat × Nat × Nat × Nat)) (vs : List Value) (M : im_M) (K : Bool → Int32 → im_M → Prop) : Prop := ∃ (k : Int32) (M2 : im_M) (t : Nat) (w : Bool), lw_S w M2 ∧ t ≤ 1 ∧ ix (tb_G L xs) tb_X (dep + 29) d hh (fun r M1 t1 => r = some (.int k) ∧ M1 = M2 ∧ t1 = t) (0, lv_args 0 vs, [], M) ∧ K w k M2
theorem J_law_d144 : decode J_law.2.1 144 = .ok (.aload_n 1, 1) := by decide +kernel
theorem J_law_d145 : decode J_law.2.1 145 = .ok (.aload_n 0, 1) := by decide +kernel
theorem J_law_d146 : decode J_law.2.1 146 = .ok (.iload 4, 2) := by decide +kernel
theorem J_law_d148 : decode J_law.2.1 148 = .ok (.iconst 1, 1) := by decide +kernel
theorem J_law_d149 : decode J_law.2.1 149 = .ok (.iadd, 1) := by decide +kernel
theorem J_law_d150 : decode J_law.2.1 150 = .ok (.iaload, 1) := by decide +kernel
theorem J_law_d151 : decode J_law.2.1 151 = .ok (.aload_n 0, 1) := by decide +kernel
theorem J_law_d152 : decode J_law.2.1 152 = .ok (.iload 4, 2) := by decide +kernel
theorem J_law_d154 : decode J_law.2.1 154 = .ok (.iconst 2, 1) := by decide +kernel
theorem J_law_d155 : decode J_law.2.1 155 = .ok (.iadd, 1) := by decide +kernel
theorem J_law_d156 : decode J_law.2.1 156 = .ok (.iaload, 1) := by decide +kernel
theorem J_law_d157 : decode J_law.2.1 157 = .ok (.i2l, 1) := by decide +kernel
theorem J_law_d158 : decode J_law.2.1 158 = .ok (.bipush 32, 2) := by decide +kernel
theorem J_law_d160 : decode J_law.2.1 160 = .ok (.lshl, 1) := by decide +kernel
theorem J_law_d161 : decode J_law.2.1 161 = .ok (.aload_n 0, 1) := by decide +kernel
theorem J_law_d162 : decode J_law.2.1 162 = .ok (.iload 4, 2) := by decide +kernel
theorem J_law_d164 : decode J_law.2.1 164 = .ok (.iconst 3, 1) := by decide +kernel
theorem J_law_d165 : decode J_law.2.1 165 = .ok (.iadd, 1) := by decide +kernel
theorem J_law_d166 : decode J_law.2.1 166 = .ok (.iaload, 1) := by decide +kernel
theorem J_law_d167 : decode J_law.2.1 167 = .ok (.i2l, 1) := by decide +kernel
theorem J_law_d168 : decode J_law.2.1 168 = .ok (.ldc2_w 71, 3) := by decide +kernel
theorem J_law_d171 : decode J_law.2.1 171 = .ok (.land, 1) := by decide +kernel
theorem J_law_d172 : decode J_law.2.1 172 = .ok (.lor, 1) := by decide +kernel
theorem J_law_d173 : decode J_law.2.1 173 = .ok (.aload_n 3, 1) := by decide +kernel
theorem J_law_d174 : decode J_law.2.1 174 = .ok (.invokestatic 73, 3) := by decide +kernel
theorem J_law_d177 : decode J_law.2.1 177 = .ok (.istore 5, 2) := by decide +kernel
theorem J_law_d179 : decode J_law.2.1 179 = .ok (.aload_n 2, 1) := by decide +kernel
theorem J_law_d180 : decode J_law.2.1 180 = .ok (.aload_n 0, 1) := by decide +kernel
theorem J_law_d181 : decode J_law.2.1 181 = .ok (.iload 4, 2) := by decide +kernel
theorem J_law_d183 : decode J_law.2.1 183 = .ok (.iconst 1, 1) := by decide +kernel
theorem J_law_d184 : decode J_law.2.1 184 = .ok (.iadd, 1) := by decide +kernel
theorem J_law_d185 : decode J_law.2.1 185 = .ok (.iaload, 1) := by decide +kernel
theorem J_law_d186 : decode J_law.2.1 186 = .ok (.aload_n 0, 1) := by decide +kernel
theorem J_law_d187 : decode J_law.2.1 187 = .ok (.iload 4, 2) := by decide +kernel
theorem J_law_d189 : decode J_law.2.1 189 = .ok (.iconst 2, 1) := by decide +kernel
theorem J_law_d190 : decode J_law.2.1 190 = .ok (.iadd, 1) := by decide +kernel
theorem J_law_d191 : decode J_law.2.1 191 = .ok (.iaload, 1) := by decide +kernel
theorem J_law_d192 : decode J_law.2.1 192 = .ok (.i2l, 1) := by decide +kernel
theorem J_law_d193 : decode J_law.2.1 193 = .ok (.bipush 32, 2) := by decide +kernel
theorem J_law_d195 : decode J_law.2.1 195 = .ok (.lshl, 1) := by decide +kernel
theorem J_law_d196 : decode J_law.2.1 196 = .ok (.aload_n 0, 1) := by decide +kernel
theorem J_law_d197 : decode J_law.2.1 197 = .ok (.iload 4, 2) := by decide +kernel
theorem J_law_d199 : decode J_law.2.1 199 = .ok (.iconst 3, 1) := by decide +kernel
theorem J_law_d200 : decode J_law.2.1 200 = .ok (.iadd, 1) := by decide +kernel
theorem J_law_d201 : decode J_law.2.1 201 = .ok (.iaload, 1) := by decide +kernel
theorem J_law_d202 : decode J_law.2.1 202 = .ok (.i2l, 1) := by decide +kernel
theorem J_law_d203 : decode J_law.2.1 203 = .ok (.ldc2_w 71, 3) := by decide +kernel
theorem J_law_d206 : decode J_law.2.1 206 = .ok (.land, 1) := by decide +kernel
theorem J_law_d207 : decode J_law.2.1 207 = .ok (.lor, 1) := by decide +kernel
theorem J_law_d208 : decode J_law.2.1 208 = .ok (.invokevirtual 78, 3) := by decide +kernel
theorem J_law_d211 : decode J_law.2.1 211 = .ok (.istore 6, 2) := by decide +kernel
theorem J_law_d213 : decode J_law.2.1 213 = .ok (.aload_n 2, 1) := by decide +kernel
theorem J_law_d214 : decode J_law.2.1 214 = .ok (.invokevirtual 79, 3) := by decide +kernel
theorem J_law_d217 : decode J_law.2.1 217 = .ok (.iload 5, 2) := by decide +kernel
theorem J_law_d219 : decode J_law.2.1 219 = .ok (.if_icmp .eq 5, 3) := by decide +kernel
theorem J_law_d222 : decode J_law.2.1 222 = .ok (.iconst 0, 1) := by decide +kernel
theorem J_law_d223 : decode J_law.2.1 223 = .ok (.ireturn, 1) := by decide +kernel
theorem J_law_d224 : decode J_law.2.1 224 = .ok (.iload 5, 2) := by decide +kernel
theorem J_law_d226 : decode J_law.2.1 226 = .ok (.ifCond .ne 15, 3) := by decide +kernel
theorem J_law_d229 : decode J_law.2.1 229 = .ok (.aload_n 3, 1) := by decide +kernel
theorem J_law_d230 : decode J_law.2.1 230 = .ok (.iconst 0, 1) := by decide +kernel
theorem J_law_d231 : decode J_law.2.1 231 = .ok (.laload, 1) := by decide +kernel
theorem J_law_d232 : decode J_law.2.1 232 = .ok (.iload 6, 2) := by decide +kernel
theorem J_law_d234 : decode J_law.2.1 234 = .ok (.i2l, 1) := by decide +kernel
theorem J_law_d235 : decode J_law.2.1 235 = .ok (.lcmp, 1) := by decide +kernel
theorem J_law_d236 : decode J_law.2.1 236 = .ok (.ifCond .eq 5, 3) := by decide +kernel
theorem J_law_d239 : decode J_law.2.1 239 = .ok (.iconst 0, 1) := by decide +kernel
theorem J_law_d240 : decode J_law.2.1 240 = .ok (.ireturn, 1) := by decide +kernel
theorem J_law_d241 : decode J_law.2.1 241 = .ok (.goto 1184, 3) := by decide +kernel
theorem J_law_d244 : decode J_law.2.1 244 = .ok (.aload_n 1, 1) := by decide +kernel
theorem J_law_d245 : decode J_law.2.1 245 = .ok (.invokevirtual 83, 3) := by decide +kernel
theorem J_law_d248 : decode J_law.2.1 248 = .ok (.aload_n 2, 1) := by decide +kernel
theorem J_law_d249 : decode J_law.2.1 249 = .ok (.invokevirtual 86, 3) := by decide +kernel
theorem J_law_d252 : decode J_law.2.1 252 = .ok (.if_icmp .eq 1173, 3) := by decide +kernel
theorem J_law_d255 : decode J_law.2.1 255 = .ok (.iconst 0, 1) := by decide +kernel
theorem J_law_d256 : decode J_law.2.1 256 = .ok (.ireturn, 1) := by decide +kernel
theorem J_law_d257 : decode J_law.2.1 257 = .ok (.aload_n 1, 1) := by decide +kernel
theorem J_law_d258 : decode J_law.2.1 258 = .ok (.aload_n 0, 1) := by decide +kernel
theorem J_law_d259 : decode J_law.2.1 259 = .ok (.iload 4, 2) := by decide +kernel
theorem J_law_d261 : decode J_law.2.1 261 = .ok (.iconst 1, 1) := by decide +kernel
theorem J_law_d262 : decode J_law.2.1 262 = .ok (.iadd, 1) := by decide +kernel
theorem J_law_d263 : decode J_law.2.1 263 = .ok (.iaload, 1) := by decide +kernel
theorem J_law_d264 : decode J_law.2.1 264 = .ok (.aload_n 0, 1) := by decide +kernel
theorem J_law_d265 : decode J_law.2.1 265 = .ok (.iload 4, 2) := by decide +kernel
theorem J_law_d267 : decode J_law.2.1 267 = .ok (.iconst 2, 1) := by decide +kernel
theorem J_law_d268 : decode J_law.2.1 268 = .ok (.iadd, 1) := by decide +kernel
theorem J_law_d269 : decode J_law.2.1 269 = .ok (.iaload, 1) := by decide +kernel
theorem J_law_d270 : decode J_law.2.1 270 = .ok (.aload_n 0, 1) := by decide +kernel
theorem J_law_d271 : decode J_law.2.1 271 = .ok (.iload 4, 2) := by decide +kernel
theorem J_law_d273 : decode J_law.2.1 273 = .ok (.iconst 3, 1) := by decide +kernel
theorem J_law_d274 : decode J_law.2.1 274 = .ok (.iadd, 1) := by decide +kernel
theorem J_law_d275 : decode J_law.2.1 275 = .ok (.iaload, 1) := by decide +kernel
theorem J_law_d276 : decode J_law.2.1 276 = .ok (.aload_n 0, 1) := by decide +kernel
theorem J_law_d277 : decode J_law.2.1 277 = .ok (.iload 4, 2) := by decide +kernel
theorem J_law_d279 : decode J_law.2.1 279 = .ok (.iconst 4, 1) := by decide +kernel
theorem J_law_d280 : decode J_law.2.1 280 = .ok (.iadd, 1) := by decide +kernel
theorem J_law_d281 : decode J_law.2.1 281 = .ok (.iaload, 1) := by decide +kernel
theorem J_law_d282 : decode J_law.2.1 282 = .ok (.invokestatic 87, 3) := by decide +kernel
theorem J_law_d285 : decode J_law.2.1 285 = .ok (.istore 5, 2) := by decide +kernel
theorem J_law_d287 : decode J_law.2.1 287 = .ok (.aload_n 2, 1) := by decide +kernel
theorem J_law_d288 : decode J_law.2.1 288 = .ok (.aload_n 0, 1) := by decide +kernel
theorem J_law_d289 : decode J_law.2.1 289 = .ok (.iload 4, 2) := by decide +kernel
theorem J_law_d291 : decode J_law.2.1 291 = .ok (.iconst 1, 1) := by decide +kernel
theorem J_law_d292 : decode J_law.2.1 292 = .ok (.iadd, 1) := by decide +kernel
theorem J_law_d293 : decode J_law.2.1 293 = .ok (.iaload, 1) := by decide +kernel
theorem J_law_d294 : decode J_law.2.1 294 = .ok (.aload_n 0, 1) := by decide +kernel
theorem J_law_d295 : decode J_law.2.1 295 = .ok (.iload 4, 2) := by decide +kernel
theorem J_law_d297 : decode J_law.2.1 297 = .ok (.iconst 2, 1) := by decide +kernel
theorem J_law_d298 : decode J_law.2.1 298 = .ok (.iadd, 1) := by decide +kernel
theorem J_law_d299 : decode J_law.2.1 299 = .ok (.iaload, 1) := by decide +kernel
theorem J_law_d300 : decode J_law.2.1 300 = .ok (.aload_n 0, 1) := by decide +kernel
theorem J_law_d301 : decode J_law.2.1 301 = .ok (.iload 4, 2) := by decide +kernel
theorem J_law_d303 : decode J_law.2.1 303 = .ok (.iconst 3, 1) := by decide +kernel
theorem J_law_d304 : decode J_law.2.1 304 = .ok (.iadd, 1) := by decide +kernel
theorem J_law_d305 : decode J_law.2.1 305 = .ok (.iaload, 1) := by decide +kernel
theorem J_law_d306 : decode J_law.2.1 306 = .ok (.aload_n 0, 1) := by decide +kernel
theorem J_law_d307 : decode J_law.2.1 307 = .ok (.iload 4, 2) := by decide +kernel
theorem J_law_d309 : decode J_law.2.1 309 = .ok (.iconst 4, 1) := by decide +kernel
theorem J_law_d310 : decode J_law.2.1 310 = .ok (.iadd, 1) := by decide +kernel
theorem J_law_d311 : decode J_law.2.1 311 = .ok (.iaload, 1) := by decide +kernel
theorem J_law_d312 : decode J_law.2.1 312 = .ok (.invokevirtual 90, 3) := by decide +kernel
theorem J_law_d315 : decode J_law.2.1 315 = .ok (.aload_n 2, 1) := by decide +kernel
theorem J_law_d316 : decode J_law.2.1 316 = .ok (.invokevirtual 79, 3) := by decide +kernel
theorem J_law_d319 : decode J_law.2.1 319 = .ok (.iload 5, 2) := by decide +kernel
theorem J_law_d321 : decode J_law.2.1 321 = .ok (.if_icmp .eq 5, 3) := by decide +kernel
theorem J_law_d324 : decode J_law.2.1 324 = .ok (.iconst 0, 1) := by decide +kernel
theorem J_law_d325 : decode J_law.2.1 325 = .ok (.ireturn, 1) := by decide +kernel
theorem J_law_d326 : decode J_law.2.1 326 = .ok (.goto 1099, 3) := by decide +kernel
theorem J_law_d329 : decode J_law.2.1 329 = .ok (.aload_n 1, 1) := by decide +kernel
theorem J_law_d330 : decode J_law.2.1 330 = .ok (.aload_n 0, 1) := by decide +kernel
theorem J_law_d331 : decode J_law.2.1 331 = .ok (.iload 4, 2) := by decide +kernel
theorem J_law_d333 : decode J_law.2.1 333 = .ok (.iconst 1, 1) := by decide +kernel
theorem J_law_d334 : decode J_law.2.1 334 = .ok (.iadd, 1) := by decide +kernel
theorem J_law_d335 : decode J_law.2.1 335 = .ok (.iaload, 1) := by decide +kernel
theorem J_law_d336 : decode J_law.2.1 336 = .ok (.aload_n 0, 1) := by decide +kernel
theorem J_law_d337 : decode J_law.2.1 337 = .ok (.iload 4, 2) := by decide +kernel
theorem J_law_d339 : decode J_law.2.1 339 = .ok (.iconst 2, 1) := by decide +kernel
theorem J_law_d340 : decode J_law.2.1 340 = .ok (.iadd, 1) := by decide +kernel
theorem J_law_d341 : decode J_law.2.1 341 = .ok (.iaload, 1) := by decide +kernel
theorem J_law_d342 : decode J_law.2.1 342 = .ok (.aload_n 0, 1) := by decide +kernel
theorem J_law_d343 : decode J_law.2.1 343 = .ok (.iload 4, 2) := by decide +kernel
theorem J_law_d345 : decode J_law.2.1 345 = .ok (.iconst 3, 1) := by decide +kernel
theorem J_law_d346 : decode J_law.2.1 346 = .ok (.iadd, 1) := by decide +kernel
theorem J_law_d347 : decode J_law.2.1 347 = .ok (.iaload, 1) := by decide +kernel
theorem J_law_d348 : decode J_law.2.1 348 = .ok (.aload_n 0, 1) := by decide +kernel
theorem J_law_d349 : decode J_law.2.1 349 = .ok (.iload 4, 2) := by decide +kernel
theorem J_law_d351 : decode J_law.2.1 351 = .ok (.iconst 4, 1) := by decide +kernel
theorem J_law_d352 : decode J_law.2.1 352 = .ok (.iadd, 1) := by decide +kernel
theorem J_law_d353 : decode J_law.2.1 353 = .ok (.iaload, 1) := by decide +kernel
theorem J_law_d354 : decode J_law.2.1 354 = .ok (.invokestatic 91, 3) := by decide +kernel
theorem J_law_d357 : decode J_law.2.1 357 = .ok (.istore 5, 2) := by decide +kernel
theorem J_law_d359 : decode J_law.2.1 359 = .ok (.aload_n 2, 1) := by decide +kernel
theorem J_law_d360 : decode J_law.2.1 360 = .ok (.aload_n 0, 1) := by decide +kernel
theorem J_law_d361 : decode J_law.2.1 361 = .ok (.iload 4, 2) := by decide +kernel
theorem J_law_d363 : decode J_law.2.1 363 = .ok (.iconst 1, 1) := by decide +kernel
theorem J_law_d364 : decode J_law.2.1 364 = .ok (.iadd, 1) := by decide +kernel
theorem J_law_d365 : decode J_law.2.1 365 = .ok (.iaload, 1) := by decide +kernel
theorem J_law_d366 : decode J_law.2.1 366 = .ok (.aload_n 0, 1) := by decide +kernel
theorem J_law_d367 : decode J_law.2.1 367 = .ok (.iload 4, 2) := by decide +kernel
theorem J_law_d369 : decode J_law.2.1 369 = .ok (.iconst 2, 1) := by decide +kernel
theorem J_law_d370 : decode J_law.2.1 370 = .ok (.iadd, 1) := by decide +kernel
theorem J_law_d371 : decode J_law.2.1 371 = .ok (.iaload, 1) := by decide +kernel
theorem J_law_d372 : decode J_law.2.1 372 = .ok (.aload_n 0, 1) := by decide +kernel
theorem J_law_d373 : decode J_law.2.1 373 = .ok (.iload 4, 2) := by decide +kernel
theorem J_law_d375 : decode J_law.2.1 375 = .ok (.iconst 3, 1) := by decide +kernel
theorem J_law_d376 : decode J_law.2.1 376 = .ok (.iadd, 1) := by decide +kernel
theorem J_law_d377 : decode J_law.2.1 377 = .ok (.iaload, 1) := by decide +kernel
theorem J_law_d378 : decode J_law.2.1 378 = .ok (.aload_n 0, 1) := by decide +kernel
theorem J_law_d379 : decode J_law.2.1 379 = .ok (.iload 4, 2) := by decide +kernel
theorem J_law_d381 : decode J_law.2.1 381 = .ok (.iconst 4, 1) := by decide +kernel
theorem J_law_d382 : decode J_law.2.1 382 = .ok (.iadd, 1) := by decide +kernel
theorem J_law_d383 : decode J_law.2.1 383 = .ok (.iaload, 1) := by decide +kernel
theorem J_law_d384 : decode J_law.2.1 384 = .ok (.invokevirtual 93, 3) := by decide +kernel
theorem J_law_d387 : decode J_law.2.1 387 = .ok (.aload_n 2, 1) := by decide +kernel
theorem J_law_d388 : decode J_law.2.1 388 = .ok (.invokevirtual 79, 3) := by decide +kernel
theorem J_law_d391 : decode J_law.2.1 391 = .ok (.iload 5, 2) := by decide +kernel
theorem J_law_d393 : decode J_law.2.1 393 = .ok (.if_icmp .eq 5, 3) := by decide +kernel
theorem J_law_d396 : decode J_law.2.1 396 = .ok (.iconst 0, 1) := by decide +kernel
theorem J_law_d397 : decode J_law.2.1 397 = .ok (.ireturn, 1) := by decide +kernel
theorem J_law_d398 : decode J_law.2.1 398 = .ok (.goto 1027, 3) := by decide +kernel
theorem J_law_d401 : decode J_law.2.1 401 = .ok (.aload_n 1, 1) := by decide +kernel
theorem J_law_d402 : decode J_law.2.1 402 = .ok (.invokevirtual 94, 3) := by decide +kernel
theorem J_law_d405 : decode J_law.2.1 405 = .ok (.aload_n 2, 1) := by decide +kernel
theorem J_law_d406 : decode J_law.2.1 406 = .ok (.invokevirtual 97, 3) := by decide +kernel
theorem J_law_d409 : decode J_law.2.1 409 = .ok (.if_icmp .eq 1016, 3) := by decide +kernel
theorem J_law_d412 : decode J_law.2.1 412 = .ok (.iconst 0, 1) := by decide +kernel
theorem J_law_d413 : decode J_law.2.1 413 = .ok (.ireturn, 1) := by decide +kernel
theorem J_law_d414 : decode J_law.2.1 414 = .ok (.aload_n 1, 1) := by decide +kernel
theorem J_law_d415 : decode J_law.2.1 415 = .ok (.invokevirtual 98, 3) := by decide +kernel
theorem J_law_d418 : decode J_law.2.1 418 = .ok (.aload_n 2, 1) := by decide +kernel
theorem J_law_d419 : decode J_law.2.1 419 = .ok (.invokevirtual 101, 3) := by decide +kernel
theorem J_law_d422 : decode J_law.2.1 422 = .ok (.if_icmp .eq 1003, 3) := by decide +kernel
theorem J_law_d425 : decode J_law.2.1 425 = .ok (.iconst 0, 1) := by decide +kernel
theorem J_law_d426 : decode J_law.2.1 426 = .ok (.ireturn, 1) := by decide +kernel
theorem J_law_d427 : decode J_law.2.1 427 = .ok (.aload_n 1, 1) := by decide +kernel
theorem J_law_d428 : decode J_law.2.1 428 = .ok (.invokevirtual 102, 3) := by decide +kernel
theorem J_law_d431 : decode J_law.2.1 431 = .ok (.aload_n 2, 1) := by decide +kernel
theorem J_law_d432 : decode J_law.2.1 432 = .ok (.invokevirtual 105, 3) := by decide +kernel
theorem J_law_d435 : decode J_law.2.1 435 = .ok (.if_icmp .eq 990, 3) := by decide +kernel
theorem J_law_d438 : decode J_law.2.1 438 = .ok (.iconst 0, 1) := by decide +kernel
theorem J_law_d439 : decode J_law.2.1 439 = .ok (.ireturn, 1) := by decide +kernel
theorem J_law_d440 : decode J_law.2.1 440 = .ok (.aload_n 1, 1) := by decide +kernel
theorem J_law_d441 : decode J_law.2.1 441 = .ok (.aload_n 0, 1) := by decide +kernel
theorem J_law_d442 : decode J_law.2.1 442 = .ok (.iload 4, 2) := by decide +kernel
theorem J_law_d444 : decode J_law.2.1 444 = .ok (.iconst 1, 1) := by decide +kernel
theorem J_law_d445 : decode J_law.2.1 445 = .ok (.iadd, 1) := by decide +kernel
theorem J_law_d446 : decode J_law.2.1 446 = .ok (.iaload, 1) := by decide +kernel
theorem J_law_d447 : decode J_law.2.1 447 = .ok (.aload_n 0, 1) := by decide +kernel
theorem J_law_d448 : decode J_law.2.1 448 = .ok (.iload 4, 2) := by decide +kernel
theorem J_law_d450 : decode J_law.2.1 450 = .ok (.iconst 2, 1) := by decide +kernel
theorem J_law_d451 : decode J_law.2.1 451 = .ok (.iadd, 1) := by decide +kernel
theorem J_law_d452 : decode J_law.2.1 452 = .ok (.iaload, 1) := by decide +kernel
theorem J_law_d453 : decode J_law.2.1 453 = .ok (.aload_n 3, 1) := by decide +kernel
theorem J_law_d454 : decode J_law.2.1 454 = .ok (.invokestatic 106, 3) := by decide +kernel
theorem J_law_d457 : decode J_law.2.1 457 = .ok (.istore 5, 2) := by decide +kernel
theorem J_law_d459 : decode J_law.2.1 459 = .ok (.aload_n 2, 1) := by decide +kernel
theorem J_law_d460 : decode J_law.2.1 460 = .ok (.aload_n 0, 1) := by decide +kernel
theorem J_law_d461 : decode J_law.2.1 461 = .ok (.iload 4, 2) := by decide +kernel
theorem J_law_d463 : decode J_law.2.1 463 = .ok (.iconst 1, 1) := by decide +kernel
theorem J_law_d464 : decode J_law.2.1 464 = .ok (.iadd, 1) := by decide +kernel
theorem J_law_d465 : decode J_law.2.1 465 = .ok (.iaload, 1) := by decide +kernel
theorem J_law_d466 : decode J_law.2.1 466 = .ok (.aload_n 0, 1) := by decide +kernel
theorem J_law_d467 : decode J_law.2.1 467 = .ok (.iload 4, 2) := by decide +kernel
theorem J_law_d469 : decode J_law.2.1 469 = .ok (.iconst 2, 1) := by decide +kernel
theorem J_law_d470 : decode J_law.2.1 470 = .ok (.iadd, 1) := by decide +kernel
theorem J_law_d471 : decode J_law.2.1 471 = .ok (.iaload, 1) := by decide +kernel
theorem J_law_d472 : decode J_law.2.1 472 = .ok (.invokevirtual 109, 3) := by decide +kernel
theorem J_law_d475 : decode J_law.2.1 475 = .ok (.istore 6, 2) := by decide +kernel
theorem J_law_d477 : decode J_law.2.1 477 = .ok (.aload_n 2, 1) := by decide +kernel
theorem J_law_d478 : decode J_law.2.1 478 = .ok (.invokevirtual 79, 3) := by decide +kernel
theorem J_law_d481 : decode J_law.2.1 481 = .ok (.iload 5, 2) := by decide +kernel
theorem J_law_d483 : decode J_law.2.1 483 = .ok (.if_icmp .eq 5, 3) := by decide +kernel
theorem J_law_d486 : decode J_law.2.1 486 = .ok (.iconst 0, 1) := by decide +kernel
theorem J_law_d487 : decode J_law.2.1 487 = .ok (.ireturn, 1) := by decide +kernel
theorem J_law_d488 : decode J_law.2.1 488 = .ok (.iload 5, 2) := by decide +kernel
theorem J_law_d490 : decode J_law.2.1 490 = .ok (.ifCond .ne 15, 3) := by decide +kernel
theorem J_law_d493 : decode J_law.2.1 493 = .ok (.aload_n 3, 1) := by decide +kernel
theorem J_law_d494 : decode J_law.2.1 494 = .ok (.iconst 0, 1) := by decide +kernel
theorem J_law_d495 : decode J_law.2.1 495 = .ok (.laload, 1) := by decide +kernel
theorem J_law_d496 : decode J_law.2.1 496 = .ok (.iload 6, 2) := by decide +kernel
theorem J_law_d498 : decode J_law.2.1 498 = .ok (.i2l, 1) := by decide +kernel
theorem J_law_d499 : decode J_law.2.1 499 = .ok (.lcmp, 1) := by decide +kernel
theorem J_law_d500 : decode J_law.2.1 500 = .ok (.ifCond .eq 5, 3) := by decide +kernel
theorem J_law_d503 : decode J_law.2.1 503 = .ok (.iconst 0, 1) := by decide +kernel
theorem J_law_d504 : decode J_law.2.1 504 = .ok (.ireturn, 1) := by decide +kernel
theorem J_law_d505 : decode J_law.2.1 505 = .ok (.goto 920, 3) := by decide +kernel
theorem J_law_d508 : decode J_law.2.1 508 = .ok (.aload_n 1, 1) := by decide +kernel
theorem J_law_d509 : decode J_law.2.1 509 = .ok (.aload_n 0, 1) := by decide +kernel
theorem J_law_d510 : decode J_law.2.1 510 = .ok (.iload 4, 2) := by decide +kernel
theorem J_law_d512 : decode J_law.2.1 512 = .ok (.iconst 1, 1) := by decide +kernel
theorem J_law_d513 : decode J_law.2.1 513 = .ok (.iadd, 1) := by decide +kernel
theorem J_law_d514 : decode J_law.2.1 514 = .ok (.iaload, 1) := by decide +kernel
theorem J_law_d515 : decode J_law.2.1 515 = .ok (.aload_n 0, 1) := by decide +kernel
theorem J_law_d516 : decode J_law.2.1 516 = .ok (.iload 4, 2) := by decide +kernel
theorem J_law_d518 : decode J_law.2.1 518 = .ok (.iconst 2, 1) := by decide +kernel
theorem J_law_d519 : decode J_law.2.1 519 = .ok (.iadd, 1) := by decide +kernel
theorem J_law_d520 : decode J_law.2.1 520 = .ok (.iaload, 1) := by decide +kernel
theorem J_law_d521 : decode J_law.2.1 521 = .ok (.aload_n 3, 1) := by decide +kernel
theorem J_law_d522 : decode J_law.2.1 522 = .ok (.invokestatic 110, 3) := by decide +kernel
theorem J_law_d525 : decode J_law.2.1 525 = .ok (.istore 5, 2) := by decide +kernel
theorem J_law_d527 : decode J_law.2.1 527 = .ok (.aload_n 2, 1) := by decide +kernel
theorem J_law_d528 : decode J_law.2.1 528 = .ok (.aload_n 0, 1) := by decide +kernel
theorem J_law_d529 : decode J_law.2.1 529 = .ok (.iload 4, 2) := by decide +kernel
theorem J_law_d531 : decode J_law.2.1 531 = .ok (.iconst 1, 1) := by decide +kernel
theorem J_law_d532 : decode J_law.2.1 532 = .ok (.iadd, 1) := by decide +kernel
theorem J_law_d533 : decode J_law.2.1 533 = .ok (.iaload, 1) := by decide +kernel
theorem J_law_d534 : decode J_law.2.1 534 = .ok (.aload_n 0, 1) := by decide +kernel
theorem J_law_d535 : decode J_law.2.1 535 = .ok (.iload 4, 2) := by decide +kernel
theorem J_law_d537 : decode J_law.2.1 537 = .ok (.iconst 2, 1) := by decide +kernel
theorem J_law_d538 : decode J_law.2.1 538 = .ok (.iadd, 1) := by decide +kernel
theorem J_law_d539 : decode J_law.2.1 539 = .ok (.iaload, 1) := by decide +kernel
theorem J_law_d540 : decode J_law.2.1 540 = .ok (.invokevirtual 112, 3) := by decide +kernel
theorem J_law_d543 : decode J_law.2.1 543 = .ok (.istore 6, 2) := by decide +kernel
theorem J_law_d545 : decode J_law.2.1 545 = .ok (.aload_n 2, 1) := by decide +kernel
theorem J_law_d546 : decode J_law.2.1 546 = .ok (.invokevirtual 79, 3) := by decide +kernel
theorem J_law_d549 : decode J_law.2.1 549 = .ok (.iload 5, 2) := by decide +kernel
theorem J_law_d551 : decode J_law.2.1 551 = .ok (.if_icmp .eq 5, 3) := by decide +kernel
theorem J_law_d554 : decode J_law.2.1 554 = .ok (.iconst 0, 1) := by decide +kernel
theorem J_law_d555 : decode J_law.2.1 555 = .ok (.ireturn, 1) := by decide +kernel
theorem J_law_d556 : decode J_law.2.1 556 = .ok (.iload 5, 2) := by decide +kernel
theorem J_law_d558 : decode J_law.2.1 558 = .ok (.ifCond .ne 15, 3) := by decide +kernel
theorem J_law_d561 : decode J_law.2.1 561 = .ok (.aload_n 3, 1) := by decide +kernel
theorem J_law_d562 : decode J_law.2.1 562 = .ok (.iconst 0, 1) := by decide +kernel
theorem J_law_d563 : decode J_law.2.1 563 = .ok (.laload, 1) := by decide +kernel
theorem J_law_d564 : decode J_law.2.1 564 = .ok (.iload 6, 2) := by decide +kernel
theorem J_law_d566 : decode J_law.2.1 566 = .ok (.i2l, 1) := by decide +kernel
theorem J_law_d567 : decode J_law.2.1 567 = .ok (.lcmp, 1) := by decide +kernel
theorem J_law_d568 : decode J_law.2.1 568 = .ok (.ifCond .eq 5, 3) := by decide +kernel
theorem J_law_d571 : decode J_law.2.1 571 = .ok (.iconst 0, 1) := by decide +kernel
theorem J_law_d572 : decode J_law.2.1 572 = .ok (.ireturn, 1) := by decide +kernel
theorem J_law_d573 : decode J_law.2.1 573 = .ok (.goto 852, 3) := by decide +kernel
theorem J_law_d576 : decode J_law.2.1 576 = .ok (.aload_n 1, 1) := by decide +kernel
theorem J_law_d577 : decode J_law.2.1 577 = .ok (.aload_n 0, 1) := by decide +kernel
theorem J_law_d578 : decode J_law.2.1 578 = .ok (.iload 4, 2) := by decide +kernel
theorem J_law_d580 : decode J_law.2.1 580 = .ok (.iconst 1, 1) := by decide +kernel
theorem J_law_d581 : decode J_law.2.1 581 = .ok (.iadd, 1) := by decide +kernel
theorem J_law_d582 : decode J_law.2.1 582 = .ok (.iaload, 1) := by decide +kernel
theorem J_law_d583 : decode J_law.2.1 583 = .ok (.aload_n 0, 1) := by decide +kernel
theorem J_law_d584 : decode J_law.2.1 584 = .ok (.iload 4, 2) := by decide +kernel
theorem J_law_d586 : decode J_law.2.1 586 = .ok (.iconst 2, 1) := by decide +kernel
theorem J_law_d587 : decode J_law.2.1 587 = .ok (.iadd, 1) := by decide +kernel
theorem J_law_d588 : decode J_law.2.1 588 = .ok (.iaload, 1) := by decide +kernel
theorem J_law_d589 : decode J_law.2.1 589 = .ok (.aload_n 3, 1) := by decide +kernel
theorem J_law_d590 : decode J_law.2.1 590 = .ok (.invokestatic 113, 3) := by decide +kernel
theorem J_law_d593 : decode J_law.2.1 593 = .ok (.istore 5, 2) := by decide +kernel
theorem J_law_d595 : decode J_law.2.1 595 = .ok (.aload_n 2, 1) := by decide +kernel
theorem J_law_d596 : decode J_law.2.1 596 = .ok (.aload_n 0, 1) := by decide +kernel
theorem J_law_d597 : decode J_law.2.1 597 = .ok (.iload 4, 2) := by decide +kernel
theorem J_law_d599 : decode J_law.2.1 599 = .ok (.iconst 1, 1) := by decide +kernel
theorem J_law_d600 : decode J_law.2.1 600 = .ok (.iadd, 1) := by decide +kernel
theorem J_law_d601 : decode J_law.2.1 601 = .ok (.iaload, 1) := by decide +kernel
theorem J_law_d602 : decode J_law.2.1 602 = .ok (.aload_n 0, 1) := by decide +kernel
theorem J_law_d603 : decode J_law.2.1 603 = .ok (.iload 4, 2) := by decide +kernel
theorem J_law_d605 : decode J_law.2.1 605 = .ok (.iconst 2, 1) := by decide +kernel
theorem J_law_d606 : decode J_law.2.1 606 = .ok (.iadd, 1) := by decide +kernel
theorem J_law_d607 : decode J_law.2.1 607 = .ok (.iaload, 1) := by decide +kernel
theorem J_law_d608 : decode J_law.2.1 608 = .ok (.invokevirtual 115, 3) := by decide +kernel
theorem J_law_d611 : decode J_law.2.1 611 = .ok (.lstore 6, 2) := by decide +kernel
theorem J_law_d613 : decode J_law.2.1 613 = .ok (.aload_n 2, 1) := by decide +kernel
theorem J_law_d614 : decode J_law.2.1 614 = .ok (.invokevirtual 79, 3) := by decide +kernel
theorem J_law_d617 : decode J_law.2.1 617 = .ok (.iload 5, 2) := by decide +kernel
theorem J_law_d619 : decode J_law.2.1 619 = .ok (.if_icmp .eq 5, 3) := by decide +kernel
theorem J_law_d622 : decode J_law.2.1 622 = .ok (.iconst 0, 1) := by decide +kernel
theorem J_law_d623 : decode J_law.2.1 623 = .ok (.ireturn, 1) := by decide +kernel
theorem J_law_d624 : decode J_law.2.1 624 = .ok (.iload 5, 2) := by decide +kernel
theorem J_law_d626 : decode J_law.2.1 626 = .ok (.ifCond .ne 14, 3) := by decide +kernel
theorem J_law_d629 : decode J_law.2.1 629 = .ok (.aload_n 3, 1) := by decide +kernel
theorem J_law_d630 : decode J_law.2.1 630 = .ok (.iconst 0, 1) := by decide +kernel
theorem J_law_d631 : decode J_law.2.1 631 = .ok (.laload, 1) := by decide +kernel
theorem J_law_d632 : decode J_law.2.1 632 = .ok (.lload 6, 2) := by decide +kernel
theorem J_law_d634 : decode J_law.2.1 634 = .ok (.lcmp, 1) := by decide +kernel
theorem J_law_d635 : decode J_law.2.1 635 = .ok (.ifCond .eq 5, 3) := by decide +kernel
theorem J_law_d638 : decode J_law.2.1 638 = .ok (.iconst 0, 1) := by decide +kernel
theorem J_law_d639 : decode J_law.2.1 639 = .ok (.ireturn, 1) := by decide +kernel
theorem J_law_d640 : decode J_law.2.1 640 = .ok (.goto 785, 3) := by decide +kernel
theorem J_law_d643 : decode J_law.2.1 643 = .ok (.aload_n 1, 1) := by decide +kernel
theorem J_law_d644 : decode J_law.2.1 644 = .ok (.aload_n 0, 1) := by decide +kernel
theorem J_law_d645 : decode J_law.2.1 645 = .ok (.iload 4, 2) := by decide +kernel
theorem J_law_d647 : decode J_law.2.1 647 = .ok (.iconst 1, 1) := by decide +kernel
theorem J_law_d648 : decode J_law.2.1 648 = .ok (.iadd, 1) := by decide +kernel
theorem J_law_d649 : decode J_law.2.1 649 = .ok (.iaload, 1) := by decide +kernel
theorem J_law_d650 : decode J_law.2.1 650 = .ok (.aload_n 3, 1) := by decide +kernel
theorem J_law_d651 : decode J_law.2.1 651 = .ok (.invokestatic 116, 3) := by decide +kernel
theorem J_law_d654 : decode J_law.2.1 654 = .ok (.istore 5, 2) := by decide +kernel
theorem J_law_d656 : decode J_law.2.1 656 = .ok (.aload_n 2, 1) := by decide +kernel
theorem J_law_d657 : decode J_law.2.1 657 = .ok (.aload_n 0, 1) := by decide +kernel
theorem J_law_d658 : decode J_law.2.1 658 = .ok (.iload 4, 2) := by decide +kernel
theorem J_law_d660 : decode J_law.2.1 660 = .ok (.iconst 1, 1) := by decide +kernel
theorem J_law_d661 : decode J_law.2.1 661 = .ok (.iadd, 1) := by decide +kernel
theorem J_law_d662 : decode J_law.2.1 662 = .ok (.iaload, 1) := by decide +kernel
theorem J_law_d663 : decode J_law.2.1 663 = .ok (.invokevirtual 119, 3) := by decide +kernel
theorem J_law_d666 : decode J_law.2.1 666 = .ok (.istore 6, 2) := by decide +kernel
theorem J_law_d668 : decode J_law.2.1 668 = .ok (.aload_n 2, 1) := by decide +kernel
theorem J_law_d669 : decode J_law.2.1 669 = .ok (.invokevirtual 79, 3) := by decide +kernel
theorem J_law_d672 : decode J_law.2.1 672 = .ok (.iload 5, 2) := by decide +kernel
theorem J_law_d674 : decode J_law.2.1 674 = .ok (.if_icmp .eq 5, 3) := by decide +kernel
theorem J_law_d677 : decode J_law.2.1 677 = .ok (.iconst 0, 1) := by decide +kernel
theorem J_law_d678 : decode J_law.2.1 678 = .ok (.ireturn, 1) := by decide +kernel
theorem J_law_d679 : decode J_law.2.1 679 = .ok (.iload 5, 2) := by decide +kernel
theorem J_law_d681 : decode J_law.2.1 681 = .ok (.ifCond .ne 15, 3) := by decide +kernel
theorem J_law_d684 : decode J_law.2.1 684 = .ok (.aload_n 3, 1) := by decide +kernel
theorem J_law_d685 : decode J_law.2.1 685 = .ok (.iconst 0, 1) := by decide +kernel
theorem J_law_d686 : decode J_law.2.1 686 = .ok (.laload, 1) := by decide +kernel
theorem J_law_d687 : decode J_law.2.1 687 = .ok (.iload 6, 2) := by decide +kernel
theorem J_law_d689 : decode J_law.2.1 689 = .ok (.i2l, 1) := by decide +kernel
theorem J_law_d690 : decode J_law.2.1 690 = .ok (.lcmp, 1) := by decide +kernel
theorem J_law_d691 : decode J_law.2.1 691 = .ok (.ifCond .eq 5, 3) := by decide +kernel
theorem J_law_d694 : decode J_law.2.1 694 = .ok (.iconst 0, 1) := by decide +kernel
theorem J_law_d695 : decode J_law.2.1 695 = .ok (.ireturn, 1) := by decide +kernel
theorem J_law_d696 : decode J_law.2.1 696 = .ok (.goto 729, 3) := by decide +kernel
theorem J_law_d699 : decode J_law.2.1 699 = .ok (.aload_n 1, 1) := by decide +kernel
theorem J_law_d700 : decode J_law.2.1 700 = .ok (.aload_n 0, 1) := by decide +kernel
theorem J_law_d701 : decode J_law.2.1 701 = .ok (.iload 4, 2) := by decide +kernel
theorem J_law_d703 : decode J_law.2.1 703 = .ok (.iconst 1, 1) := by decide +kernel
theorem J_law_d704 : decode J_law.2.1 704 = .ok (.iadd, 1) := by decide +kernel
theorem J_law_d705 : decode J_law.2.1 705 = .ok (.iaload, 1) := by decide +kernel
theorem J_law_d706 : decode J_law.2.1 706 = .ok (.invokevirtual 120, 3) := by decide +kernel
theorem J_law_d709 : decode J_law.2.1 709 = .ok (.aload_n 2, 1) := by decide +kernel
theorem J_law_d710 : decode J_law.2.1 710 = .ok (.aload_n 0, 1) := by decide +kernel
theorem J_law_d711 : decode J_law.2.1 711 = .ok (.iload 4, 2) := by decide +kernel
theorem J_law_d713 : decode J_law.2.1 713 = .ok (.iconst 1, 1) := by decide +kernel
theorem J_law_d714 : decode J_law.2.1 714 = .ok (.iadd, 1) := by decide +kernel
theorem J_law_d715 : decode J_law.2.1 715 = .ok (.iaload, 1) := by decide +kernel
theorem J_law_d716 : decode J_law.2.1 716 = .ok (.invokevirtual 123, 3) := by decide +kernel
theorem J_law_d719 : decode J_law.2.1 719 = .ok (.if_icmp .eq 706, 3) := by decide +kernel
theorem J_law_d722 : decode J_law.2.1 722 = .ok (.iconst 0, 1) := by decide +kernel
theorem J_law_d723 : decode J_law.2.1 723 = .ok (.ireturn, 1) := by decide +kernel
theorem J_law_d724 : decode J_law.2.1 724 = .ok (.aload_n 1, 1) := by decide +kernel
theorem J_law_d725 : decode J_law.2.1 725 = .ok (.aload_n 0, 1) := by decide +kernel
theorem J_law_d726 : decode J_law.2.1 726 = .ok (.iload 4, 2) := by decide +kernel
theorem J_law_d728 : decode J_law.2.1 728 = .ok (.iconst 1, 1) := by decide +kernel
theorem J_law_d729 : decode J_law.2.1 729 = .ok (.iadd, 1) := by decide +kernel
theorem J_law_d730 : decode J_law.2.1 730 = .ok (.iaload, 1) := by decide +kernel
theorem J_law_d731 : decode J_law.2.1 731 = .ok (.aload_n 0, 1) := by decide +kernel
theorem J_law_d732 : decode J_law.2.1 732 = .ok (.iload 4, 2) := by decide +kernel
theorem J_law_d734 : decode J_law.2.1 734 = .ok (.iconst 2, 1) := by decide +kernel
theorem J_law_d735 : decode J_law.2.1 735 = .ok (.iadd, 1) := by decide +kernel
theorem J_law_d736 : decode J_law.2.1 736 = .ok (.iaload, 1) := by decide +kernel
theorem J_law_d737 : decode J_law.2.1 737 = .ok (.aload_n 0, 1) := by decide +kernel
theorem J_law_d738 : decode J_law.2.1 738 = .ok (.iload 4, 2) := by decide +kernel
theorem J_law_d740 : decode J_law.2.1 740 = .ok (.iconst 3, 1) := by decide +kernel
theorem J_law_d741 : decode J_law.2.1 741 = .ok (.iadd, 1) := by decide +kernel
theorem J_law_d742 : decode J_law.2.1 742 = .ok (.iaload, 1) := by decide +kernel
theorem J_law_d743 : decode J_law.2.1 743 = .ok (.i2l, 1) := by decide +kernel
theorem J_law_d744 : decode J_law.2.1 744 = .ok (.bipush 32, 2) := by decide +kernel
theorem J_law_d746 : decode J_law.2.1 746 = .ok (.lshl, 1) := by decide +kernel
theorem J_law_d747 : decode J_law.2.1 747 = .ok (.aload_n 0, 1) := by decide +kernel
theorem J_law_d748 : decode J_law.2.1 748 = .ok (.iload 4, 2) := by decide +kernel
theorem J_law_d750 : decode J_law.2.1 750 = .ok (.iconst 4, 1) := by decide +kernel
theorem J_law_d751 : decode J_law.2.1 751 = .ok (.iadd, 1) := by decide +kernel
theorem J_law_d752 : decode J_law.2.1 752 = .ok (.iaload, 1) := by decide +kernel
theorem J_law_d753 : decode J_law.2.1 753 = .ok (.i2l, 1) := by decide +kernel
theorem J_law_d754 : decode J_law.2.1 754 = .ok (.ldc2_w 71, 3) := by decide +kernel
theorem J_law_d757 : decode J_law.2.1 757 = .ok (.land, 1) := by decide +kernel
theorem J_law_d758 : decode J_law.2.1 758 = .ok (.lor, 1) := by decide +kernel
theorem J_law_d759 : decode J_law.2.1 759 = .ok (.invokevirtual 124, 3) := by decide +kernel
theorem J_law_d762 : decode J_law.2.1 762 = .ok (.aload_n 2, 1) := by decide +kernel
theorem J_law_d763 : decode J_law.2.1 763 = .ok (.aload_n 0, 1) := by decide +kernel
theorem J_law_d764 : decode J_law.2.1 764 = .ok (.iload 4, 2) := by decide +kernel
theorem J_law_d766 : decode J_law.2.1 766 = .ok (.iconst 1, 1) := by decide +kernel
theorem J_law_d767 : decode J_law.2.1 767 = .ok (.iadd, 1) := by decide +kernel
theorem J_law_d768 : decode J_law.2.1 768 = .ok (.iaload, 1) := by decide +kernel
theorem J_law_d769 : decode J_law.2.1 769 = .ok (.aload_n 0, 1) := by decide +kernel
theorem J_law_d770 : decode J_law.2.1 770 = .ok (.iload 4, 2) := by decide +kernel
theorem J_law_d772 : decode J_law.2.1 772 = .ok (.iconst 2, 1) := by decide +kernel
theorem J_law_d773 : decode J_law.2.1 773 = .ok (.iadd, 1) := by decide +kernel
theorem J_law_d774 : decode J_law.2.1 774 = .ok (.iaload, 1) := by decide +kernel
theorem J_law_d775 : decode J_law.2.1 775 = .ok (.aload_n 0, 1) := by decide +kernel
theorem J_law_d776 : decode J_law.2.1 776 = .ok (.iload 4, 2) := by decide +kernel
theorem J_law_d778 : decode J_law.2.1 778 = .ok (.iconst 3, 1) := by decide +kernel
theorem J_law_d779 : decode J_law.2.1 779 = .ok (.iadd, 1) := by decide +kernel
theorem J_law_d780 : decode J_law.2.1 780 = .ok (.iaload, 1) := by decide +kernel
theorem J_law_d781 : decode J_law.2.1 781 = .ok (.i2l, 1) := by decide +kernel
theorem J_law_d782 : decode J_law.2.1 782 = .ok (.bipush 32, 2) := by decide +kernel
theorem J_law_d784 : decode J_law.2.1 784 = .ok (.lshl, 1) := by decide +kernel
theorem J_law_d785 : decode J_law.2.1 785 = .ok (.aload_n 0, 1) := by decide +kernel
theorem J_law_d786 : decode J_law.2.1 786 = .ok (.iload 4, 2) := by decide +kernel
theorem J_law_d788 : decode J_law.2.1 788 = .ok (.iconst 4, 1) := by decide +kernel
theorem J_law_d789 : decode J_law.2.1 789 = .ok (.iadd, 1) := by decide +kernel
theorem J_law_d790 : decode J_law.2.1 790 = .ok (.iaload, 1) := by decide +kernel
theorem J_law_d791 : decode J_law.2.1 791 = .ok (.i2l, 1) := by decide +kernel
theorem J_law_d792 : decode J_law.2.1 792 = .ok (.ldc2_w 71, 3) := by decide +kernel
theorem J_law_d795 : decode J_law.2.1 795 = .ok (.land, 1) := by decide +kernel
theorem J_law_d796 : decode J_law.2.1 796 = .ok (.lor, 1) := by decide +kernel
theorem J_law_d797 : decode J_law.2.1 797 = .ok (.invokevirtual 128, 3) := by decide +kernel
theorem J_law_d800 : decode J_law.2.1 800 = .ok (.if_icmp .eq 625, 3) := by decide +kernel
theorem J_law_d803 : decode J_law.2.1 803 = .ok (.iconst 0, 1) := by decide +kernel
theorem J_law_d804 : decode J_law.2.1 804 = .ok (.ireturn, 1) := by decide +kernel
theorem J_law_d805 : decode J_law.2.1 805 = .ok (.aload_n 1, 1) := by decide +kernel
theorem J_law_d806 : decode J_law.2.1 806 = .ok (.aload_n 0, 1) := by decide +kernel
theorem J_law_d807 : decode J_law.2.1 807 = .ok (.iload 4, 2) := by decide +kernel
theorem J_law_d809 : decode J_law.2.1 809 = .ok (.iconst 1, 1) := by decide +kernel
theorem J_law_d810 : decode J_law.2.1 810 = .ok (.iadd, 1) := by decide +kernel
theorem J_law_d811 : decode J_law.2.1 811 = .ok (.iaload, 1) := by decide +kernel
theorem J_law_d812 : decode J_law.2.1 812 = .ok (.invokestatic 129, 3) := by decide +kernel
theorem J_law_d815 : decode J_law.2.1 815 = .ok (.istore 5, 2) := by decide +kernel
theorem J_law_d817 : decode J_law.2.1 817 = .ok (.aload_n 2, 1) := by decide +kernel
theorem J_law_d818 : decode J_law.2.1 818 = .ok (.aload_n 0, 1) := by decide +kernel
theorem J_law_d819 : decode J_law.2.1 819 = .ok (.iload 4, 2) := by decide +kernel
theorem J_law_d821 : decode J_law.2.1 821 = .ok (.iconst 1, 1) := by decide +kernel
theorem J_law_d822 : decode J_law.2.1 822 = .ok (.iadd, 1) := by decide +kernel
theorem J_law_d823 : decode J_law.2.1 823 = .ok (.iaload, 1) := by decide +kernel
theorem J_law_d824 : decode J_law.2.1 824 = .ok (.invokevirtual 132, 3) := by decide +kernel
theorem J_law_d827 : decode J_law.2.1 827 = .ok (.aload_n 2, 1) := by decide +kernel
theorem J_law_d828 : decode J_law.2.1 828 = .ok (.invokevirtual 79, 3) := by decide +kernel
theorem J_law_d831 : decode J_law.2.1 831 = .ok (.iload 5, 2) := by decide +kernel
theorem J_law_d833 : decode J_law.2.1 833 = .ok (.if_icmp .eq 5, 3) := by decide +kernel
theorem J_law_d836 : decode J_law.2.1 836 = .ok (.iconst 0, 1) := by decide +kernel
theorem J_law_d837 : decode J_law.2.1 837 = .ok (.ireturn, 1) := by decide +kernel
theorem J_law_d838 : decode J_law.2.1 838 = .ok (.goto 587, 3) := by decide +kernel
theorem J_law_d841 : decode J_law.2.1 841 = .ok (.aload_n 1, 1) := by decide +kernel
theorem J_law_d842 : decode J_law.2.1 842 = .ok (.aload_n 0, 1) := by decide +kernel
theorem J_law_d843 : decode J_law.2.1 843 = .ok (.iload 4, 2) := by decide +kernel
theorem J_law_d845 : decode J_law.2.1 845 = .ok (.iconst 1, 1) := by decide +kernel
theorem J_law_d846 : decode J_law.2.1 846 = .ok (.iadd, 1) := by decide +kernel
theorem J_law_d847 : decode J_law.2.1 847 = .ok (.iaload, 1) := by decide +kernel
theorem J_law_d848 : decode J_law.2.1 848 = .ok (.aload_n 3, 1) := by decide +kernel
theorem J_law_d849 : decode J_law.2.1 849 = .ok (.invokestatic 133, 3) := by decide +kernel
theorem J_law_d852 : decode J_law.2.1 852 = .ok (.istore 5, 2) := by decide +kernel
theorem J_law_d854 : decode J_law.2.1 854 = .ok (.aload_n 2, 1) := by decide +kernel
theorem J_law_d855 : decode J_law.2.1 855 = .ok (.aload_n 0, 1) := by decide +kernel
theorem J_law_d856 : decode J_law.2.1 856 = .ok (.iload 4, 2) := by decide +kernel
theorem J_law_d858 : decode J_law.2.1 858 = .ok (.iconst 1, 1) := by decide +kernel
theorem J_law_d859 : decode J_law.2.1 859 = .ok (.iadd, 1) := by decide +kernel
theorem J_law_d860 : decode J_law.2.1 860 = .ok (.iaload, 1) := by decide +kernel
theorem J_law_d861 : decode J_law.2.1 861 = .ok (.invokevirtual 135, 3) := by decide +kernel
theorem J_law_d864 : decode J_law.2.1 864 = .ok (.istore 6, 2) := by decide +kernel
theorem J_law_d866 : decode J_law.2.1 866 = .ok (.aload_n 2, 1) := by decide +kernel
theorem J_law_d867 : decode J_law.2.1 867 = .ok (.invokevirtual 79, 3) := by decide +kernel
theorem J_law_d870 : decode J_law.2.1 870 = .ok (.iload 5, 2) := by decide +kernel
theorem J_law_d872 : decode J_law.2.1 872 = .ok (.if_icmp .eq 5, 3) := by decide +kernel
theorem J_law_d875 : decode J_law.2.1 875 = .ok (.iconst 0, 1) := by decide +kernel
theorem J_law_d876 : decode J_law.2.1 876 = .ok (.ireturn, 1) := by decide +kernel
theorem J_law_d877 : decode J_law.2.1 877 = .ok (.iload 5, 2) := by decide +kernel
theorem J_law_d879 : decode J_law.2.1 879 = .ok (.ifCond .ne 15, 3) := by decide +kernel
theorem J_law_d882 : decode J_law.2.1 882 = .ok (.aload_n 3, 1) := by decide +kernel
theorem J_law_d883 : decode J_law.2.1 883 = .ok (.iconst 0, 1) := by decide +kernel
theorem J_law_d884 : decode J_law.2.1 884 = .ok (.laload, 1) := by decide +kernel
theorem J_law_d885 : decode J_law.2.1 885 = .ok (.iload 6, 2) := by decide +kernel
theorem J_law_d887 : decode J_law.2.1 887 = .ok (.i2l, 1) := by decide +kernel
theorem J_law_d888 : decode J_law.2.1 888 = .ok (.lcmp, 1) := by decide +kernel
theorem J_law_d889 : decode J_law.2.1 889 = .ok (.ifCond .eq 5, 3) := by decide +kernel
theorem J_law_d892 : decode J_law.2.1 892 = .ok (.iconst 0, 1) := by decide +kernel
theorem J_law_d893 : decode J_law.2.1 893 = .ok (.ireturn, 1) := by decide +kernel
theorem J_law_d894 : decode J_law.2.1 894 = .ok (.goto 531, 3) := by decide +kernel
theorem J_law_d897 : decode J_law.2.1 897 = .ok (.aload_n 1, 1) := by decide +kernel
theorem J_law_d898 : decode J_law.2.1 898 = .ok (.aload_n 0, 1) := by decide +kernel
theorem J_law_d899 : decode J_law.2.1 899 = .ok (.iload 4, 2) := by decide +kernel
theorem J_law_d901 : decode J_law.2.1 901 = .ok (.iconst 1, 1) := by decide +kernel
theorem J_law_d902 : decode J_law.2.1 902 = .ok (.iadd, 1) := by decide +kernel
theorem J_law_d903 : decode J_law.2.1 903 = .ok (.iaload, 1) := by decide +kernel
theorem J_law_d904 : decode J_law.2.1 904 = .ok (.aload_n 0, 1) := by decide +kernel
theorem J_law_d905 : decode J_law.2.1 905 = .ok (.iload 4, 2) := by decide +kernel
theorem J_law_d907 : decode J_law.2.1 907 = .ok (.iconst 2, 1) := by decide +kernel
theorem J_law_d908 : decode J_law.2.1 908 = .ok (.iadd, 1) := by decide +kernel
theorem J_law_d909 : decode J_law.2.1 909 = .ok (.iaload, 1) := by decide +kernel
theorem J_law_d910 : decode J_law.2.1 910 = .ok (.invokevirtual 136, 3) := by decide +kernel
theorem J_law_d913 : decode J_law.2.1 913 = .ok (.aload_n 2, 1) := by decide +kernel
theorem J_law_d914 : decode J_law.2.1 914 = .ok (.aload_n 0, 1) := by decide +kernel
theorem J_law_d915 : decode J_law.2.1 915 = .ok (.iload 4, 2) := by decide +kernel
theorem J_law_d917 : decode J_law.2.1 917 = .ok (.iconst 1, 1) := by decide +kernel
theorem J_law_d918 : decode J_law.2.1 918 = .ok (.iadd, 1) := by decide +kernel
theorem J_law_d919 : decode J_law.2.1 919 = .ok (.iaload, 1) := by decide +kernel
theorem J_law_d920 : decode J_law.2.1 920 = .ok (.aload_n 0, 1) := by decide +kernel
theorem J_law_d921 : decode J_law.2.1 921 = .ok (.iload 4, 2) := by decide +kernel
theorem J_law_d923 : decode J_law.2.1 923 = .ok (.iconst 2, 1) := by decide +kernel
theorem J_law_d924 : decode J_law.2.1 924 = .ok (.iadd, 1) := by decide +kernel
theorem J_law_d925 : decode J_law.2.1 925 = .ok (.iaload, 1) := by decide +kernel
theorem J_law_d926 : decode J_law.2.1 926 = .ok (.invokevirtual 139, 3) := by decide +kernel
theorem J_law_d929 : decode J_law.2.1 929 = .ok (.lcmp, 1) := by decide +kernel
theorem J_law_d930 : decode J_law.2.1 930 = .ok (.ifCond .eq 495, 3) := by decide +kernel
theorem J_law_d933 : decode J_law.2.1 933 = .ok (.iconst 0, 1) := by decide +kernel
theorem J_law_d934 : decode J_law.2.1 934 = .ok (.ireturn, 1) := by decide +kernel
theorem J_law_d935 : decode J_law.2.1 935 = .ok (.aload_n 1, 1) := by decide +kernel
theorem J_law_d936 : decode J_law.2.1 936 = .ok (.aload_n 0, 1) := by decide +kernel
theorem J_law_d937 : decode J_law.2.1 937 = .ok (.iload 4, 2) := by decide +kernel
theorem J_law_d939 : decode J_law.2.1 939 = .ok (.iconst 1, 1) := by decide +kernel
theorem J_law_d940 : decode J_law.2.1 940 = .ok (.iadd, 1) := by decide +kernel
theorem J_law_d941 : decode J_law.2.1 941 = .ok (.iaload, 1) := by decide +kernel
theorem J_law_d942 : decode J_law.2.1 942 = .ok (.aload_n 0, 1) := by decide +kernel
theorem J_law_d943 : decode J_law.2.1 943 = .ok (.iload 4, 2) := by decide +kernel
theorem J_law_d945 : decode J_law.2.1 945 = .ok (.iconst 2, 1) := by decide +kernel
theorem J_law_d946 : decode J_law.2.1 946 = .ok (.iadd, 1) := by decide +kernel
theorem J_law_d947 : decode J_law.2.1 947 = .ok (.iaload, 1) := by decide +kernel
theorem J_law_d948 : decode J_law.2.1 948 = .ok (.aload_n 0, 1) := by decide +kernel
theorem J_law_d949 : decode J_law.2.1 949 = .ok (.iload 4, 2) := by decide +kernel
theorem J_law_d951 : decode J_law.2.1 951 = .ok (.iconst 3, 1) := by decide +kernel
theorem J_law_d952 : decode J_law.2.1 952 = .ok (.iadd, 1) := by decide +kernel
theorem J_law_d953 : decode J_law.2.1 953 = .ok (.iaload, 1) := by decide +kernel
theorem J_law_d954 : decode J_law.2.1 954 = .ok (.aload_n 0, 1) := by decide +kernel
theorem J_law_d955 : decode J_law.2.1 955 = .ok (.iload 4, 2) := by decide +kernel
theorem J_law_d957 : decode J_law.2.1 957 = .ok (.iconst 4, 1) := by decide +kernel
theorem J_law_d958 : decode J_law.2.1 958 = .ok (.iadd, 1) := by decide +kernel
theorem J_law_d959 : decode J_law.2.1 959 = .ok (.iaload, 1) := by decide +kernel
theorem J_law_d960 : decode J_law.2.1 960 = .ok (.ifCond .eq 7, 3) := by decide +kernel
theorem J_law_d963 : decode J_law.2.1 963 = .ok (.iconst 1, 1) := by decide +kernel
theorem J_law_d964 : decode J_law.2.1 964 = .ok (.goto 4, 3) := by decide +kernel
theorem J_law_d967 : decode J_law.2.1 967 = .ok (.iconst 0, 1) := by decide +kernel
theorem J_law_d968 : decode J_law.2.1 968 = .ok (.aload_n 3, 1) := by decide +kernel
theorem J_law_d969 : decode J_law.2.1 969 = .ok (.invokestatic 140, 3) := by decide +kernel
theorem J_law_d972 : decode J_law.2.1 972 = .ok (.istore 5, 2) := by decide +kernel
theorem J_law_d974 : decode J_law.2.1 974 = .ok (.aload_n 2, 1) := by decide +kernel
theorem J_law_d975 : decode J_law.2.1 975 = .ok (.aload_n 0, 1) := by decide +kernel
theorem J_law_d976 : decode J_law.2.1 976 = .ok (.iload 4, 2) := by decide +kernel
theorem J_law_d978 : decode J_law.2.1 978 = .ok (.iconst 1, 1) := by decide +kernel
theorem J_law_d979 : decode J_law.2.1 979 = .ok (.iadd, 1) := by decide +kernel
theorem J_law_d980 : decode J_law.2.1 980 = .ok (.iaload, 1) := by decide +kernel
theorem J_law_d981 : decode J_law.2.1 981 = .ok (.aload_n 0, 1) := by decide +kernel
theorem J_law_d982 : decode J_law.2.1 982 = .ok (.iload 4, 2) := by decide +kernel
theorem J_law_d984 : decode J_law.2.1 984 = .ok (.iconst 2, 1) := by decide +kernel
theorem J_law_d985 : decode J_law.2.1 985 = .ok (.iadd, 1) := by decide +kernel
theorem J_law_d986 : decode J_law.2.1 986 = .ok (.iaload, 1) := by decide +kernel
theorem J_law_d987 : decode J_law.2.1 987 = .ok (.aload_n 0, 1) := by decide +kernel
theorem J_law_d988 : decode J_law.2.1 988 = .ok (.iload 4, 2) := by decide +kernel
theorem J_law_d990 : decode J_law.2.1 990 = .ok (.iconst 3, 1) := by decide +kernel
theorem J_law_d991 : decode J_law.2.1 991 = .ok (.iadd, 1) := by decide +kernel
theorem J_law_d992 : decode J_law.2.1 992 = .ok (.iaload, 1) := by decide +kernel
theorem J_law_d993 : decode J_law.2.1 993 = .ok (.aload_n 0, 1) := by decide +kernel
theorem J_law_d994 : decode J_law.2.1 994 = .ok (.iload 4, 2) := by decide +kernel
theorem J_law_d996 : decode J_law.2.1 996 = .ok (.iconst 4, 1) := by decide +kernel
theorem J_law_d997 : decode J_law.2.1 997 = .ok (.iadd, 1) := by decide +kernel
theorem J_law_d998 : decode J_law.2.1 998 = .ok (.iaload, 1) := by decide +kernel
theorem J_law_d999 : decode J_law.2.1 999 = .ok (.ifCond .eq 7, 3) := by decide +kernel
theorem J_law_d1002 : decode J_law.2.1 1002 = .ok (.iconst 1, 1) := by decide +kernel
theorem J_law_d1003 : decode J_law.2.1 1003 = .ok (.goto 4, 3) := by decide +kernel
theorem J_law_d1006 : decode J_law.2.1 1006 = .ok (.iconst 0, 1) := by decide +kernel
theorem J_law_d1007 : decode J_law.2.1 1007 = .ok (.invokevirtual 143, 3) := by decide +kernel
theorem J_law_d1010 : decode J_law.2.1 1010 = .ok (.istore 6, 2) := by decide +kernel
theorem J_law_d1012 : decode J_law.2.1 1012 = .ok (.aload_n 2, 1) := by decide +kernel
theorem J_law_d1013 : decode J_law.2.1 1013 = .ok (.invokevirtual 79, 3) := by decide +kernel
theorem J_law_d1016 : decode J_law.2.1 1016 = .ok (.iload 5, 2) := by decide +kernel
theorem J_law_d1018 : decode J_law.2.1 1018 = .ok (.if_icmp .eq 5, 3) := by decide +kernel
theorem J_law_d1021 : decode J_law.2.1 1021 = .ok (.iconst 0, 1) := by decide +kernel
theorem J_law_d1022 : decode J_law.2.1 1022 = .ok (.ireturn, 1) := by decide +kernel
theorem J_law_d1023 : decode J_law.2.1 1023 = .ok (.iload 5, 2) := by decide +kernel
theorem J_law_d1025 : decode J_law.2.1 1025 = .ok (.ifCond .ne 15, 3) := by decide +kernel
theorem J_law_d1028 : decode J_law.2.1 1028 = .ok (.aload_n 3, 1) := by decide +kernel
theorem J_law_d1029 : decode J_law.2.1 1029 = .ok (.iconst 0, 1) := by decide +kernel
theorem J_law_d1030 : decode J_law.2.1 1030 = .ok (.laload, 1) := by decide +kernel
theorem J_law_d1031 : decode J_law.2.1 1031 = .ok (.iload 6, 2) := by decide +kernel
theorem J_law_d1033 : decode J_law.2.1 1033 = .ok (.i2l, 1) := by decide +kernel
theorem J_law_d1034 : decode J_law.2.1 1034 = .ok (.lcmp, 1) := by decide +kernel
theorem J_law_d1035 : decode J_law.2.1 1035 = .ok (.ifCond .eq 5, 3) := by decide +kernel
theorem J_law_d1038 : decode J_law.2.1 1038 = .ok (.iconst 0, 1) := by decide +kernel
theorem J_law_d1039 : decode J_law.2.1 1039 = .ok (.ireturn, 1) := by decide +kernel
theorem J_law_d1040 : decode J_law.2.1 1040 = .ok (.goto 385, 3) := by decide +kernel
theorem J_law_d1043 : decode J_law.2.1 1043 = .ok (.aload_n 1, 1) := by decide +kernel
theorem J_law_d1044 : decode J_law.2.1 1044 = .ok (.aload_n 0, 1) := by decide +kernel
theorem J_law_d1045 : decode J_law.2.1 1045 = .ok (.iload 4, 2) := by decide +kernel
theorem J_law_d1047 : decode J_law.2.1 1047 = .ok (.iconst 1, 1) := by decide +kernel
theorem J_law_d1048 : decode J_law.2.1 1048 = .ok (.iadd, 1) := by decide +kernel
theorem J_law_d1049 : decode J_law.2.1 1049 = .ok (.iaload, 1) := by decide +kernel
theorem J_law_d1050 : decode J_law.2.1 1050 = .ok (.aload_n 0, 1) := by decide +kernel
theorem J_law_d1051 : decode J_law.2.1 1051 = .ok (.iload 4, 2) := by decide +kernel
theorem J_law_d1053 : decode J_law.2.1 1053 = .ok (.iconst 2, 1) := by decide +kernel
theorem J_law_d1054 : decode J_law.2.1 1054 = .ok (.iadd, 1) := by decide +kernel
theorem J_law_d1055 : decode J_law.2.1 1055 = .ok (.iaload, 1) := by decide +kernel
theorem J_law_d1056 : decode J_law.2.1 1056 = .ok (.aload_n 0, 1) := by decide +kernel
theorem J_law_d1057 : decode J_law.2.1 1057 = .ok (.iload 4, 2) := by decide +kernel
theorem J_law_d1059 : decode J_law.2.1 1059 = .ok (.iconst 3, 1) := by decide +kernel
theorem J_law_d1060 : decode J_law.2.1 1060 = .ok (.iadd, 1) := by decide +kernel
theorem J_law_d1061 : decode J_law.2.1 1061 = .ok (.iaload, 1) := by decide +kernel
theorem J_law_d1062 : decode J_law.2.1 1062 = .ok (.aload_n 3, 1) := by decide +kernel
theorem J_law_d1063 : decode J_law.2.1 1063 = .ok (.invokestatic 144, 3) := by decide +kernel
theorem J_law_d1066 : decode J_law.2.1 1066 = .ok (.istore 5, 2) := by decide +kernel
theorem J_law_d1068 : decode J_law.2.1 1068 = .ok (.aload_n 2, 1) := by decide +kernel
theorem J_law_d1069 : decode J_law.2.1 1069 = .ok (.aload_n 0, 1) := by decide +kernel
theorem J_law_d1070 : decode J_law.2.1 1070 = .ok (.iload 4, 2) := by decide +kernel
theorem J_law_d1072 : decode J_law.2.1 1072 = .ok (.iconst 1, 1) := by decide +kernel
theorem J_law_d1073 : decode J_law.2.1 1073 = .ok (.iadd, 1) := by decide +kernel
theorem J_law_d1074 : decode J_law.2.1 1074 = .ok (.iaload, 1) := by decide +kernel
theorem J_law_d1075 : decode J_law.2.1 1075 = .ok (.aload_n 0, 1) := by decide +kernel
theorem J_law_d1076 : decode J_law.2.1 1076 = .ok (.iload 4, 2) := by decide +kernel
theorem J_law_d1078 : decode J_law.2.1 1078 = .ok (.iconst 2, 1) := by decide +kernel
theorem J_law_d1079 : decode J_law.2.1 1079 = .ok (.iadd, 1) := by decide +kernel
theorem J_law_d1080 : decode J_law.2.1 1080 = .ok (.iaload, 1) := by decide +kernel
theorem J_law_d1081 : decode J_law.2.1 1081 = .ok (.aload_n 0, 1) := by decide +kernel
theorem J_law_d1082 : decode J_law.2.1 1082 = .ok (.iload 4, 2) := by decide +kernel
theorem J_law_d1084 : decode J_law.2.1 1084 = .ok (.iconst 3, 1) := by decide +kernel
theorem J_law_d1085 : decode J_law.2.1 1085 = .ok (.iadd, 1) := by decide +kernel
theorem J_law_d1086 : decode J_law.2.1 1086 = .ok (.iaload, 1) := by decide +kernel
theorem J_law_d1087 : decode J_law.2.1 1087 = .ok (.invokevirtual 147, 3) := by decide +kernel
theorem J_law_d1090 : decode J_law.2.1 1090 = .ok (.istore 6, 2) := by decide +kernel
theorem J_law_d1092 : decode J_law.2.1 1092 = .ok (.aload_n 2, 1) := by decide +kernel
theorem J_law_d1093 : decode J_law.2.1 1093 = .ok (.invokevirtual 79, 3) := by decide +kernel
theorem J_law_d1096 : decode J_law.2.1 1096 = .ok (.iload 5, 2) := by decide +kernel
theorem J_law_d1098 : decode J_law.2.1 1098 = .ok (.if_icmp .eq 5, 3) := by decide +kernel
theorem J_law_d1101 : decode J_law.2.1 1101 = .ok (.iconst 0, 1) := by decide +kernel
theorem J_law_d1102 : decode J_law.2.1 1102 = .ok (.ireturn, 1) := by decide +kernel
theorem J_law_d1103 : decode J_law.2.1 1103 = .ok (.iload 5, 2) := by decide +kernel
theorem J_law_d1105 : decode J_law.2.1 1105 = .ok (.ifCond .ne 15, 3) := by decide +kernel
theorem J_law_d1108 : decode J_law.2.1 1108 = .ok (.aload_n 3, 1) := by decide +kernel
theorem J_law_d1109 : decode J_law.2.1 1109 = .ok (.iconst 0, 1) := by decide +kernel
theorem J_law_d1110 : decode J_law.2.1 1110 = .ok (.laload, 1) := by decide +kernel
theorem J_law_d1111 : decode J_law.2.1 1111 = .ok (.iload 6, 2) := by decide +kernel
theorem J_law_d1113 : decode J_law.2.1 1113 = .ok (.i2l, 1) := by decide +kernel
theorem J_law_d1114 : decode J_law.2.1 1114 = .ok (.lcmp, 1) := by decide +kernel
theorem J_law_d1115 : decode J_law.2.1 1115 = .ok (.ifCond .eq 5, 3) := by decide +kernel
theorem J_law_d1118 : decode J_law.2.1 1118 = .ok (.iconst 0, 1) := by decide +kernel
theorem J_law_d1119 : decode J_law.2.1 1119 = .ok (.ireturn, 1) := by decide +kernel
theorem J_law_d1120 : decode J_law.2.1 1120 = .ok (.goto 305, 3) := by decide +kernel
theorem J_law_d1123 : decode J_law.2.1 1123 = .ok (.aload_n 1, 1) := by decide +kernel
theorem J_law_d1124 : decode J_law.2.1 1124 = .ok (.aload_n 0, 1) := by decide +kernel
theorem J_law_d1125 : decode J_law.2.1 1125 = .ok (.iload 4, 2) := by decide +kernel
theorem J_law_d1127 : decode J_law.2.1 1127 = .ok (.iconst 1, 1) := by decide +kernel
theorem J_law_d1128 : decode J_law.2.1 1128 = .ok (.iadd, 1) := by decide +kernel
theorem J_law_d1129 : decode J_law.2.1 1129 = .ok (.iaload, 1) := by decide +kernel
theorem J_law_d1130 : decode J_law.2.1 1130 = .ok (.aload_n 0, 1) := by decide +kernel
theorem J_law_d1131 : decode J_law.2.1 1131 = .ok (.iload 4, 2) := by decide +kernel
theorem J_law_d1133 : decode J_law.2.1 1133 = .ok (.iconst 2, 1) := by decide +kernel
theorem J_law_d1134 : decode J_law.2.1 1134 = .ok (.iadd, 1) := by decide +kernel
theorem J_law_d1135 : decode J_law.2.1 1135 = .ok (.iaload, 1) := by decide +kernel
theorem J_law_d1136 : decode J_law.2.1 1136 = .ok (.aload_n 3, 1) := by decide +kernel
theorem J_law_d1137 : decode J_law.2.1 1137 = .ok (.invokestatic 148, 3) := by decide +kernel
theorem J_law_d1140 : decode J_law.2.1 1140 = .ok (.istore 5, 2) := by decide +kernel
theorem J_law_d1142 : decode J_law.2.1 1142 = .ok (.aload_n 2, 1) := by decide +kernel
theorem J_law_d1143 : decode J_law.2.1 1143 = .ok (.aload_n 0, 1) := by decide +kernel
theorem J_law_d1144 : decode J_law.2.1 1144 = .ok (.iload 4, 2) := by decide +kernel
theorem J_law_d1146 : decode J_law.2.1 1146 = .ok (.iconst 1, 1) := by decide +kernel
theorem J_law_d1147 : decode J_law.2.1 1147 = .ok (.iadd, 1) := by decide +kernel
theorem J_law_d1148 : decode J_law.2.1 1148 = .ok (.iaload, 1) := by decide +kernel
theorem J_law_d1149 : decode J_law.2.1 1149 = .ok (.aload_n 0, 1) := by decide +kernel
theorem J_law_d1150 : decode J_law.2.1 1150 = .ok (.iload 4, 2) := by decide +kernel
theorem J_law_d1152 : decode J_law.2.1 1152 = .ok (.iconst 2, 1) := by decide +kernel
theorem J_law_d1153 : decode J_law.2.1 1153 = .ok (.iadd, 1) := by decide +kernel
theorem J_law_d1154 : decode J_law.2.1 1154 = .ok (.iaload, 1) := by decide +kernel
theorem J_law_d1155 : decode J_law.2.1 1155 = .ok (.invokevirtual 150, 3) := by decide +kernel
theorem J_law_d1158 : decode J_law.2.1 1158 = .ok (.istore 6, 2) := by decide +kernel
theorem J_law_d1160 : decode J_law.2.1 1160 = .ok (.aload_n 2, 1) := by decide +kernel
theorem J_law_d1161 : decode J_law.2.1 1161 = .ok (.invokevirtual 79, 3) := by decide +kernel
theorem J_law_d1164 : decode J_law.2.1 1164 = .ok (.iload 5, 2) := by decide +kernel
theorem J_law_d1166 : decode J_law.2.1 1166 = .ok (.if_icmp .eq 5, 3) := by decide +kernel
theorem J_law_d1169 : decode J_law.2.1 1169 = .ok (.iconst 0, 1) := by decide +kernel
theorem J_law_d1170 : decode J_law.2.1 1170 = .ok (.ireturn, 1) := by decide +kernel
theorem J_law_d1171 : decode J_law.2.1 1171 = .ok (.iload 5, 2) := by decide +kernel
theorem J_law_d1173 : decode J_law.2.1 1173 = .ok (.ifCond .ne 15, 3) := by decide +kernel
theorem J_law_d1176 : decode J_law.2.1 1176 = .ok (.aload_n 3, 1) := by decide +kernel
theorem J_law_d1177 : decode J_law.2.1 1177 = .ok (.iconst 0, 1) := by decide +kernel
theorem J_law_d1178 : decode J_law.2.1 1178 = .ok (.laload, 1) := by decide +kernel
theorem J_law_d1179 : decode J_law.2.1 1179 = .ok (.iload 6, 2) := by decide +kernel
theorem J_law_d1181 : decode J_law.2.1 1181 = .ok (.i2l, 1) := by decide +kernel
theorem J_law_d1182 : decode J_law.2.1 1182 = .ok (.lcmp, 1) := by decide +kernel
theorem J_law_d1183 : decode J_law.2.1 1183 = .ok (.ifCond .eq 5, 3) := by decide +kernel
theorem J_law_d1186 : decode J_law.2.1 1186 = .ok (.iconst 0, 1) := by decide +kernel
theorem J_law_d1187 : decode J_law.2.1 1187 = .ok (.ireturn, 1) := by decide +kernel
theorem J_law_d1188 : decode J_law.2.1 1188 = .ok (.goto 237, 3) := by decide +kernel
theorem J_law_d1191 : decode J_law.2.1 1191 = .ok (.aload_n 1, 1) := by decide +kernel
theorem J_law_d1192 : decode J_law.2.1 1192 = .ok (.aload_n 0, 1) := by decide +kernel
theorem J_law_d1193 : decode J_law.2.1 1193 = .ok (.iload 4, 2) := by decide +kernel
theorem J_law_d1195 : decode J_law.2.1 1195 = .ok (.iconst 1, 1) := by decide +kernel
theorem J_law_d1196 : decode J_law.2.1 1196 = .ok (.iadd, 1) := by decide +kernel
theorem J_law_d1197 : decode J_law.2.1 1197 = .ok (.iaload, 1) := by decide +kernel
theorem J_law_d1198 : decode J_law.2.1 1198 = .ok (.aload_n 3, 1) := by decide +kernel
theorem J_law_d1199 : decode J_law.2.1 1199 = .ok (.invokestatic 151, 3) := by decide +kernel
theorem J_law_d1202 : decode J_law.2.1 1202 = .ok (.istore 5, 2) := by decide +kernel
theorem J_law_d1204 : decode J_law.2.1 1204 = .ok (.aload_n 2, 1) := by decide +kernel
theorem J_law_d1205 : decode J_law.2.1 1205 = .ok (.aload_n 0, 1) := by decide +kernel
theorem J_law_d1206 : decode J_law.2.1 1206 = .ok (.iload 4, 2) := by decide +kernel
theorem J_law_d1208 : decode J_law.2.1 1208 = .ok (.iconst 1, 1) := by decide +kernel
theorem J_law_d1209 : decode J_law.2.1 1209 = .ok (.iadd, 1) := by decide +kernel
theorem J_law_d1210 : decode J_law.2.1 1210 = .ok (.iaload, 1) := by decide +kernel
theorem J_law_d1211 : decode J_law.2.1 1211 = .ok (.invokevirtual 153, 3) := by decide +kernel
theorem J_law_d1214 : decode J_law.2.1 1214 = .ok (.istore 6, 2) := by decide +kernel
theorem J_law_d1216 : decode J_law.2.1 1216 = .ok (.aload_n 2, 1) := by decide +kernel
theorem J_law_d1217 : decode J_law.2.1 1217 = .ok (.invokevirtual 79, 3) := by decide +kernel
theorem J_law_d1220 : decode J_law.2.1 1220 = .ok (.iload 5, 2) := by decide +kernel
theorem J_law_d1222 : decode J_law.2.1 1222 = .ok (.if_icmp .eq 5, 3) := by decide +kernel
theorem J_law_d1225 : decode J_law.2.1 1225 = .ok (.iconst 0, 1) := by decide +kernel
theorem J_law_d1226 : decode J_law.2.1 1226 = .ok (.ireturn, 1) := by decide +kernel
theorem J_law_d1227 : decode J_law.2.1 1227 = .ok (.iload 5, 2) := by decide +kernel
theorem J_law_d1229 : decode J_law.2.1 1229 = .ok (.ifCond .ne 15, 3) := by decide +kernel
theorem J_law_d1232 : decode J_law.2.1 1232 = .ok (.aload_n 3, 1) := by decide +kernel
theorem J_law_d1233 : decode J_law.2.1 1233 = .ok (.iconst 0, 1) := by decide +kernel
theorem J_law_d1234 : decode J_law.2.1 1234 = .ok (.laload, 1) := by decide +kernel
theorem J_law_d1235 : decode J_law.2.1 1235 = .ok (.iload 6, 2) := by decide +kernel
theorem J_law_d1237 : decode J_law.2.1 1237 = .ok (.i2l, 1) := by decide +kernel
theorem J_law_d1238 : decode J_law.2.1 1238 = .ok (.lcmp, 1) := by decide +kernel
theorem J_law_d1239 : decode J_law.2.1 1239 = .ok (.ifCond .eq 5, 3) := by decide +kernel
theorem J_law_d1242 : decode J_law.2.1 1242 = .ok (.iconst 0, 1) := by decide +kernel
theorem J_law_d1243 : decode J_law.2.1 1243 = .ok (.ireturn, 1) := by decide +kernel
theorem J_law_d1244 : decode J_law.2.1 1244 = .ok (.goto 181, 3) := by decide +kernel
theorem J_law_d1247 : decode J_law.2.1 1247 = .ok (.aload_n 1, 1) := by decide +kernel
theorem J_law_d1248 : decode J_law.2.1 1248 = .ok (.aload_n 0, 1) := by decide +kernel
theorem J_law_d1249 : decode J_law.2.1 1249 = .ok (.iload 4, 2) := by decide +kernel
theorem J_law_d1251 : decode J_law.2.1 1251 = .ok (.iconst 1, 1) := by decide +kernel
theorem J_law_d1252 : decode J_law.2.1 1252 = .ok (.iadd, 1) := by decide +kernel
theorem J_law_d1253 : decode J_law.2.1 1253 = .ok (.iaload, 1) := by decide +kernel
theorem J_law_d1254 : decode J_law.2.1 1254 = .ok (.aload_n 0, 1) := by decide +kernel
theorem J_law_d1255 : decode J_law.2.1 1255 = .ok (.iload 4, 2) := by decide +kernel
theorem J_law_d1257 : decode J_law.2.1 1257 = .ok (.iconst 2, 1) := by decide +kernel
theorem J_law_d1258 : decode J_law.2.1 1258 = .ok (.iadd, 1) := by decide +kernel
theorem J_law_d1259 : decode J_law.2.1 1259 = .ok (.iaload, 1) := by decide +kernel
theorem J_law_d1260 : decode J_law.2.1 1260 = .ok (.aload_n 0, 1) := by decide +kernel
theorem J_law_d1261 : decode J_law.2.1 1261 = .ok (.iload 4, 2) := by decide +kernel
theorem J_law_d1263 : decode J_law.2.1 1263 = .ok (.iconst 3, 1) := by decide +kernel
theorem J_law_d1264 : decode J_law.2.1 1264 = .ok (.iadd, 1) := by decide +kernel
theorem J_law_d1265 : decode J_law.2.1 1265 = .ok (.iaload, 1) := by decide +kernel
theorem J_law_d1266 : decode J_law.2.1 1266 = .ok (.ifCond .eq 7, 3) := by decide +kernel
theorem J_law_d1269 : decode J_law.2.1 1269 = .ok (.iconst 1, 1) := by decide +kernel
theorem J_law_d1270 : decode J_law.2.1 1270 = .ok (.goto 4, 3) := by decide +kernel
theorem J_law_d1273 : decode J_law.2.1 1273 = .ok (.iconst 0, 1) := by decide +kernel
theorem J_law_d1274 : decode J_law.2.1 1274 = .ok (.aload_n 3, 1) := by decide +kernel
theorem J_law_d1275 : decode J_law.2.1 1275 = .ok (.invokestatic 154, 3) := by decide +kernel
theorem J_law_d1278 : decode J_law.2.1 1278 = .ok (.istore 5, 2) := by decide +kernel
theorem J_law_d1280 : decode J_law.2.1 1280 = .ok (.aload_n 2, 1) := by decide +kernel
theorem J_law_d1281 : decode J_law.2.1 1281 = .ok (.aload_n 0, 1) := by decide +kernel
theorem J_law_d1282 : decode J_law.2.1 1282 = .ok (.iload 4, 2) := by decide +kernel
theorem J_law_d1284 : decode J_law.2.1 1284 = .ok (.iconst 1, 1) := by decide +kernel
theorem J_law_d1285 : decode J_law.2.1 1285 = .ok (.iadd, 1) := by decide +kernel
theorem J_law_d1286 : decode J_law.2.1 1286 = .ok (.iaload, 1) := by decide +kernel
theorem J_law_d1287 : decode J_law.2.1 1287 = .ok (.aload_n 0, 1) := by decide +kernel
theorem J_law_d1288 : decode J_law.2.1 1288 = .ok (.iload 4, 2) := by decide +kernel
theorem J_law_d1290 : decode J_law.2.1 1290 = .ok (.iconst 2, 1) := by decide +kernel
theorem J_law_d1291 : decode J_law.2.1 1291 = .ok (.iadd, 1) := by decide +kernel
theorem J_law_d1292 : decode J_law.2.1 1292 = .ok (.iaload, 1) := by decide +kernel
theorem J_law_d1293 : decode J_law.2.1 1293 = .ok (.aload_n 0, 1) := by decide +kernel
theorem J_law_d1294 : decode J_law.2.1 1294 = .ok (.iload 4, 2) := by decide +kernel
theorem J_law_d1296 : decode J_law.2.1 1296 = .ok (.iconst 3, 1) := by decide +kernel
theorem J_law_d1297 : decode J_law.2.1 1297 = .ok (.iadd, 1) := by decide +kernel
theorem J_law_d1298 : decode J_law.2.1 1298 = .ok (.iaload, 1) := by decide +kernel
theorem J_law_d1299 : decode J_law.2.1 1299 = .ok (.ifCond .eq 7, 3) := by decide +kernel
theorem J_law_d1302 : decode J_law.2.1 1302 = .ok (.iconst 1, 1) := by decide +kernel
theorem J_law_d1303 : decode J_law.2.1 1303 = .ok (.goto 4, 3) := by decide +kernel
theorem J_law_d1306 : decode J_law.2.1 1306 = .ok (.iconst 0, 1) := by decide +kernel
theorem J_law_d1307 : decode J_law.2.1 1307 = .ok (.invokevirtual 157, 3) := by decide +kernel
theorem J_law_d1310 : decode J_law.2.1 1310 = .ok (.istore 6, 2) := by decide +kernel
theorem J_law_d1312 : decode J_law.2.1 1312 = .ok (.aload_n 2, 1) := by decide +kernel
theorem J_law_d1313 : decode J_law.2.1 1313 = .ok (.invokevirtual 79, 3) := by decide +kernel
theorem J_law_d1316 : decode J_law.2.1 1316 = .ok (.iload 5, 2) := by decide +kernel
theorem J_law_d1318 : decode J_law.2.1 1318 = .ok (.if_icmp .eq 5, 3) := by decide +kernel
theorem J_law_d1321 : decode J_law.2.1 1321 = .ok (.iconst 0, 1) := by decide +kernel
theorem J_law_d1322 : decode J_law.2.1 1322 = .ok (.ireturn, 1) := by decide +kernel
theorem J_law_d1323 : decode J_law.2.1 1323 = .ok (.iload 5, 2) := by decide +kernel
theorem J_law_d1325 : decode J_law.2.1 1325 = .ok (.ifCond .ne 15, 3) := by decide +kernel
theorem J_law_d1328 : decode J_law.2.1 1328 = .ok (.aload_n 3, 1) := by decide +kernel
theorem J_law_d1329 : decode J_law.2.1 1329 = .ok (.iconst 0, 1) := by decide +kernel
theorem J_law_d1330 : decode J_law.2.1 1330 = .ok (.laload, 1) := by decide +kernel
theorem J_law_d1331 : decode J_law.2.1 1331 = .ok (.iload 6, 2) := by decide +kernel
theorem J_law_d1333 : decode J_law.2.1 1333 = .ok (.i2l, 1) := by decide +kernel
theorem J_law_d1334 : decode J_law.2.1 1334 = .ok (.lcmp, 1) := by decide +kernel
theorem J_law_d1335 : decode J_law.2.1 1335 = .ok (.ifCond .eq 5, 3) := by decide +kernel
theorem J_law_d1338 : decode J_law.2.1 1338 = .ok (.iconst 0, 1) := by decide +kernel
theorem J_law_d1339 : decode J_law.2.1 1339 = .ok (.ireturn, 1) := by decide +kernel
theorem J_law_d1340 : decode J_law.2.1 1340 = .ok (.goto 85, 3) := by decide +kernel
theorem J_law_d1343 : decode J_law.2.1 1343 = .ok (.aload_n 1, 1) := by decide +kernel
theorem J_law_d1344 : decode J_law.2.1 1344 = .ok (.aload_n 0, 1) := by decide +kernel
theorem J_law_d1345 : decode J_law.2.1 1345 = .ok (.iload 4, 2) := by decide +kernel
theorem J_law_d1347 : decode J_law.2.1 1347 = .ok (.iconst 1, 1) := by decide +kernel
theorem J_law_d1348 : decode J_law.2.1 1348 = .ok (.iadd, 1) := by decide +kernel
theorem J_law_d1349 : decode J_law.2.1 1349 = .ok (.iaload, 1) := by decide +kernel
theorem J_law_d1350 : decode J_law.2.1 1350 = .ok (.aload_n 3, 1) := by decide +kernel
theorem J_law_d1351 : decode J_law.2.1 1351 = .ok (.invokestatic 158, 3) := by decide +kernel
theorem J_law_d1354 : decode J_law.2.1 1354 = .ok (.istore 5, 2) := by decide +kernel
theorem J_law_d1356 : decode J_law.2.1 1356 = .ok (.aload_n 2, 1) := by decide +kernel
theorem J_law_d1357 : decode J_law.2.1 1357 = .ok (.aload_n 0, 1) := by decide +kernel
theorem J_law_d1358 : decode J_law.2.1 1358 = .ok (.iload 4, 2) := by decide +kernel
theorem J_law_d1360 : decode J_law.2.1 1360 = .ok (.iconst 1, 1) := by decide +kernel
theorem J_law_d1361 : decode J_law.2.1 1361 = .ok (.iadd, 1) := by decide +kernel
theorem J_law_d1362 : decode J_law.2.1 1362 = .ok (.iaload, 1) := by decide +kernel
theorem J_law_d1363 : decode J_law.2.1 1363 = .ok (.invokevirtual 160, 3) := by decide +kernel
theorem J_law_d1366 : decode J_law.2.1 1366 = .ok (.istore 6, 2) := by decide +kernel
theorem J_law_d1368 : decode J_law.2.1 1368 = .ok (.aload_n 2, 1) := by decide +kernel
theorem J_law_d1369 : decode J_law.2.1 1369 = .ok (.invokevirtual 79, 3) := by decide +kernel
theorem J_law_d1372 : decode J_law.2.1 1372 = .ok (.iload 5, 2) := by decide +kernel
theorem J_law_d1374 : decode J_law.2.1 1374 = .ok (.if_icmp .eq 5, 3) := by decide +kernel
theorem J_law_d1377 : decode J_law.2.1 1377 = .ok (.iconst 0, 1) := by decide +kernel
theorem J_law_d1378 : decode J_law.2.1 1378 = .ok (.ireturn, 1) := by decide +kernel
theorem J_law_d1379 : decode J_law.2.1 1379 = .ok (.iload 5, 2) := by decide +kernel
theorem J_law_d1381 : decode J_law.2.1 1381 = .ok (.ifCond .ne 15, 3) := by decide +kernel
theorem J_law_d1384 : decode J_law.2.1 1384 = .ok (.aload_n 3, 1) := by decide +kernel
theorem J_law_d1385 : decode J_law.2.1 1385 = .ok (.iconst 0, 1) := by decide +kernel
theorem J_law_d1386 : decode J_law.2.1 1386 = .ok (.laload, 1) := by decide +kernel
theorem J_law_d1387 : decode J_law.2.1 1387 = .ok (.iload 6, 2) := by decide +kernel
theorem J_law_d1389 : decode J_law.2.1 1389 = .ok (.i2l, 1) := by decide +kernel
theorem J_law_d1390 : decode J_law.2.1 1390 = .ok (.lcmp, 1) := by decide +kernel
theorem J_law_d1391 : decode J_law.2.1 1391 = .ok (.ifCond .eq 5, 3) := by decide +kernel
theorem J_law_d1394 : decode J_law.2.1 1394 = .ok (.iconst 0, 1) := by decide +kernel
theorem J_law_d1395 : decode J_law.2.1 1395 = .ok (.ireturn, 1) := by decide +kernel
theorem J_law_d1396 : decode J_law.2.1 1396 = .ok (.goto 29, 3) := by decide +kernel
theorem J_law_d1399 : decode J_law.2.1 1399 = .ok (.aload_n 1, 1) := by decide +kernel
theorem J_law_d1400 : decode J_law.2.1 1400 = .ok (.aload_n 0, 1) := by decide +kernel
theorem J_law_d1401 : decode J_law.2.1 1401 = .ok (.iload 4, 2) := by decide +kernel
theorem J_law_d1403 : decode J_law.2.1 1403 = .ok (.iconst 1, 1) := by decide +kernel
theorem J_law_d1404 : decode J_law.2.1 1404 = .ok (.iadd, 1) := by decide +kernel
theorem J_law_d1405 : decode J_law.2.1 1405 = .ok (.iaload, 1) := by decide +kernel
theorem J_law_d1406 : decode J_law.2.1 1406 = .ok (.invokevirtual 161, 3) := by decide +kernel
theorem J_law_d1409 : decode J_law.2.1 1409 = .ok (.aload_n 2, 1) := by decide +kernel
theorem J_law_d1410 : decode J_law.2.1 1410 = .ok (.aload_n 0, 1) := by decide +kernel
theorem J_law_d1411 : decode J_law.2.1 1411 = .ok (.iload 4, 2) := by decide +kernel
theorem J_law_d1413 : decode J_law.2.1 1413 = .ok (.iconst 1, 1) := by decide +kernel
theorem J_law_d1414 : decode J_law.2.1 1414 = .ok (.iadd, 1) := by decide +kernel
theorem J_law_d1415 : decode J_law.2.1 1415 = .ok (.iaload, 1) := by decide +kernel
theorem J_law_d1416 : decode J_law.2.1 1416 = .ok (.invokevirtual 165, 3) := by decide +kernel
theorem J_law_d1419 : decode J_law.2.1 1419 = .ok (.lcmp, 1) := by decide +kernel
theorem J_law_d1420 : decode J_law.2.1 1420 = .ok (.ifCond .eq 5, 3) := by decide +kernel
theorem J_law_d1423 : decode J_law.2.1 1423 = .ok (.iconst 0, 1) := by decide +kernel
theorem J_law_d1424 : decode J_law.2.1 1424 = .ok (.ireturn, 1) := by decide +kernel
theorem lX_73 : tb_X.2.2.1 18 73 = some (JW_feed, JW_feed_h) := rfl
theorem lX_87 : tb_X.2.2.1 18 87 = some (JW_font, JW_font_h) := rfl
theorem lX_91 : tb_X.2.2.1 18 91 = some (JW_cell, JW_cell_h) := rfl
theorem lX_106 : tb_X.2.2.1 18 106 = some (JW_label, JW_label_h) := rfl
theorem lX_110 : tb_X.2.2.1 18 110 = some (JW_order, JW_order_h) := rfl
theorem lX_113 : tb_X.2.2.1 18 113 = some (JW_data, JW_data_h) := rfl
theorem lX_116 : tb_X.2.2.1 18 116 = some (JW_print, JW_print_h) := rfl
theorem lX_129 : tb_X.2.2.1 18 129 = some (JW_turn, JW_turn_h) := rfl
theorem lX_133 : tb_X.2.2.1 18 133 = some (JW_told, JW_told_h) := rfl
theorem lX_140 : tb_X.2.2.1 18 140 = some (JW_run, JW_run_h) := rfl
theorem lX_144 : tb_X.2.2.1 18 144 = some (JW_scan, JW_scan_h) := rfl
theorem lX_148 : tb_X.2.2.1 18 148 = some (JW_found, JW_found_h) := rfl
theorem lX_151 : tb_X.2.2.1 18 151 = some (JW_decode, JW_decode_h) := rfl
theorem lX_154 : tb_X.2.2.1 18 154 = some (JW_bars, JW_bars_h) := rfl
theorem lX_158 : tb_X.2.2.1 18 158 = some (JW_reading, JW_reading_h) := rfl
theorem lw_go {L i : Nat} (hL : L ≤ 2560) (hi : i + 5 ≤ L) : ¬ Int32.ofNat (33, L).2 - 5 < nI i := by
  show ¬ nI L - 5 < nI i
  rw [Int32.lt_iff_toInt_lt, Int32.toInt_sub, nI_toInt (by omega), nI_toInt (by omega)]
  have e5 : (5 : Int32).toInt = 5 := by decide +kernel
  rw [e5]
  have : ((L : Int) - 5).bmod (2 ^ 32) = (L : Int) - 5 := by
    apply Int.bmod_eq_of_le <;> omega
  rw [this]
  omega
theorem lcq_ {a b : Int64} (h : a = b) : lg_cmp a b = 0 := by
  subst h
  unfold lg_cmp
  simp
theorem law_0 {L : Nat} {xs : Nat → Int32} {dep i : Nat} {w : Bool} {M : im_M} {P : Option Value → im_M → Nat → Prop} {K : Bool → im_M → Prop} (hL : L ≤ 2560) (hi : i + 5 ≤ L) (hM : lw_S w M) (hk : xs i &&& 31 = 0) (hc : lw_W L xs dep JW_feed JW_feed_h [.ref 0, .int (xs (i + 1)), .long (((Int32.toInt64 (xs (i + 2))) <<< (Int32.toInt64 32 &&& 63)) ||| ((Int32.toInt64 (xs (i + 3))) &&& 4294967295)), .ref 138] M (fun w2 k M2 => ed (f_M_feed (xs (i + 1)) (((Int32.toInt64 (xs (i + 2))) <<< (Int32.toInt64 32 &&& 63)) ||| ((Int32.toInt64 (xs (i + 3))) &&& 4294967295)) M2) (fun r => im_i r.2 69 0 = k ∧ (k = 0 → im_l r.2 138 0 = Int32.toInt64 r.1) ∧ K w2 r.2))) (hn : ∀ t, t ≤ 1 → ∀ w1 M1, lw_S w1 M1 → K w1 M1 → lw_H L xs dep (fun v2 M2 t2 => P v2 M2 (t + t2)) (i + 5) M1) : lw_H L xs dep P i M := by
  have hS : im_St (tb_G L xs) (dep + 30) J_law (ix (tb_G L xs) tb_X (dep + 30) J_law [] P) := ix_St (tb_GX L xs)
  intro Lc hl
  obtain ⟨h0, h1, h2, h3, h4⟩ := hl
  refine iq_iload hS 25 J_law_d23 h4 rfl ?_
  refine iq_aload_n hS 26 J_law_d25 h0 rfl ?_
  refine iq_xalen hS 27 J_law_d26 (by rw [hM.1]; decide) (Or.inl (by rw [xk_s])) rfl ?_
  rw [xk_s]
  refine iq_iconst hS 28 J_law_d27 (v := 5) (by decide +kernel) rfl ?_
  refine iq_isub hS 29 J_law_d28 rfl ?_
  refine iq_icmp_gt hS 32 J_law_d29 (t := 1431) rfl (fun q => absurd q (lw_go hL hi)) rfl (fun _ => ?_)
  refine iq_aload_n hS 33 J_law_d32 h0 rfl ?_
  refine iq_iload hS 35 J_law_d33 h4 rfl ?_
  refine iq_scr hS 36 J_law_d35 hM.1 (c := 0) rfl hL (by omega) rfl ?_
  refine iq_bipush hS 38 J_law_d36 (v := 31) (by decide +kernel) rfl ?_
  refine iq_iand hS 39 J_law_d38 rfl ?_
  refine iq_tsw hS J_law_d39 (t := 144) (sw_v hk (by decide +kernel)) ?_
  refine iq_aload_n hS 145 J_law_d144 h1 rfl ?_
  refine iq_aload_n hS 146 J_law_d145 h0 rfl ?_
  refine iq_iload hS 148 J_law_d146 h4 rfl ?_
  refine iq_iconst hS 149 J_law_d148 (v := 1) (by decide +kernel) rfl ?_
  refine iq_iadd hS 150 J_law_d149 rfl ?_
  refine iq_scr hS 151 J_law_d150 hM.1 (i := i) (c := 1) (nI_add i 1) hL (by omega) rfl ?_
  refine iq_aload_n hS 152 J_law_d151 h0 rfl ?_
  refine iq_iload hS 154 J_law_d152 h4 rfl ?_
  refine iq_iconst hS 155 J_law_d154 (v := 2) (by decide +kernel) rfl ?_
  refine iq_iadd hS 156 J_law_d155 rfl ?_
  refine iq_scr hS 157 J_law_d156 hM.1 (i := i) (c := 2) (nI_add i 2) hL (by omega) rfl ?_
  refine iq_i2l hS 158 J_law_d157 rfl ?_
  refine iq_bipush hS 160 J_law_d158 (v := 32) (by decide +kernel) rfl ?_
  refine iq_lshl hS 161 J_law_d160 rfl ?_
  refine iq_aload_n hS 162 J_law_d161 h0 rfl ?_
  refine iq_iload hS 164 J_law_d162 h4 rfl ?_
  refine iq_iconst hS 165 J_law_d164 (v := 3) (by decide +kernel) rfl ?_
  refine iq_iadd hS 166 J_law_d165 rfl ?_
  refine iq_scr hS 167 J_law_d166 hM.1 (i := i) (c := 3) (nI_add i 3) hL (by omega) rfl ?_
  refine iq_i2l hS 168 J_law_d167 rfl ?_
  refine iq_ldc2_w hS 171 J_law_d168 lk_18_71 rfl ?_
  refine iq_land hS 172 J_law_d171 rfl ?_
  refine iq_lor hS 173 J_law_d172 rfl ?_
  refine iq_aload_n hS 174 J_law_d173 h3 rfl ?_
  obtain ⟨kk, M2, t, w2, hM2, ht, hix, hc⟩ := hc
  refine ix_callX (tb_GX L xs) 177 J_law_d174 (pr_X (vs := [_, _, _, _]) lX_73 rfl (by decide) rfl (Nat.le_of_ble_eq_true rfl) (Nat.le_of_ble_eq_true rfl)) hix rfl ?_
  rintro _ N9 t9 ⟨rfl, eN, et⟩
  rw [eN, et]
  have hS2 : im_St (tb_G L xs) (dep + 30) J_law (ix (tb_G L xs) tb_X (dep + 30) J_law [] (fun v2 M2 t2 => P v2 M2 (t + t2))) := ix_St (tb_GX L xs)
  refine iq_istore hS2 179 J_law_d177 (by decide) rfl ?_
  refine iq_aload_n hS2 180 J_law_d179 (lk_1r h2 (by decide)) rfl ?_
  refine iq_aload_n hS2 181 J_law_d180 (lk_1r h0 (by decide)) rfl ?_
  refine iq_iload hS2 183 J_law_d181 (lk_1i h4 (by decide)) rfl ?_
  refine iq_iconst hS2 184 J_law_d183 (v := 1) (by decide +kernel) rfl ?_
  refine iq_iadd hS2 185 J_law_d184 rfl ?_
  refine iq_scr hS2 186 J_law_d185 hM2.1 (i := i) (c := 1) (nI_add i 1) hL (by omega) rfl ?_
  refine iq_aload_n hS2 187 J_law_d186 (lk_1r h0 (by decide)) rfl ?_
  refine iq_iload hS2 189 J_law_d187 (lk_1i h4 (by decide)) rfl ?_
  refine iq_iconst hS2 190 J_law_d189 (v := 2) (by decide +kernel) rfl ?_
  refine iq_iadd hS2 191 J_law_d190 rfl ?_
  refine iq_scr hS2 192 J_law_d191 hM2.1 (i := i) (c := 2) (nI_add i 2) hL (by omega) rfl ?_
  refine iq_i2l hS2 193 J_law_d192 rfl ?_
  refine iq_bipush hS2 195 J_law_d193 (v := 32) (by decide +kernel) rfl ?_
  refine iq_lshl hS2 196 J_law_d195 rfl ?_
  refine iq_aload_n hS2 197 J_law_d196 (lk_1r h0 (by decide)) rfl ?_
  refine iq_iload hS2 199 J_law_d197 (lk_1i h4 (by decide)) rfl ?_
  refine iq_iconst hS2 200 J_law_d199 (v := 3) (by decide +kernel) rfl ?_
  refine iq_iadd hS2 201 J_law_d200 rfl ?_
  refine iq_scr hS2 202 J_law_d201 hM2.1 (i := i) (c := 3) (nI_add i 3) hL (by omega) rfl ?_
  refine iq_i2l hS2 203 J_law_d202 rfl ?_
  refine iq_ldc2_w hS2 206 J_law_d203 lk_18_71 rfl ?_
  refine iq_land hS2 207 J_law_d206 rfl ?_
  refine iq_lor hS2 208 J_law_d207 rfl ?_
  refine iq_cwI hS2 211 J_law_d208 rfl (pr_inst (vs := [_, _]) lc_18_78 lT_269 rfl rfl (by decide) (by decide) rfl (Nat.le_of_ble_eq_true rfl) (Nat.le_of_ble_eq_true rfl) (fun _ => Or.inl (pr_b (ka_69 hM2) (by decide) rfl))) (f_M_feed_ok (dep := dep + 29) hM2 hc) rfl ?_
  intro x1 N1 hN1 hc
  refine iq_istore hS2 213 J_law_d211 (by decide) rfl ?_
  refine iq_aload_n hS2 214 J_law_d213 (lk_1r (lk_1r h2 (by decide)) (by decide)) rfl ?_
  refine iq_cpI hS2 217 J_law_d214 rfl (pr_inst (vs := []) lc_18_79 lT_268 rfl rfl (by decide) (by decide) rfl (Nat.le_of_ble_eq_true rfl) (Nat.le_of_ble_eq_true rfl) (fun _ => Or.inl (pr_b (ka_69 hN1) (by decide) rfl))) (f_M_thrown_ok (dep := dep + 29) hN1 (Q := fun x => x = im_i N1 69 0) ⟨_, rfl, rfl⟩) rfl ?_
  rintro _ rfl
  refine iq_iload hS2 219 J_law_d217 (lk_1i lk_1s (by decide)) rfl ?_
  refine iq_icmp_eq hS2 222 J_law_d219 (t := 224) rfl (fun _ => ?_) rfl (fun q => absurd hc.1 q)
  refine iq_iload hS2 226 J_law_d224 (lk_1i lk_1s (by decide)) rfl ?_
  refine iq_if_ne hS2 229 J_law_d226 (t := 241) rfl (fun qk => ?_) rfl (fun qk => ?_)
  · refine iq_goto hS2 J_law_d241 (t := 1425) rfl ?_
    refine iq_iincv hS2 1428 J_law_d1425 (c := 5) (by decide +kernel) (lk_1i (lk_1i h4 (by decide)) (by decide)) (by decide) rfl ?_
    refine iq_goto hS2 J_law_d1428 (t := 23) rfl ?_
    exact hn t ht w2 N1 hN1 hc.2.2 _ (lw_L5 (lk_1r (lk_1r h0 (by decide)) (by decide)) (lk_1r (lk_1r h1 (by decide)) (by decide)) (lk_1r (lk_1r h2 (by decide)) (by decide)) (lk_1r (lk_1r h3 (by decide)) (by decide)) (nI_add i 5))
  · refine iq_aload_n hS2 230 J_law_d229 (lk_1r (lk_1r h3 (by decide)) (by decide)) rfl ?_
    refine iq_iconst hS2 231 J_law_d230 (v := 0) (by decide +kernel) rfl ?_
    refine iq_laload hS2 232 J_law_d231 ⟨(ka_138 hN1).1, (ka_138 hN1).2, by decide, ix_lt (kl_138 hN1) (by decide)⟩ rfl ?_
    refine iq_iload hS2 234 J_law_d232 lk_1s rfl ?_
    refine iq_i2l hS2 235 J_law_d234 rfl ?_
    refine iq_lcmp hS2 236 J_law_d235 rfl ?_
    refine iq_if_eq hS2 239 J_law_d236 (t := 241) rfl (fun _ => ?_) rfl (fun q => absurd (lcq_ (hc.2.1 (Decidable.not_not.mp qk))) q)
    refine iq_goto hS2 J_law_d241 (t := 1425) rfl ?_
    refine iq_iincv hS2 1428 J_law_d1425 (c := 5) (by decide +kernel) (lk_1i (lk_1i h4 (by decide)) (by decide)) (by decide) rfl ?_
    refine iq_goto hS2 J_law_d1428 (t := 23) rfl ?_
    exact hn t ht w2 N1 hN1 hc.2.2 _ (lw_L5 (lk_1r (lk_1r h0 (by decide)) (by decide)) (lk_1r (lk_1r h1 (by decide)) (by decide)) (lk_1r (lk_1r h2 (by decide)) (by decide)) (lk_1r (lk_1r h3 (by decide)) (by decide)) (nI_add i 5))
theorem law_1 {L : Nat} {xs : Nat → Int32} {dep i : Nat} {w : Bool} {M : im_M} {P : Option Value → im_M → Nat → Prop} {K : Bool → im_M → Prop} (hL : L ≤ 2560) (hi : i + 5 ≤ L) (hM : lw_S w M) (hk : xs i &&& 31 = 1) (hc : ed (f_H_wipe M) (fun r => ed (f_M_wipe r.2) (fun s => r.1 = s.1 ∧ K w s.2))) (hn : ∀ w1 M1, lw_S w1 M1 → K w1 M1 → lw_H L xs dep P (i + 5) M1) : lw_H L xs dep P i M := by
  have hS : im_St (tb_G L xs) (dep + 30) J_law (ix (tb_G L xs) tb_X (dep + 30) J_law [] P) := ix_St (tb_GX L xs)
  intro Lc hl
  obtain ⟨h0, h1, h2, h3, h4⟩ := hl
  refine iq_iload hS 25 J_law_d23 h4 rfl ?_
  refine iq_aload_n hS 26 J_law_d25 h0 rfl ?_
  refine iq_xalen hS 27 J_law_d26 (by rw [hM.1]; decide) (Or.inl (by rw [xk_s])) rfl ?_
  rw [xk_s]
  refine iq_iconst hS 28 J_law_d27 (v := 5) (by decide +kernel) rfl ?_
  refine iq_isub hS 29 J_law_d28 rfl ?_
  refine iq_icmp_gt hS 32 J_law_d29 (t := 1431) rfl (fun q => absurd q (lw_go hL hi)) rfl (fun _ => ?_)
  refine iq_aload_n hS 33 J_law_d32 h0 rfl ?_
  refine iq_iload hS 35 J_law_d33 h4 rfl ?_
  refine iq_scr hS 36 J_law_d35 hM.1 (c := 0) rfl hL (by omega) rfl ?_
  refine iq_bipush hS 38 J_law_d36 (v := 31) (by decide +kernel) rfl ?_
  refine iq_iand hS 39 J_law_d38 rfl ?_
  refine iq_tsw hS J_law_d39 (t := 244) (sw_v hk (by decide +kernel)) ?_
  refine iq_aload_n hS 245 J_law_d244 h1 rfl ?_
  refine iq_cwI hS 248 J_law_d245 rfl (pr_inst (vs := []) lc_18_83 lT_12 rfl rfl (by decide) (by decide) rfl (Nat.le_of_ble_eq_true rfl) (Nat.le_of_ble_eq_true rfl) (fun _ => Or.inl (pr_b (ka_0 hM) (by decide) rfl))) (f_H_wipe_ok (dep := dep + 29) hM hc) rfl ?_
  intro x1 N1 hN1 hc
  refine iq_aload_n hS 249 J_law_d248 h2 rfl ?_
  refine iq_cwI hS 252 J_law_d249 rfl (pr_inst (vs := []) lc_18_86 lT_270 rfl rfl (by decide) (by decide) rfl (Nat.le_of_ble_eq_true rfl) (Nat.le_of_ble_eq_true rfl) (fun _ => Or.inl (pr_b (ka_69 hN1) (by decide) rfl))) (f_M_wipe_ok (dep := dep + 29) hN1 hc) rfl ?_
  intro x2 N2 hN2 hc
  refine iq_icmp_eq hS 255 J_law_d252 (t := 1425) rfl (fun _ => ?_) rfl (fun q => absurd hc.1 q)
  refine iq_iincv hS 1428 J_law_d1425 (c := 5) (by decide +kernel) h4 (by decide) rfl ?_
  refine iq_goto hS J_law_d1428 (t := 23) rfl ?_
  exact hn w N2 hN2 hc.2 _ (lw_L5 h0 h1 h2 h3 (nI_add i 5))
theorem law_2 {L : Nat} {xs : Nat → Int32} {dep i : Nat} {w : Bool} {M : im_M} {P : Option Value → im_M → Nat → Prop} {K : Bool → im_M → Prop} (hL : L ≤ 2560) (hi : i + 5 ≤ L) (hM : lw_S w M) (hk : xs i &&& 31 = 2) (hc : lw_W L xs dep JW_font JW_font_h [.ref 0, .int (xs (i + 1)), .int (xs (i + 2)), .int (xs (i + 3)), .int (xs (i + 4))] M (fun w2 k M2 => ed (f_M_font (xs (i + 1)) (xs (i + 2)) (xs (i + 3)) (xs (i + 4)) M2) (fun r => im_i r 69 0 = k ∧ K w2 r))) (hn : ∀ t, t ≤ 1 → ∀ w1 M1, lw_S w1 M1 → K w1 M1 → lw_H L xs dep (fun v2 M2 t2 => P v2 M2 (t + t2)) (i + 5) M1) : lw_H L xs dep P i M := by
  have hS : im_St (tb_G L xs) (dep + 30) J_law (ix (tb_G L xs) tb_X (dep + 30) J_law [] P) := ix_St (tb_GX L xs)
  intro Lc hl
  obtain ⟨h0, h1, h2, h3, h4⟩ := hl
  refine iq_iload hS 25 J_law_d23 h4 rfl ?_
  refine iq_aload_n hS 26 J_law_d25 h0 rfl ?_
  refine iq_xalen hS 27 J_law_d26 (by rw [hM.1]; decide) (Or.inl (by rw [xk_s])) rfl ?_
  rw [xk_s]
  refine iq_iconst hS 28 J_law_d27 (v := 5) (by decide +kernel) rfl ?_
  refine iq_isub hS 29 J_law_d28 rfl ?_
  refine iq_icmp_gt hS 32 J_law_d29 (t := 1431) rfl (fun q => absurd q (lw_go hL hi)) rfl (fun _ => ?_)
  refine iq_aload_n hS 33 J_law_d32 h0 rfl ?_
  refine iq_iload hS 35 J_law_d33 h4 rfl ?_
  refine iq_scr hS 36 J_law_d35 hM.1 (c := 0) rfl hL (by omega) rfl ?_
  refine iq_bipush hS 38 J_law_d36 (v := 31) (by decide +kernel) rfl ?_
  refine iq_iand hS 39 J_law_d38 rfl ?_
  refine iq_tsw hS J_law_d39 (t := 257) (sw_v hk (by decide +kernel)) ?_
  refine iq_aload_n hS 258 J_law_d257 h1 rfl ?_
  refine iq_aload_n hS 259 J_law_d258 h0 rfl ?_
  refine iq_iload hS 261 J_law_d259 h4 rfl ?_
  refine iq_iconst hS 262 J_law_d261 (v := 1) (by decide +kernel) rfl ?_
  refine iq_iadd hS 263 J_law_d262 rfl ?_
  refine iq_scr hS 264 J_law_d263 hM.1 (i := i) (c := 1) (nI_add i 1) hL (by omega) rfl ?_
  refine iq_aload_n hS 265 J_law_d264 h0 rfl ?_
  refine iq_iload hS 267 J_law_d265 h4 rfl ?_
  refine iq_iconst hS 268 J_law_d267 (v := 2) (by decide +kernel) rfl ?_
  refine iq_iadd hS 269 J_law_d268 rfl ?_
  refine iq_scr hS 270 J_law_d269 hM.1 (i := i) (c := 2) (nI_add i 2) hL (by omega) rfl ?_
  refine iq_aload_n hS 271 J_law_d270 h0 rfl ?_
  refine iq_iload hS 273 J_law_d271 h4 rfl ?_
  refine iq_iconst hS 274 J_law_d273 (v := 3) (by decide +kernel) rfl ?_
  refine iq_iadd hS 275 J_law_d274 rfl ?_
  refine iq_scr hS 276 J_law_d275 hM.1 (i := i) (c := 3) (nI_add i 3) hL (by omega) rfl ?_
  refine iq_aload_n hS 277 J_law_d276 h0 rfl ?_
  refine iq_iload hS 279 J_law_d277 h4 rfl ?_
  refine iq_iconst hS 280 J_law_d279 (v := 4) (by decide +kernel) rfl ?_
  refine iq_iadd hS 281 J_law_d280 rfl ?_
  refine iq_scr hS 282 J_law_d281 hM.1 (i := i) (c := 4) (nI_add i 4) hL (by omega) rfl ?_
  obtain ⟨kk, M2, t, w2, hM2, ht, hix, hc⟩ := hc
  refine ix_callX (tb_GX L xs) 285 J_law_d282 (pr_X (vs := [_, _, _, _, _]) lX_87 rfl (by decide) rfl (Nat.le_of_ble_eq_true rfl) (Nat.le_of_ble_eq_true rfl)) hix rfl ?_
  rintro _ N9 t9 ⟨rfl, eN, et⟩
  rw [eN, et]
  have hS2 : im_St (tb_G L xs) (dep + 30) J_law (ix (tb_G L xs) tb_X (dep + 30) J_law [] (fun v2 M2 t2 => P v2 M2 (t + t2))) := ix_St (tb_GX L xs)
  refine iq_istore hS2 287 J_law_d285 (by decide) rfl ?_
  refine iq_aload_n hS2 288 J_law_d287 (lk_1r h2 (by decide)) rfl ?_
  refine iq_aload_n hS2 289 J_law_d288 (lk_1r h0 (by decide)) rfl ?_
  refine iq_iload hS2 291 J_law_d289 (lk_1i h4 (by decide)) rfl ?_
  refine iq_iconst hS2 292 J_law_d291 (v := 1) (by decide +kernel) rfl ?_
  refine iq_iadd hS2 293 J_law_d292 rfl ?_
  refine iq_scr hS2 294 J_law_d293 hM2.1 (i := i) (c := 1) (nI_add i 1) hL (by omega) rfl ?_
  refine iq_aload_n hS2 295 J_law_d294 (lk_1r h0 (by decide)) rfl ?_
  refine iq_iload hS2 297 J_law_d295 (lk_1i h4 (by decide)) rfl ?_
  refine iq_iconst hS2 298 J_law_d297 (v := 2) (by decide +kernel) rfl ?_
  refine iq_iadd hS2 299 J_law_d298 rfl ?_
  refine iq_scr hS2 300 J_law_d299 hM2.1 (i := i) (c := 2) (nI_add i 2) hL (by omega) rfl ?_
  refine iq_aload_n hS2 301 J_law_d300 (lk_1r h0 (by decide)) rfl ?_
  refine iq_iload hS2 303 J_law_d301 (lk_1i h4 (by decide)) rfl ?_
  refine iq_iconst hS2 304 J_law_d303 (v := 3) (by decide +kernel) rfl ?_
  refine iq_iadd hS2 305 J_law_d304 rfl ?_
  refine iq_scr hS2 306 J_law_d305 hM2.1 (i := i) (c := 3) (nI_add i 3) hL (by omega) rfl ?_
  refine iq_aload_n hS2 307 J_law_d306 (lk_1r h0 (by decide)) rfl ?_
  refine iq_iload hS2 309 J_law_d307 (lk_1i h4 (by decide)) rfl ?_
  refine iq_iconst hS2 310 J_law_d309 (v := 4) (by decide +kernel) rfl ?_
  refine iq_iadd hS2 311 J_law_d310 rfl ?_
  refine iq_scr hS2 312 J_law_d311 hM2.1 (i := i) (c := 4) (nI_add i 4) hL (by omega) rfl ?_
  refine iq_cwV hS2 315 J_law_d312 rfl (pr_inst (vs := [_, _, _, _]) lc_18_90 lT_271 rfl rfl (by decide) (by decide) rfl (Nat.le_of_ble_eq_true rfl) (Nat.le_of_ble_eq_true rfl) (fun _ => Or.inl (pr_b (ka_69 hM2) (by decide) rfl))) (f_M_font_ok (dep := dep + 27) hM2 hc) rfl ?_
  intro N1 hN1 hc
  refine iq_aload_n hS2 316 J_law_d315 (lk_1r h2 (by decide)) rfl ?_
  refine iq_cpI hS2 319 J_law_d316 rfl (pr_inst (vs := []) lc_18_79 lT_268 rfl rfl (by decide) (by decide) rfl (Nat.le_of_ble_eq_true rfl) (Nat.le_of_ble_eq_true rfl) (fun _ => Or.inl (pr_b (ka_69 hN1) (by decide) rfl))) (f_M_thrown_ok (dep := dep + 29) hN1 (Q := fun x => x = im_i N1 69 0) ⟨_, rfl, rfl⟩) rfl ?_
  rintro _ rfl
  refine iq_iload hS2 321 J_law_d319 lk_1s rfl ?_
  refine iq_icmp_eq hS2 324 J_law_d321 (t := 326) rfl (fun _ => ?_) rfl (fun q => absurd hc.1 q)
  refine iq_goto hS2 J_law_d326 (t := 1425) rfl ?_
  refine iq_iincv hS2 1428 J_law_d1425 (c := 5) (by decide +kernel) (lk_1i h4 (by decide)) (by decide) rfl ?_
  refine iq_goto hS2 J_law_d1428 (t := 23) rfl ?_
  exact hn t ht w2 N1 hN1 hc.2 _ (lw_L5 (lk_1r h0 (by decide)) (lk_1r h1 (by decide)) (lk_1r h2 (by decide)) (lk_1r h3 (by decide)) (nI_add i 5))
theorem law_3 {L : Nat} {xs : Nat → Int32} {dep i : Nat} {w : Bool} {M : im_M} {P : Option Value → im_M → Nat → Prop} {K : Bool → im_M → Prop} (hL : L ≤ 2560) (hi : i + 5 ≤ L) (hM : lw_S w M) (hk : xs i &&& 31 = 3) (hc : lw_W L xs dep JW_cell JW_cell_h [.ref 0, .int (xs (i + 1)), .int (xs (i + 2)), .int (xs (i + 3)), .int (xs (i + 4))] M (fun w2 k M2 => ed (f_M_cell (xs (i + 1)) (xs (i + 2)) (xs (i + 3)) (xs (i + 4)) M2) (fun r => im_i r 69 0 = k ∧ K w2 r))) (hn : ∀ t, t ≤ 1 → ∀ w1 M1, lw_S w1 M1 → K w1 M1 → lw_H L xs dep (fun v2 M2 t2 => P v2 M2 (t + t2)) (i + 5) M1) : lw_H L xs dep P i M := by
  have hS : im_St (tb_G L xs) (dep + 30) J_law (ix (tb_G L xs) tb_X (dep + 30) J_law [] P) := ix_St (tb_GX L xs)
  intro Lc hl
  obtain ⟨h0, h1, h2, h3, h4⟩ := hl
  refine iq_iload hS 25 J_law_d23 h4 rfl ?_
  refine iq_aload_n hS 26 J_law_d25 h0 rfl ?_
  refine iq_xalen hS 27 J_law_d26 (by rw [hM.1]; decide) (Or.inl (by rw [xk_s])) rfl ?_
  rw [xk_s]
  refine iq_iconst hS 28 J_law_d27 (v := 5) (by decide +kernel) rfl ?_
  refine iq_isub hS 29 J_law_d28 rfl ?_
  refine iq_icmp_gt hS 32 J_law_d29 (t := 1431) rfl (fun q => absurd q (lw_go hL hi)) rfl (fun _ => ?_)
  refine iq_aload_n hS 33 J_law_d32 h0 rfl ?_
  refine iq_iload hS 35 J_law_d33 h4 rfl ?_
  refine iq_scr hS 36 J_law_d35 hM.1 (c := 0) rfl hL (by omega) rfl ?_
  refine iq_bipush hS 38 J_law_d36 (v := 31) (by decide +kernel) rfl ?_
  refine iq_iand hS 39 J_law_d38 rfl ?_
  refine iq_tsw hS J_law_d39 (t := 329) (sw_v hk (by decide +kernel)) ?_
  refine iq_aload_n hS 330 J_law_d329 h1 rfl ?_
  refine iq_aload_n hS 331 J_law_d330 h0 rfl ?_
  refine iq_iload hS 333 J_law_d331 h4 rfl ?_
  refine iq_iconst hS 334 J_law_d333 (v := 1) (by decide +kernel) rfl ?_
  refine iq_iadd hS 335 J_law_d334 rfl ?_
  refine iq_scr hS 336 J_law_d335 hM.1 (i := i) (c := 1) (nI_add i 1) hL (by omega) rfl ?_
  refine iq_aload_n hS 337 J_law_d336 h0 rfl ?_
  refine iq_iload hS 339 J_law_d337 h4 rfl ?_
  refine iq_iconst hS 340 J_law_d339 (v := 2) (by decide +kernel) rfl ?_
  refine iq_iadd hS 341 J_law_d340 rfl ?_
  refine iq_scr hS 342 J_law_d341 hM.1 (i := i) (c := 2) (nI_add i 2) hL (by omega) rfl ?_
  refine iq_aload_n hS 343 J_law_d342 h0 rfl ?_
  refine iq_iload hS 345 J_law_d343 h4 rfl ?_
  refine iq_iconst hS 346 J_law_d345 (v := 3) (by decide +kernel) rfl ?_
  refine iq_iadd hS 347 J_law_d346 rfl ?_
  refine iq_scr hS 348 J_law_d347 hM.1 (i := i) (c := 3) (nI_add i 3) hL (by omega) rfl ?_
  refine iq_aload_n hS 349 J_law_d348 h0 rfl ?_
  refine iq_iload hS 351 J_law_d349 h4 rfl ?_
  refine iq_iconst hS 352 J_law_d351 (v := 4) (by decide +kernel) rfl ?_
  refine iq_iadd hS 353 J_law_d352 rfl ?_
  refine iq_scr hS 354 J_law_d353 hM.1 (i := i) (c := 4) (nI_add i 4) hL (by omega) rfl ?_
  obtain ⟨kk, M2, t, w2, hM2, ht, hix, hc⟩ := hc
  refine ix_callX (tb_GX L xs) 357 J_law_d354 (pr_X (vs := [_, _, _, _, _]) lX_91 rfl (by decide) rfl (Nat.le_of_ble_eq_true rfl) (Nat.le_of_ble_eq_true rfl)) hix rfl ?_
  rintro _ N9 t9 ⟨rfl, eN, et⟩
  rw [eN, et]
  have hS2 : im_St (tb_G L xs) (dep + 30) J_law (ix (tb_G L xs) tb_X (dep + 30) J_law [] (fun v2 M2 t2 => P v2 M2 (t + t2))) := ix_St (tb_GX L xs)
  refine iq_istore hS2 359 J_law_d357 (by decide) rfl ?_
  refine iq_aload_n hS2 360 J_law_d359 (lk_1r h2 (by decide)) rfl ?_
  refine iq_aload_n hS2 361 J_law_d360 (lk_1r h0 (by decide)) rfl ?_
  refine iq_iload hS2 363 J_law_d361 (lk_1i h4 (by decide)) rfl ?_
  refine iq_iconst hS2 364 J_law_d363 (v := 1) (by decide +kernel) rfl ?_
  refine iq_iadd hS2 365 J_law_d364 rfl ?_
  refine iq_scr hS2 366 J_law_d365 hM2.1 (i := i) (c := 1) (nI_add i 1) hL (by omega) rfl ?_
  refine iq_aload_n hS2 367 J_law_d366 (lk_1r h0 (by decide)) rfl ?_
  refine iq_iload hS2 369 J_law_d367 (lk_1i h4 (by decide)) rfl ?_
  refine iq_iconst hS2 370 J_law_d369 (v := 2) (by decide +kernel) rfl ?_
  refine iq_iadd hS2 371 J_law_d370 rfl ?_
  refine iq_scr hS2 372 J_law_d371 hM2.1 (i := i) (c := 2) (nI_add i 2) hL (by omega) rfl ?_
  refine iq_aload_n hS2 373 J_law_d372 (lk_1r h0 (by decide)) rfl ?_
  refine iq_iload hS2 375 J_law_d373 (lk_1i h4 (by decide)) rfl ?_
  refine iq_iconst hS2 376 J_law_d375 (v := 3) (by decide +kernel) rfl ?_
  refine iq_iadd hS2 377 J_law_d376 rfl ?_
  refine iq_scr hS2 378 J_law_d377 hM2.1 (i := i) (c := 3) (nI_add i 3) hL (by omega) rfl ?_
  refine iq_aload_n hS2 379 J_law_d378 (lk_1r h0 (by decide)) rfl ?_
  refine iq_iload hS2 381 J_law_d379 (lk_1i h4 (by decide)) rfl ?_
  refine iq_iconst hS2 382 J_law_d381 (v := 4) (by decide +kernel) rfl ?_
  refine iq_iadd hS2 383 J_law_d382 rfl ?_
  refine iq_scr hS2 384 J_law_d383 hM2.1 (i := i) (c := 4) (nI_add i 4) hL (by omega) rfl ?_
  refine iq_cwV hS2 387 J_law_d384 rfl (pr_inst (vs := [_, _, _, _]) lc_18_93 lT_275 rfl rfl (by decide) (by decide) rfl (Nat.le_of_ble_eq_true rfl) (Nat.le_of_ble_eq_true rfl) (fun _ => Or.inl (pr_b (ka_69 hM2) (by decide) rfl))) (f_M_cell_ok (dep := dep + 27) hM2 hc) rfl ?_
  intro N1 hN1 hc
  refine iq_aload_n hS2 388 J_law_d387 (lk_1r h2 (by decide)) rfl ?_
  refine iq_cpI hS2 391 J_law_d388 rfl (pr_inst (vs := []) lc_18_79 lT_268 rfl rfl (by decide) (by decide) rfl (Nat.le_of_ble_eq_true rfl) (Nat.le_of_ble_eq_true rfl) (fun _ => Or.inl (pr_b (ka_69 hN1) (by decide) rfl))) (f_M_thrown_ok (dep := dep + 29) hN1 (Q := fun x => x = im_i N1 69 0) ⟨_, rfl, rfl⟩) rfl ?_
  rintro _ rfl
  refine iq_iload hS2 393 J_law_d391 lk_1s rfl ?_
  refine iq_icmp_eq hS2 396 J_law_d393 (t := 398) rfl (fun _ => ?_) rfl (fun q => absurd hc.1 q)
  refine iq_goto hS2 J_law_d398 (t := 1425) rfl ?_
  refine iq_iincv hS2 1428 J_law_d1425 (c := 5) (by decide +kernel) (lk_1i h4 (by decide)) (by decide) rfl ?_
  refine iq_goto hS2 J_law_d1428 (t := 23) rfl ?_
  exact hn t ht w2 N1 hN1 hc.2 _ (lw_L5 (lk_1r h0 (by decide)) (lk_1r h1 (by decide)) (lk_1r h2 (by decide)) (lk_1r h3 (by decide)) (nI_add i 5))
theorem law_4 {L : Nat} {xs : Nat → Int32} {dep i : Nat} {w : Bool} {M : im_M} {P : Option Value → im_M → Nat → Prop} {K : Bool → im_M → Prop} (hL : L ≤ 2560) (hi : i + 5 ≤ L) (hM : lw_S w M) (hk : xs i &&& 31 = 4) (hc : ed (f_H_read M) (fun r => ed (f_M_read r.2) (fun s => r.1 = s.1 ∧ K w s.2))) (hn : ∀ w1 M1, lw_S w1 M1 → K w1 M1 → lw_H L xs dep P (i + 5) M1) : lw_H L xs dep P i M := by
  have hS : im_St (tb_G L xs) (dep + 30) J_law (ix (tb_G L xs) tb_X (dep + 30) J_law [] P) := ix_St (tb_GX L xs)
  intro Lc hl
  obtain ⟨h0, h1, h2, h3, h4⟩ := hl
  refine iq_iload hS 25 J_law_d23 h4 rfl ?_
  refine iq_aload_n hS 26 J_law_d25 h0 rfl ?_
  refine iq_xalen hS 27 J_law_d26 (by rw [hM.1]; decide) (Or.inl (by rw [xk_s])) rfl ?_
  rw [xk_s]
  refine iq_iconst hS 28 J_law_d27 (v := 5) (by decide +kernel) rfl ?_
  refine iq_isub hS 29 J_law_d28 rfl ?_
  refine iq_icmp_gt hS 32 J_law_d29 (t := 1431) rfl (fun q => absurd q (lw_go hL hi)) rfl (fun _ => ?_)
  refine iq_aload_n hS 33 J_law_d32 h0 rfl ?_
  refine iq_iload hS 35 J_law_d33 h4 rfl ?_
  refine iq_scr hS 36 J_law_d35 hM.1 (c := 0) rfl hL (by omega) rfl ?_
  refine iq_bipush hS 38 J_law_d36 (v := 31) (by decide +kernel) rfl ?_
  refine iq_iand hS 39 J_law_d38 rfl ?_
  refine iq_tsw hS J_law_d39 (t := 401) (sw_v hk (by decide +kernel)) ?_
  refine iq_aload_n hS 402 J_law_d401 h1 rfl ?_
  refine iq_cwI hS 405 J_law_d402 rfl (pr_inst (vs := []) lc_18_94 lT_13 rfl rfl (by decide) (by decide) rfl (Nat.le_of_ble_eq_true rfl) (Nat.le_of_ble_eq_true rfl) (fun _ => Or.inl (pr_b (ka_0 hM) (by decide) rfl))) (f_H_read_ok (dep := dep + 21) hM hc) rfl ?_
  intro x1 N1 hN1 hc
  refine iq_aload_n hS 406 J_law_d405 h2 rfl ?_
  refine iq_cwI hS 409 J_law_d406 rfl (pr_inst (vs := []) lc_18_97 lT_277 rfl rfl (by decide) (by decide) rfl (Nat.le_of_ble_eq_true rfl) (Nat.le_of_ble_eq_true rfl) (fun _ => Or.inl (pr_b (ka_69 hN1) (by decide) rfl))) (f_M_read_ok (dep := dep + 18) hN1 hc) rfl ?_
  intro x2 N2 hN2 hc
  refine iq_icmp_eq hS 412 J_law_d409 (t := 1425) rfl (fun _ => ?_) rfl (fun q => absurd hc.1 q)
  refine iq_iincv hS 1428 J_law_d1425 (c := 5) (by decide +kernel) h4 (by decide) rfl ?_
  refine iq_goto hS J_law_d1428 (t := 23) rfl ?_
  exact hn w N2 hN2 hc.2 _ (lw_L5 h0 h1 h2 h3 (nI_add i 5))
theorem law_5 {L : Nat} {xs : Nat → Int32} {dep i : Nat} {w : Bool} {M : im_M} {P : Option Value → im_M → Nat → Prop} {K : Bool → im_M → Prop} (hL : L ≤ 2560) (hi : i + 5 ≤ L) (hM : lw_S w M) (hk : xs i &&& 31 = 5) (hc : ed (f_H_fault M) (fun v => ed (f_M_fault M) (fun s => v = s.1 ∧ K w s.2))) (hn : ∀ w1 M1, lw_S w1 M1 → K w1 M1 → lw_H L xs dep P (i + 5) M1) : lw_H L xs dep P i M := by
  have hS : im_St (tb_G L xs) (dep + 30) J_law (ix (tb_G L xs) tb_X (dep + 30) J_law [] P) := ix_St (tb_GX L xs)
  intro Lc hl
  obtain ⟨h0, h1, h2, h3, h4⟩ := hl
  refine iq_iload hS 25 J_law_d23 h4 rfl ?_
  refine iq_aload_n hS 26 J_law_d25 h0 rfl ?_
  refine iq_xalen hS 27 J_law_d26 (by rw [hM.1]; decide) (Or.inl (by rw [xk_s])) rfl ?_
  rw [xk_s]
  refine iq_iconst hS 28 J_law_d27 (v := 5) (by decide +kernel) rfl ?_
  refine iq_isub hS 29 J_law_d28 rfl ?_
  refine iq_icmp_gt hS 32 J_law_d29 (t := 1431) rfl (fun q => absurd q (lw_go hL hi)) rfl (fun _ => ?_)
  refine iq_aload_n hS 33 J_law_d32 h0 rfl ?_
  refine iq_iload hS 35 J_law_d33 h4 rfl ?_
  refine iq_scr hS 36 J_law_d35 hM.1 (c := 0) rfl hL (by omega) rfl ?_
  refine iq_bipush hS 38 J_law_d36 (v := 31) (by decide +kernel) rfl ?_
  refine iq_iand hS 39 J_law_d38 rfl ?_
  refine iq_tsw hS J_law_d39 (t := 414) (sw_v hk (by decide +kernel)) ?_
  refine iq_aload_n hS 415 J_law_d414 h1 rfl ?_
  refine iq_cpI hS 418 J_law_d415 rfl (pr_inst (vs := []) lc_18_98 lT_85 rfl rfl (by decide) (by decide) rfl (Nat.le_of_ble_eq_true rfl) (Nat.le_of_ble_eq_true rfl) (fun _ => Or.inl (pr_b (ka_0 hM) (by decide) rfl))) (f_H_fault_ok (dep := dep + 29) hM hc) rfl ?_
  intro x1 hc
  refine iq_aload_n hS 419 J_law_d418 h2 rfl ?_
  refine iq_cwI hS 422 J_law_d419 rfl (pr_inst (vs := []) lc_18_101 lT_319 rfl rfl (by decide) (by decide) rfl (Nat.le_of_ble_eq_true rfl) (Nat.le_of_ble_eq_true rfl) (fun _ => Or.inl (pr_b (ka_69 hM) (by decide) rfl))) (f_M_fault_ok (dep := dep + 28) hM hc) rfl ?_
  intro x2 N2 hN2 hc
  refine iq_icmp_eq hS 425 J_law_d422 (t := 1425) rfl (fun _ => ?_) rfl (fun q => absurd hc.1 q)
  refine iq_iincv hS 1428 J_law_d1425 (c := 5) (by decide +kernel) h4 (by decide) rfl ?_
  refine iq_goto hS J_law_d1428 (t := 23) rfl ?_
  exact hn w N2 hN2 hc.2 _ (lw_L5 h0 h1 h2 h3 (nI_add i 5))
theorem law_6 {L : Nat} {xs : Nat → Int32} {dep i : Nat} {w : Bool} {M : im_M} {P : Option Value → im_M → Nat → Prop} {K : Bool → im_M → Prop} (hL : L ≤ 2560) (hi : i + 5 ≤ L) (hM : lw_S w M) (hk : xs i &&& 31 = 6) (hc : ed (f_H_place M) (fun v => ed (f_M_place M) (fun s => v = s.1 ∧ K w s.2))) (hn : ∀ w1 M1, lw_S w1 M1 → K w1 M1 → lw_H L xs dep P (i + 5) M1) : lw_H L xs dep P i M := by
  have hS : im_St (tb_G L xs) (dep + 30) J_law (ix (tb_G L xs) tb_X (dep + 30) J_law [] P) := ix_St (tb_GX L xs)
  intro Lc hl
  obtain ⟨h0, h1, h2, h3, h4⟩ := hl
  refine iq_iload hS 25 J_law_d23 h4 rfl ?_
  refine iq_aload_n hS 26 J_law_d25 h0 rfl ?_
  refine iq_xalen hS 27 J_law_d26 (by rw [hM.1]; decide) (Or.inl (by rw [xk_s])) rfl ?_
  rw [xk_s]
  refine iq_iconst hS 28 J_law_d27 (v := 5) (by decide +kernel) rfl ?_
  refine iq_isub hS 29 J_law_d28 rfl ?_
  refine iq_icmp_gt hS 32 J_law_d29 (t := 1431) rfl (fun q => absurd q (lw_go hL hi)) rfl (fun _ => ?_)
  refine iq_aload_n hS 33 J_law_d32 h0 rfl ?_
  refine iq_iload hS 35 J_law_d33 h4 rfl ?_
  refine iq_scr hS 36 J_law_d35 hM.1 (c := 0) rfl hL (by omega) rfl ?_
  refine iq_bipush hS 38 J_law_d36 (v := 31) (by decide +kernel) rfl ?_
  refine iq_iand hS 39 J_law_d38 rfl ?_
  refine iq_tsw hS J_law_d39 (t := 427) (sw_v hk (by decide +kernel)) ?_
  refine iq_aload_n hS 428 J_law_d427 h1 rfl ?_
  refine iq_cpI hS 431 J_law_d428 rfl (pr_inst (vs := []) lc_18_102 lT_86 rfl rfl (by decide) (by decide) rfl (Nat.le_of_ble_eq_true rfl) (Nat.le_of_ble_eq_true rfl) (fun _ => Or.inl (pr_b (ka_0 hM) (by decide) rfl))) (f_H_place_ok (dep := dep + 29) hM hc) rfl ?_
  intro x1 hc
  refine iq_aload_n hS 432 J_law_d431 h2 rfl ?_
  refine iq_cwI hS 435 J_law_d432 rfl (pr_inst (vs := []) lc_18_105 lT_321 rfl rfl (by decide) (by decide) rfl (Nat.le_of_ble_eq_true rfl) (Nat.le_of_ble_eq_true rfl) (fun _ => Or.inl (pr_b (ka_69 hM) (by decide) rfl))) (f_M_place_ok (dep := dep + 28) hM hc) rfl ?_
  intro x2 N2 hN2 hc
  refine iq_icmp_eq hS 438 J_law_d435 (t := 1425) rfl (fun _ => ?_) rfl (fun q => absurd hc.1 q)
  refine iq_iincv hS 1428 J_law_d1425 (c := 5) (by decide +kernel) h4 (by decide) rfl ?_
  refine iq_goto hS J_law_d1428 (t := 23) rfl ?_
  exact hn w N2 hN2 hc.2 _ (lw_L5 h0 h1 h2 h3 (nI_add i 5))
theorem law_7 {L : Nat} {xs : Nat → Int32} {dep i : Nat} {w : Bool} {M : im_M} {P : Option Value → im_M → Nat → Prop} {K : Bool → im_M → Prop} (hL : L ≤ 2560) (hi : i + 5 ≤ L) (hM : lw_S w M) (hk : xs i &&& 31 = 7) (hc : lw_W L xs dep JW_label JW_label_h [.ref 0, .int (xs (i + 1)), .int (xs (i + 2)), .ref 138] M (fun w2 k M2 => ed (f_M_label (xs (i + 1)) (xs (i + 2)) M2) (fun r => im_i r.2 69 0 = k ∧ (k = 0 → im_l r.2 138 0 = Int32.toInt64 r.1) ∧ K w2 r.2))) (hn : ∀ t, t ≤ 1 → ∀ w1 M1, lw_S w1 M1 → K w1 M1 → lw_H L xs dep (fun v2 M2 t2 => P v2 M2 (t + t2)) (i + 5) M1) : lw_H L xs dep P i M := by
  have hS : im_St (tb_G L xs) (dep + 30) J_law (ix (tb_G L xs) tb_X (dep + 30) J_law [] P) := ix_St (tb_GX L xs)
  intro Lc hl
  obtain ⟨h0, h1, h2, h3, h4⟩ := hl
  refine iq_iload hS 25 J_law_d23 h4 rfl ?_
  refine iq_aload_n hS 26 J_law_d25 h0 rfl ?_
  refine iq_xalen hS 27 J_law_d26 (by rw [hM.1]; decide) (Or.inl (by rw [xk_s])) rfl ?_
  rw [xk_s]
  refine iq_iconst hS 28 J_law_d27 (v := 5) (by decide +kernel) rfl ?_
  refine iq_isub hS 29 J_law_d28 rfl ?_
  refine iq_icmp_gt hS 32 J_law_d29 (t := 1431) rfl (fun q => absurd q (lw_go hL hi)) rfl (fun _ => ?_)
  refine iq_aload_n hS 33 J_law_d32 h0 rfl ?_
  refine iq_iload hS 35 J_law_d33 h4 rfl ?_
  refine iq_scr hS 36 J_law_d35 hM.1 (c := 0) rfl hL (by omega) rfl ?_
  refine iq_bipush hS 38 J_law_d36 (v := 31) (by decide +kernel) rfl ?_
  refine iq_iand hS 39 J_law_d38 rfl ?_
  refine iq_tsw hS J_law_d39 (t := 440) (sw_v hk (by decide +kernel)) ?_
  refine iq_aload_n hS 441 J_law_d440 h1 rfl ?_
  refine iq_aload_n hS 442 J_law_d441 h0 rfl ?_
  refine iq_iload hS 444 J_law_d442 h4 rfl ?_
  refine iq_iconst hS 445 J_law_d444 (v := 1) (by decide +kernel) rfl ?_
  refine iq_iadd hS 446 J_law_d445 rfl ?_
  refine iq_scr hS 447 J_law_d446 hM.1 (i := i) (c := 1) (nI_add i 1) hL (by omega) rfl ?_
  refine iq_aload_n hS 448 J_law_d447 h0 rfl ?_
  refine iq_iload hS 450 J_law_d448 h4 rfl ?_
  refine iq_iconst hS 451 J_law_d450 (v := 2) (by decide +kernel) rfl ?_
  refine iq_iadd hS 452 J_law_d451 rfl ?_
  refine iq_scr hS 453 J_law_d452 hM.1 (i := i) (c := 2) (nI_add i 2) hL (by omega) rfl ?_
  refine iq_aload_n hS 454 J_law_d453 h3 rfl ?_
  obtain ⟨kk, M2, t, w2, hM2, ht, hix, hc⟩ := hc
  refine ix_callX (tb_GX L xs) 457 J_law_d454 (pr_X (vs := [_, _, _, _]) lX_106 rfl (by decide) rfl (Nat.le_of_ble_eq_true rfl) (Nat.le_of_ble_eq_true rfl)) hix rfl ?_
  rintro _ N9 t9 ⟨rfl, eN, et⟩
  rw [eN, et]
  have hS2 : im_St (tb_G L xs) (dep + 30) J_law (ix (tb_G L xs) tb_X (dep + 30) J_law [] (fun v2 M2 t2 => P v2 M2 (t + t2))) := ix_St (tb_GX L xs)
  refine iq_istore hS2 459 J_law_d457 (by decide) rfl ?_
  refine iq_aload_n hS2 460 J_law_d459 (lk_1r h2 (by decide)) rfl ?_
  refine iq_aload_n hS2 461 J_law_d460 (lk_1r h0 (by decide)) rfl ?_
  refine iq_iload hS2 463 J_law_d461 (lk_1i h4 (by decide)) rfl ?_
  refine iq_iconst hS2 464 J_law_d463 (v := 1) (by decide +kernel) rfl ?_
  refine iq_iadd hS2 465 J_law_d464 rfl ?_
  refine iq_scr hS2 466 J_law_d465 hM2.1 (i := i) (c := 1) (nI_add i 1) hL (by omega) rfl ?_
  refine iq_aload_n hS2 467 J_law_d466 (lk_1r h0 (by decide)) rfl ?_
  refine iq_iload hS2 469 J_law_d467 (lk_1i h4 (by decide)) rfl ?_
  refine iq_iconst hS2 470 J_law_d469 (v := 2) (by decide +kernel) rfl ?_
  refine iq_iadd hS2 471 J_law_d470 rfl ?_
  refine iq_scr hS2 472 J_law_d471 hM2.1 (i := i) (c := 2) (nI_add i 2) hL (by omega) rfl ?_
  refine iq_cwI hS2 475 J_law_d472 rfl (pr_inst (vs := [_, _]) lc_18_109 lT_323 rfl rfl (by decide) (by decide) rfl (Nat.le_of_ble_eq_true rfl) (Nat.le_of_ble_eq_true rfl) (fun _ => Or.inl (pr_b (ka_69 hM2) (by decide) rfl))) (f_M_label_ok (dep := dep + 28) hM2 hc) rfl ?_
  intro x1 N1 hN1 hc
  refine iq_istore hS2 477 J_law_d475 (by decide) rfl ?_
  refine iq_aload_n hS2 478 J_law_d477 (lk_1r (lk_1r h2 (by decide)) (by decide)) rfl ?_
  refine iq_cpI hS2 481 J_law_d478 rfl (pr_inst (vs := []) lc_18_79 lT_268 rfl rfl (by decide) (by decide) rfl (Nat.le_of_ble_eq_true rfl) (Nat.le_of_ble_eq_true rfl) (fun _ => Or.inl (pr_b (ka_69 hN1) (by decide) rfl))) (f_M_thrown_ok (dep := dep + 29) hN1 (Q := fun x => x = im_i N1 69 0) ⟨_, rfl, rfl⟩) rfl ?_
  rintro _ rfl
  refine iq_iload hS2 483 J_law_d481 (lk_1i lk_1s (by decide)) rfl ?_
  refine iq_icmp_eq hS2 486 J_law_d483 (t := 488) rfl (fun _ => ?_) rfl (fun q => absurd hc.1 q)
  refine iq_iload hS2 490 J_law_d488 (lk_1i lk_1s (by decide)) rfl ?_
  refine iq_if_ne hS2 493 J_law_d490 (t := 505) rfl (fun qk => ?_) rfl (fun qk => ?_)
  · refine iq_goto hS2 J_law_d505 (t := 1425) rfl ?_
    refine iq_iincv hS2 1428 J_law_d1425 (c := 5) (by decide +kernel) (lk_1i (lk_1i h4 (by decide)) (by decide)) (by decide) rfl ?_
    refine iq_goto hS2 J_law_d1428 (t := 23) rfl ?_
    exact hn t ht w2 N1 hN1 hc.2.2 _ (lw_L5 (lk_1r (lk_1r h0 (by decide)) (by decide)) (lk_1r (lk_1r h1 (by decide)) (by decide)) (lk_1r (lk_1r h2 (by decide)) (by decide)) (lk_1r (lk_1r h3 (by decide)) (by decide)) (nI_add i 5))
  · refine iq_aload_n hS2 494 J_law_d493 (lk_1r (lk_1r h3 (by decide)) (by decide)) rfl ?_
    refine iq_iconst hS2 495 J_law_d494 (v := 0) (by decide +kernel) rfl ?_
    refine iq_laload hS2 496 J_law_d495 ⟨(ka_138 hN1).1, (ka_138 hN1).2, by decide, ix_lt (kl_138 hN1) (by decide)⟩ rfl ?_
    refine iq_iload hS2 498 J_law_d496 lk_1s rfl ?_
    refine iq_i2l hS2 499 J_law_d498 rfl ?_
    refine iq_lcmp hS2 500 J_law_d499 rfl ?_
    refine iq_if_eq hS2 503 J_law_d500 (t := 505) rfl (fun _ => ?_) rfl (fun q => absurd (lcq_ (hc.2.1 (Decidable.not_not.mp qk))) q)
    refine iq_goto hS2 J_law_d505 (t := 1425) rfl ?_
    refine iq_iincv hS2 1428 J_law_d1425 (c := 5) (by decide +kernel) (lk_1i (lk_1i h4 (by decide)) (by decide)) (by decide) rfl ?_
    refine iq_goto hS2 J_law_d1428 (t := 23) rfl ?_
    exact hn t ht w2 N1 hN1 hc.2.2 _ (lw_L5 (lk_1r (lk_1r h0 (by decide)) (by decide)) (lk_1r (lk_1r h1 (by decide)) (by decide)) (lk_1r (lk_1r h2 (by decide)) (by decide)) (lk_1r (lk_1r h3 (by decide)) (by decide)) (nI_add i 5))
theorem law_8 {L : Nat} {xs : Nat → Int32} {dep i : Nat} {w : Bool} {M : im_M} {P : Option Value → im_M → Nat → Prop} {K : Bool → im_M → Prop} (hL : L ≤ 2560) (hi : i + 5 ≤ L) (hM : lw_S w M) (hk : xs i &&& 31 = 8) (hc : lw_W L xs dep JW_order JW_order_h [.ref 0, .int (xs (i + 1)), .int (xs (i + 2)), .ref 138] M (fun w2 k M2 => ed (f_M_order (xs (i + 1)) (xs (i + 2)) M2) (fun r => im_i r.2 69 0 = k ∧ (k = 0 → im_l r.2 138 0 = Int32.toInt64 r.1) ∧ K w2 r.2))) (hn : ∀ t, t ≤ 1 → ∀ w1 M1, lw_S w1 M1 → K w1 M1 → lw_H L xs dep (fun v2 M2 t2 => P v2 M2 (t + t2)) (i + 5) M1) : lw_H L xs dep P i M := by
  have hS : im_St (tb_G L xs) (dep + 30) J_law (ix (tb_G L xs) tb_X (dep + 30) J_law [] P) := ix_St (tb_GX L xs)
  intro Lc hl
  obtain ⟨h0, h1, h2, h3, h4⟩ := hl
  refine iq_iload hS 25 J_law_d23 h4 rfl ?_
  refine iq_aload_n hS 26 J_law_d25 h0 rfl ?_
  refine iq_xalen hS 27 J_law_d26 (by rw [hM.1]; decide) (Or.inl (by rw [xk_s])) rfl ?_
  rw [xk_s]
  refine iq_iconst hS 28 J_law_d27 (v := 5) (by decide +kernel) rfl ?_
  refine iq_isub hS 29 J_law_d28 rfl ?_
  refine iq_icmp_gt hS 32 J_law_d29 (t := 1431) rfl (fun q => absurd q (lw_go hL hi)) rfl (fun _ => ?_)
  refine iq_aload_n hS 33 J_law_d32 h0 rfl ?_
  refine iq_iload hS 35 J_law_d33 h4 rfl ?_
  refine iq_scr hS 36 J_law_d35 hM.1 (c := 0) rfl hL (by omega) rfl ?_
  refine iq_bipush hS 38 J_law_d36 (v := 31) (by decide +kernel) rfl ?_
  refine iq_iand hS 39 J_law_d38 rfl ?_
  refine iq_tsw hS J_law_d39 (t := 508) (sw_v hk (by decide +kernel)) ?_
  refine iq_aload_n hS 509 J_law_d508 h1 rfl ?_
  refine iq_aload_n hS 510 J_law_d509 h0 rfl ?_
  refine iq_iload hS 512 J_law_d510 h4 rfl ?_
  refine iq_iconst hS 513 J_law_d512 (v := 1) (by decide +kernel) rfl ?_
  refine iq_iadd hS 514 J_law_d513 rfl ?_
  refine iq_scr hS 515 J_law_d514 hM.1 (i := i) (c := 1) (nI_add i 1) hL (by omega) rfl ?_
  refine iq_aload_n hS 516 J_law_d515 h0 rfl ?_
  refine iq_iload hS 518 J_law_d516 h4 rfl ?_
  refine iq_iconst hS 519 J_law_d518 (v := 2) (by decide +kernel) rfl ?_
  refine iq_iadd hS 520 J_law_d519 rfl ?_
  refine iq_scr hS 521 J_law_d520 hM.1 (i := i) (c := 2) (nI_add i 2) hL (by omega) rfl ?_
  refine iq_aload_n hS 522 J_law_d521 h3 rfl ?_
  obtain ⟨kk, M2, t, w2, hM2, ht, hix, hc⟩ := hc
  refine ix_callX (tb_GX L xs) 525 J_law_d522 (pr_X (vs := [_, _, _, _]) lX_110 rfl (by decide) rfl (Nat.le_of_ble_eq_true rfl) (Nat.le_of_ble_eq_true rfl)) hix rfl ?_
  rintro _ N9 t9 ⟨rfl, eN, et⟩
  rw [eN, et]
  have hS2 : im_St (tb_G L xs) (dep + 30) J_law (ix (tb_G L xs) tb_X (dep + 30) J_law [] (fun v2 M2 t2 => P v2 M2 (t + t2))) := ix_St (tb_GX L xs)
  refine iq_istore hS2 527 J_law_d525 (by decide) rfl ?_
  refine iq_aload_n hS2 528 J_law_d527 (lk_1r h2 (by decide)) rfl ?_
  refine iq_aload_n hS2 529 J_law_d528 (lk_1r h0 (by decide)) rfl ?_
  refine iq_iload hS2 531 J_law_d529 (lk_1i h4 (by decide)) rfl ?_
  refine iq_iconst hS2 532 J_law_d531 (v := 1) (by decide +kernel) rfl ?_
  refine iq_iadd hS2 533 J_law_d532 rfl ?_
  refine iq_scr hS2 534 J_law_d533 hM2.1 (i := i) (c := 1) (nI_add i 1) hL (by omega) rfl ?_
  refine iq_aload_n hS2 535 J_law_d534 (lk_1r h0 (by decide)) rfl ?_
  refine iq_iload hS2 537 J_law_d535 (lk_1i h4 (by decide)) rfl ?_
  refine iq_iconst hS2 538 J_law_d537 (v := 2) (by decide +kernel) rfl ?_
  refine iq_iadd hS2 539 J_law_d538 rfl ?_
  refine iq_scr hS2 540 J_law_d539 hM2.1 (i := i) (c := 2) (nI_add i 2) hL (by omega) rfl ?_
  refine iq_cwI hS2 543 J_law_d540 rfl (pr_inst (vs := [_, _]) lc_18_112 lT_326 rfl rfl (by decide) (by decide) rfl (Nat.le_of_ble_eq_true rfl) (Nat.le_of_ble_eq_true rfl) (fun _ => Or.inl (pr_b (ka_69 hM2) (by decide) rfl))) (f_M_order_ok (dep := dep + 28) hM2 hc) rfl ?_
  intro x1 N1 hN1 hc
  refine iq_istore hS2 545 J_law_d543 (by decide) rfl ?_
  refine iq_aload_n hS2 546 J_law_d545 (lk_1r (lk_1r h2 (by decide)) (by decide)) rfl ?_
  refine iq_cpI hS2 549 J_law_d546 rfl (pr_inst (vs := []) lc_18_79 lT_268 rfl rfl (by decide) (by decide) rfl (Nat.le_of_ble_eq_true rfl) (Nat.le_of_ble_eq_true rfl) (fun _ => Or.inl (pr_b (ka_69 hN1) (by decide) rfl))) (f_M_thrown_ok (dep := dep + 29) hN1 (Q := fun x => x = im_i N1 69 0) ⟨_, rfl, rfl⟩) rfl ?_
  rintro _ rfl
  refine iq_iload hS2 551 J_law_d549 (lk_1i lk_1s (by decide)) rfl ?_
  refine iq_icmp_eq hS2 554 J_law_d551 (t := 556) rfl (fun _ => ?_) rfl (fun q => absurd hc.1 q)
  refine iq_iload hS2 558 J_law_d556 (lk_1i lk_1s (by decide)) rfl ?_
  refine iq_if_ne hS2 561 J_law_d558 (t := 573) rfl (fun qk => ?_) rfl (fun qk => ?_)
  · refine iq_goto hS2 J_law_d573 (t := 1425) rfl ?_
    refine iq_iincv hS2 1428 J_law_d1425 (c := 5) (by decide +kernel) (lk_1i (lk_1i h4 (by decide)) (by decide)) (by decide) rfl ?_
    refine iq_goto hS2 J_law_d1428 (t := 23) rfl ?_
    exact hn t ht w2 N1 hN1 hc.2.2 _ (lw_L5 (lk_1r (lk_1r h0 (by decide)) (by decide)) (lk_1r (lk_1r h1 (by decide)) (by decide)) (lk_1r (lk_1r h2 (by decide)) (by decide)) (lk_1r (lk_1r h3 (by decide)) (by decide)) (nI_add i 5))
  · refine iq_aload_n hS2 562 J_law_d561 (lk_1r (lk_1r h3 (by decide)) (by decide)) rfl ?_
    refine iq_iconst hS2 563 J_law_d562 (v := 0) (by decide +kernel) rfl ?_
    refine iq_laload hS2 564 J_law_d563 ⟨(ka_138 hN1).1, (ka_138 hN1).2, by decide, ix_lt (kl_138 hN1) (by decide)⟩ rfl ?_
    refine iq_iload hS2 566 J_law_d564 lk_1s rfl ?_
    refine iq_i2l hS2 567 J_law_d566 rfl ?_
    refine iq_lcmp hS2 568 J_law_d567 rfl ?_
    refine iq_if_eq hS2 571 J_law_d568 (t := 573) rfl (fun _ => ?_) rfl (fun q => absurd (lcq_ (hc.2.1 (Decidable.not_not.mp qk))) q)
    refine iq_goto hS2 J_law_d573 (t := 1425) rfl ?_
    refine iq_iincv hS2 1428 J_law_d1425 (c := 5) (by decide +kernel) (lk_1i (lk_1i h4 (by decide)) (by decide)) (by decide) rfl ?_
    refine iq_goto hS2 J_law_d1428 (t := 23) rfl ?_
    exact hn t ht w2 N1 hN1 hc.2.2 _ (lw_L5 (lk_1r (lk_1r h0 (by decide)) (by decide)) (lk_1r (lk_1r h1 (by decide)) (by decide)) (lk_1r (lk_1r h2 (by decide)) (by decide)) (lk_1r (lk_1r h3 (by decide)) (by decide)) (nI_add i 5))
theorem law_9 {L : Nat} {xs : Nat → Int32} {dep i : Nat} {w : Bool} {M : im_M} {P : Option Value → im_M → Nat → Prop} {K : Bool → im_M → Prop} (hL : L ≤ 2560) (hi : i + 5 ≤ L) (hM : lw_S w M) (hk : xs i &&& 31 = 9) (hc : lw_W L xs dep JW_data JW_data_h [.ref 0, .int (xs (i + 1)), .int (xs (i + 2)), .ref 138] M (fun w2 k M2 => ed (f_M_data (xs (i + 1)) (xs (i + 2)) M2) (fun r => im_i r.2 69 0 = k ∧ (k = 0 → im_l r.2 138 0 = r.1) ∧ K w2 r.2))) (hn : ∀ t, t ≤ 1 → ∀ w1 M1, lw_S w1 M1 → K w1 M1 → lw_H L xs dep (fun v2 M2 t2 => P v2 M2 (t + t2)) (i + 5) M1) : lw_H L xs dep P i M := by
  have hS : im_St (tb_G L xs) (dep + 30) J_law (ix (tb_G L xs) tb_X (dep + 30) J_law [] P) := ix_St (tb_GX L xs)
  intro Lc hl
  obtain ⟨h0, h1, h2, h3, h4⟩ := hl
  refine iq_iload hS 25 J_law_d23 h4 rfl ?_
  refine iq_aload_n hS 26 J_law_d25 h0 rfl ?_
  refine iq_xalen hS 27 J_law_d26 (by rw [hM.1]; decide) (Or.inl (by rw [xk_s])) rfl ?_
  rw [xk_s]
  refine iq_iconst hS 28 J_law_d27 (v := 5) (by decide +kernel) rfl ?_
  refine iq_isub hS 29 J_law_d28 rfl ?_
  refine iq_icmp_gt hS 32 J_law_d29 (t := 1431) rfl (fun q => absurd q (lw_go hL hi)) rfl (fun _ => ?_)
  refine iq_aload_n hS 33 J_law_d32 h0 rfl ?_
  refine iq_iload hS 35 J_law_d33 h4 rfl ?_
  refine iq_scr hS 36 J_law_d35 hM.1 (c := 0) rfl hL (by omega) rfl ?_
  refine iq_bipush hS 38 J_law_d36 (v := 31) (by decide +kernel) rfl ?_
  refine iq_iand hS 39 J_law_d38 rfl ?_
  refine iq_tsw hS J_law_d39 (t := 576) (sw_v hk (by decide +kernel)) ?_
  refine iq_aload_n hS 577 J_law_d576 h1 rfl ?_
  refine iq_aload_n hS 578 J_law_d577 h0 rfl ?_
  refine iq_iload hS 580 J_law_d578 h4 rfl ?_
  refine iq_iconst hS 581 J_law_d580 (v := 1) (by decide +kernel) rfl ?_
  refine iq_iadd hS 582 J_law_d581 rfl ?_
  refine iq_scr hS 583 J_law_d582 hM.1 (i := i) (c := 1) (nI_add i 1) hL (by omega) rfl ?_
  refine iq_aload_n hS 584 J_law_d583 h0 rfl ?_
  refine iq_iload hS 586 J_law_d584 h4 rfl ?_
  refine iq_iconst hS 587 J_law_d586 (v := 2) (by decide +kernel) rfl ?_
  refine iq_iadd hS 588 J_law_d587 rfl ?_
  refine iq_scr hS 589 J_law_d588 hM.1 (i := i) (c := 2) (nI_add i 2) hL (by omega) rfl ?_
  refine iq_aload_n hS 590 J_law_d589 h3 rfl ?_
  obtain ⟨kk, M2, t, w2, hM2, ht, hix, hc⟩ := hc
  refine ix_callX (tb_GX L xs) 593 J_law_d590 (pr_X (vs := [_, _, _, _]) lX_113 rfl (by decide) rfl (Nat.le_of_ble_eq_true rfl) (Nat.le_of_ble_eq_true rfl)) hix rfl ?_
  rintro _ N9 t9 ⟨rfl, eN, et⟩
  rw [eN, et]
  have hS2 : im_St (tb_G L xs) (dep + 30) J_law (ix (tb_G L xs) tb_X (dep + 30) J_law [] (fun v2 M2 t2 => P v2 M2 (t + t2))) := ix_St (tb_GX L xs)
  refine iq_istore hS2 595 J_law_d593 (by decide) rfl ?_
  refine iq_aload_n hS2 596 J_law_d595 (lk_1r h2 (by decide)) rfl ?_
  refine iq_aload_n hS2 597 J_law_d596 (lk_1r h0 (by decide)) rfl ?_
  refine iq_iload hS2 599 J_law_d597 (lk_1i h4 (by decide)) rfl ?_
  refine iq_iconst hS2 600 J_law_d599 (v := 1) (by decide +kernel) rfl ?_
  refine iq_iadd hS2 601 J_law_d600 rfl ?_
  refine iq_scr hS2 602 J_law_d601 hM2.1 (i := i) (c := 1) (nI_add i 1) hL (by omega) rfl ?_
  refine iq_aload_n hS2 603 J_law_d602 (lk_1r h0 (by decide)) rfl ?_
  refine iq_iload hS2 605 J_law_d603 (lk_1i h4 (by decide)) rfl ?_
  refine iq_iconst hS2 606 J_law_d605 (v := 2) (by decide +kernel) rfl ?_
  refine iq_iadd hS2 607 J_law_d606 rfl ?_
  refine iq_scr hS2 608 J_law_d607 hM2.1 (i := i) (c := 2) (nI_add i 2) hL (by omega) rfl ?_
  refine iq_cwL hS2 611 J_law_d608 rfl (pr_inst (vs := [_, _]) lc_18_115 lT_328 rfl rfl (by decide) (by decide) rfl (Nat.le_of_ble_eq_true rfl) (Nat.le_of_ble_eq_true rfl) (fun _ => Or.inl (pr_b (ka_69 hM2) (by decide) rfl))) (f_M_data_ok (dep := dep + 28) hM2 hc) rfl ?_
  intro x1 N1 hN1 hc
  refine iq_lstore hS2 613 J_law_d611 (by decide) rfl ?_
  refine iq_aload_n hS2 614 J_law_d613 (lk_2r (lk_1r h2 (by decide)) (by decide) (by decide)) rfl ?_
  refine iq_cpI hS2 617 J_law_d614 rfl (pr_inst (vs := []) lc_18_79 lT_268 rfl rfl (by decide) (by decide) rfl (Nat.le_of_ble_eq_true rfl) (Nat.le_of_ble_eq_true rfl) (fun _ => Or.inl (pr_b (ka_69 hN1) (by decide) rfl))) (f_M_thrown_ok (dep := dep + 29) hN1 (Q := fun x => x = im_i N1 69 0) ⟨_, rfl, rfl⟩) rfl ?_
  rintro _ rfl
  refine iq_iload hS2 619 J_law_d617 (lk_2i lk_1s (by decide) (by decide)) rfl ?_
  refine iq_icmp_eq hS2 622 J_law_d619 (t := 624) rfl (fun _ => ?_) rfl (fun q => absurd hc.1 q)
  refine iq_iload hS2 626 J_law_d624 (lk_2i lk_1s (by decide) (by decide)) rfl ?_
  refine iq_if_ne hS2 629 J_law_d626 (t := 640) rfl (fun qk => ?_) rfl (fun qk => ?_)
  · refine iq_goto hS2 J_law_d640 (t := 1425) rfl ?_
    refine iq_iincv hS2 1428 J_law_d1425 (c := 5) (by decide +kernel) (lk_2i (lk_1i h4 (by decide)) (by decide) (by decide)) (by decide) rfl ?_
    refine iq_goto hS2 J_law_d1428 (t := 23) rfl ?_
    exact hn t ht w2 N1 hN1 hc.2.2 _ (lw_L5 (lk_2r (lk_1r h0 (by decide)) (by decide) (by decide)) (lk_2r (lk_1r h1 (by decide)) (by decide) (by decide)) (lk_2r (lk_1r h2 (by decide)) (by decide) (by decide)) (lk_2r (lk_1r h3 (by decide)) (by decide) (by decide)) (nI_add i 5))
  · refine iq_aload_n hS2 630 J_law_d629 (lk_2r (lk_1r h3 (by decide)) (by decide) (by decide)) rfl ?_
    refine iq_iconst hS2 631 J_law_d630 (v := 0) (by decide +kernel) rfl ?_
    refine iq_laload hS2 632 J_law_d631 ⟨(ka_138 hN1).1, (ka_138 hN1).2, by decide, ix_lt (kl_138 hN1) (by decide)⟩ rfl ?_
    refine iq_lload hS2 634 J_law_d632 lk_2s rfl ?_
    refine iq_lcmp hS2 635 J_law_d634 rfl ?_
    refine iq_if_eq hS2 638 J_law_d635 (t := 640) rfl (fun _ => ?_) rfl (fun q => absurd (lcq_ (hc.2.1 (Decidable.not_not.mp qk))) q)
    refine iq_goto hS2 J_law_d640 (t := 1425) rfl ?_
    refine iq_iincv hS2 1428 J_law_d1425 (c := 5) (by decide +kernel) (lk_2i (lk_1i h4 (by decide)) (by decide) (by decide)) (by decide) rfl ?_
    refine iq_goto hS2 J_law_d1428 (t := 23) rfl ?_
    exact hn t ht w2 N1 hN1 hc.2.2 _ (lw_L5 (lk_2r (lk_1r h0 (by decide)) (by decide) (by decide)) (lk_2r (lk_1r h1 (by decide)) (by decide) (by decide)) (lk_2r (lk_1r h2 (by decide)) (by decide) (by decide)) (lk_2r (lk_1r h3 (by decide)) (by decide) (by decide)) (nI_add i 5))
theorem law_10 {L : Nat} {xs : Nat → Int32} {dep i : Nat} {w : Bool} {M : im_M} {P : Option Value → im_M → Nat → Prop} {K : Bool → im_M → Prop} (hL : L ≤ 2560) (hi : i + 5 ≤ L) (hM : lw_S w M) (hk : xs i &&& 31 = 10) (hc : lw_W L xs dep JW_print JW_print_h [.ref 0, .int (xs (i + 1)), .ref 138] M (fun w2 k M2 => ed (f_M_print (xs (i + 1)) M2) (fun r => im_i r.2 69 0 = k ∧ (k = 0 → im_l r.2 138 0 = Int32.toInt64 r.1) ∧ K w2 r.2))) (hn : ∀ t, t ≤ 1 → ∀ w1 M1, lw_S w1 M1 → K w1 M1 → lw_H L xs dep (fun v2 M2 t2 => P v2 M2 (t + t2)) (i + 5) M1) : lw_H L xs dep P i M := by
  have hS : im_St (tb_G L xs) (dep + 30) J_law (ix (tb_G L xs) tb_X (dep + 30) J_law [] P) := ix_St (tb_GX L xs)
  intro Lc hl
  obtain ⟨h0, h1, h2, h3, h4⟩ := hl
  refine iq_iload hS 25 J_law_d23 h4 rfl ?_
  refine iq_aload_n hS 26 J_law_d25 h0 rfl ?_
  refine iq_xalen hS 27 J_law_d26 (by rw [hM.1]; decide) (Or.inl (by rw [xk_s])) rfl ?_
  rw [xk_s]
  refine iq_iconst hS 28 J_law_d27 (v := 5) (by decide +kernel) rfl ?_
  refine iq_isub hS 29 J_law_d28 rfl ?_
  refine iq_icmp_gt hS 32 J_law_d29 (t := 1431) rfl (fun q => absurd q (lw_go hL hi)) rfl (fun _ => ?_)
  refine iq_aload_n hS 33 J_law_d32 h0 rfl ?_
  refine iq_iload hS 35 J_law_d33 h4 rfl ?_
  refine iq_scr hS 36 J_law_d35 hM.1 (c := 0) rfl hL (by omega) rfl ?_
  refine iq_bipush hS 38 J_law_d36 (v := 31) (by decide +kernel) rfl ?_
  refine iq_iand hS 39 J_law_d38 rfl ?_
  refine iq_tsw hS J_law_d39 (t := 643) (sw_v hk (by decide +kernel)) ?_
  refine iq_aload_n hS 644 J_law_d643 h1 rfl ?_
  refine iq_aload_n hS 645 J_law_d644 h0 rfl ?_
  refine iq_iload hS 647 J_law_d645 h4 rfl ?_
  refine iq_iconst hS 648 J_law_d647 (v := 1) (by decide +kernel) rfl ?_
  refine iq_iadd hS 649 J_law_d648 rfl ?_
  refine iq_scr hS 650 J_law_d649 hM.1 (i := i) (c := 1) (nI_add i 1) hL (by omega) rfl ?_
  refine iq_aload_n hS 651 J_law_d650 h3 rfl ?_
  obtain ⟨kk, M2, t, w2, hM2, ht, hix, hc⟩ := hc
  refine ix_callX (tb_GX L xs) 654 J_law_d651 (pr_X (vs := [_, _, _]) lX_116 rfl (by decide) rfl (Nat.le_of_ble_eq_true rfl) (Nat.le_of_ble_eq_true rfl)) hix rfl ?_
  rintro _ N9 t9 ⟨rfl, eN, et⟩
  rw [eN, et]
  have hS2 : im_St (tb_G L xs) (dep + 30) J_law (ix (tb_G L xs) tb_X (dep + 30) J_law [] (fun v2 M2 t2 => P v2 M2 (t + t2))) := ix_St (tb_GX L xs)
  refine iq_istore hS2 656 J_law_d654 (by decide) rfl ?_
  refine iq_aload_n hS2 657 J_law_d656 (lk_1r h2 (by decide)) rfl ?_
  refine iq_aload_n hS2 658 J_law_d657 (lk_1r h0 (by decide)) rfl ?_
  refine iq_iload hS2 660 J_law_d658 (lk_1i h4 (by decide)) rfl ?_
  refine iq_iconst hS2 661 J_law_d660 (v := 1) (by decide +kernel) rfl ?_
  refine iq_iadd hS2 662 J_law_d661 rfl ?_
  refine iq_scr hS2 663 J_law_d662 hM2.1 (i := i) (c := 1) (nI_add i 1) hL (by omega) rfl ?_
  refine iq_cwI hS2 666 J_law_d663 rfl (pr_inst (vs := [_]) lc_18_119 lT_330 rfl rfl (by decide) (by decide) rfl (Nat.le_of_ble_eq_true rfl) (Nat.le_of_ble_eq_true rfl) (fun _ => Or.inl (pr_b (ka_69 hM2) (by decide) rfl))) (f_M_print_ok (dep := dep + 18) hM2 hc) rfl ?_
  intro x1 N1 hN1 hc
  refine iq_istore hS2 668 J_law_d666 (by decide) rfl ?_
  refine iq_aload_n hS2 669 J_law_d668 (lk_1r (lk_1r h2 (by decide)) (by decide)) rfl ?_
  refine iq_cpI hS2 672 J_law_d669 rfl (pr_inst (vs := []) lc_18_79 lT_268 rfl rfl (by decide) (by decide) rfl (Nat.le_of_ble_eq_true rfl) (Nat.le_of_ble_eq_true rfl) (fun _ => Or.inl (pr_b (ka_69 hN1) (by decide) rfl))) (f_M_thrown_ok (dep := dep + 29) hN1 (Q := fun x => x = im_i N1 69 0) ⟨_, rfl, rfl⟩) rfl ?_
  rintro _ rfl
  refine iq_iload hS2 674 J_law_d672 (lk_1i lk_1s (by decide)) rfl ?_
  refine iq_icmp_eq hS2 677 J_law_d674 (t := 679) rfl (fun _ => ?_) rfl (fun q => absurd hc.1 q)
  refine iq_iload hS2 681 J_law_d679 (lk_1i lk_1s (by decide)) rfl ?_
  refine iq_if_ne hS2 684 J_law_d681 (t := 696) rfl (fun qk => ?_) rfl (fun qk => ?_)
  · refine iq_goto hS2 J_law_d696 (t := 1425) rfl ?_
    refine iq_iincv hS2 1428 J_law_d1425 (c := 5) (by decide +kernel) (lk_1i (lk_1i h4 (by decide)) (by decide)) (by decide) rfl ?_
    refine iq_goto hS2 J_law_d1428 (t := 23) rfl ?_
    exact hn t ht w2 N1 hN1 hc.2.2 _ (lw_L5 (lk_1r (lk_1r h0 (by decide)) (by decide)) (lk_1r (lk_1r h1 (by decide)) (by decide)) (lk_1r (lk_1r h2 (by decide)) (by decide)) (lk_1r (lk_1r h3 (by decide)) (by decide)) (nI_add i 5))
  · refine iq_aload_n hS2 685 J_law_d684 (lk_1r (lk_1r h3 (by decide)) (by decide)) rfl ?_
    refine iq_iconst hS2 686 J_law_d685 (v := 0) (by decide +kernel) rfl ?_
    refine iq_laload hS2 687 J_law_d686 ⟨(ka_138 hN1).1, (ka_138 hN1).2, by decide, ix_lt (kl_138 hN1) (by decide)⟩ rfl ?_
    refine iq_iload hS2 689 J_law_d687 lk_1s rfl ?_
    refine iq_i2l hS2 690 J_law_d689 rfl ?_
    refine iq_lcmp hS2 691 J_law_d690 rfl ?_
    refine iq_if_eq hS2 694 J_law_d691 (t := 696) rfl (fun _ => ?_) rfl (fun q => absurd (lcq_ (hc.2.1 (Decidable.not_not.mp qk))) q)
    refine iq_goto hS2 J_law_d696 (t := 1425) rfl ?_
    refine iq_iincv hS2 1428 J_law_d1425 (c := 5) (by decide +kernel) (lk_1i (lk_1i h4 (by decide)) (by decide)) (by decide) rfl ?_
    refine iq_goto hS2 J_law_d1428 (t := 23) rfl ?_
    exact hn t ht w2 N1 hN1 hc.2.2 _ (lw_L5 (lk_1r (lk_1r h0 (by decide)) (by decide)) (lk_1r (lk_1r h1 (by decide)) (by decide)) (lk_1r (lk_1r h2 (by decide)) (by decide)) (lk_1r (lk_1r h3 (by decide)) (by decide)) (nI_add i 5))
theorem law_11 {L : Nat} {xs : Nat → Int32} {dep i : Nat} {w : Bool} {M : im_M} {P : Option Value → im_M → Nat → Prop} {K : Bool → im_M → Prop} (hL : L ≤ 2560) (hi : i + 5 ≤ L) (hM : lw_S w M) (hk : xs i &&& 31 = 11) (hc : ed (f_H_drawn (xs (i + 1)) M) (fun v => ed (f_M_drawn (xs (i + 1)) M) (fun s => v = s.1 ∧ K w s.2))) (hn : ∀ w1 M1, lw_S w1 M1 → K w1 M1 → lw_H L xs dep P (i + 5) M1) : lw_H L xs dep P i M := by
  have hS : im_St (tb_G L xs) (dep + 30) J_law (ix (tb_G L xs) tb_X (dep + 30) J_law [] P) := ix_St (tb_GX L xs)
  intro Lc hl
  obtain ⟨h0, h1, h2, h3, h4⟩ := hl
  refine iq_iload hS 25 J_law_d23 h4 rfl ?_
  refine iq_aload_n hS 26 J_law_d25 h0 rfl ?_
  refine iq_xalen hS 27 J_law_d26 (by rw [hM.1]; decide) (Or.inl (by rw [xk_s])) rfl ?_
  rw [xk_s]
  refine iq_iconst hS 28 J_law_d27 (v := 5) (by decide +kernel) rfl ?_
  refine iq_isub hS 29 J_law_d28 rfl ?_
  refine iq_icmp_gt hS 32 J_law_d29 (t := 1431) rfl (fun q => absurd q (lw_go hL hi)) rfl (fun _ => ?_)
  refine iq_aload_n hS 33 J_law_d32 h0 rfl ?_
  refine iq_iload hS 35 J_law_d33 h4 rfl ?_
  refine iq_scr hS 36 J_law_d35 hM.1 (c := 0) rfl hL (by omega) rfl ?_
  refine iq_bipush hS 38 J_law_d36 (v := 31) (by decide +kernel) rfl ?_
  refine iq_iand hS 39 J_law_d38 rfl ?_
  refine iq_tsw hS J_law_d39 (t := 699) (sw_v hk (by decide +kernel)) ?_
  refine iq_aload_n hS 700 J_law_d699 h1 rfl ?_
  refine iq_aload_n hS 701 J_law_d700 h0 rfl ?_
  refine iq_iload hS 703 J_law_d701 h4 rfl ?_
  refine iq_iconst hS 704 J_law_d703 (v := 1) (by decide +kernel) rfl ?_
  refine iq_iadd hS 705 J_law_d704 rfl ?_
  refine iq_scr hS 706 J_law_d705 hM.1 (i := i) (c := 1) (nI_add i 1) hL (by omega) rfl ?_
  refine iq_cpI hS 709 J_law_d706 rfl (pr_inst (vs := [_]) lc_18_120 lT_87 rfl rfl (by decide) (by decide) rfl (Nat.le_of_ble_eq_true rfl) (Nat.le_of_ble_eq_true rfl) (fun _ => Or.inl (pr_b (ka_0 hM) (by decide) rfl))) (f_H_drawn_ok (dep := dep + 29) hM hc) rfl ?_
  intro x1 hc
  refine iq_aload_n hS 710 J_law_d709 h2 rfl ?_
  refine iq_aload_n hS 711 J_law_d710 h0 rfl ?_
  refine iq_iload hS 713 J_law_d711 h4 rfl ?_
  refine iq_iconst hS 714 J_law_d713 (v := 1) (by decide +kernel) rfl ?_
  refine iq_iadd hS 715 J_law_d714 rfl ?_
  refine iq_scr hS 716 J_law_d715 hM.1 (i := i) (c := 1) (nI_add i 1) hL (by omega) rfl ?_
  refine iq_cwI hS 719 J_law_d716 rfl (pr_inst (vs := [_]) lc_18_123 lT_451 rfl rfl (by decide) (by decide) rfl (Nat.le_of_ble_eq_true rfl) (Nat.le_of_ble_eq_true rfl) (fun _ => Or.inl (pr_b (ka_69 hM) (by decide) rfl))) (f_M_drawn_ok (dep := dep + 29) hM hc) rfl ?_
  intro x2 N2 hN2 hc
  refine iq_icmp_eq hS 722 J_law_d719 (t := 1425) rfl (fun _ => ?_) rfl (fun q => absurd hc.1 q)
  refine iq_iincv hS 1428 J_law_d1425 (c := 5) (by decide +kernel) h4 (by decide) rfl ?_
  refine iq_goto hS J_law_d1428 (t := 23) rfl ?_
  exact hn w N2 hN2 hc.2 _ (lw_L5 h0 h1 h2 h3 (nI_add i 5))
theorem law_12 {L : Nat} {xs : Nat → Int32} {dep i : Nat} {w : Bool} {M : im_M} {P : Option Value → im_M → Nat → Prop} {K : Bool → im_M → Prop} (hL : L ≤ 2560) (hi : i + 5 ≤ L) (hM : lw_S w M) (hk : xs i &&& 31 = 12) (hc : ed (f_H_spoil w (xs (i + 1)) (xs (i + 2)) (((Int32.toInt64 (xs (i + 3))) <<< (Int32.toInt64 32 &&& 63)) ||| ((Int32.toInt64 (xs (i + 4))) &&& 4294967295)) M) (fun r => ed (f_M_spoil (xs (i + 1)) (xs (i + 2)) (((Int32.toInt64 (xs (i + 3))) <<< (Int32.toInt64 32 &&& 63)) ||| ((Int32.toInt64 (xs (i + 4))) &&& 4294967295)) r.2) (fun s => r.1 = s.1 ∧ K w s.2))) (hn : ∀ w1 M1, lw_S w1 M1 → K w1 M1 → lw_H L xs dep P (i + 5) M1) : lw_H L xs dep P i M := by
  have hS : im_St (tb_G L xs) (dep + 30) J_law (ix (tb_G L xs) tb_X (dep + 30) J_law [] P) := ix_St (tb_GX L xs)
  intro Lc hl
  obtain ⟨h0, h1, h2, h3, h4⟩ := hl
  refine iq_iload hS 25 J_law_d23 h4 rfl ?_
  refine iq_aload_n hS 26 J_law_d25 h0 rfl ?_
  refine iq_xalen hS 27 J_law_d26 (by rw [hM.1]; decide) (Or.inl (by rw [xk_s])) rfl ?_
  rw [xk_s]
  refine iq_iconst hS 28 J_law_d27 (v := 5) (by decide +kernel) rfl ?_
  refine iq_isub hS 29 J_law_d28 rfl ?_
  refine iq_icmp_gt hS 32 J_law_d29 (t := 1431) rfl (fun q => absurd q (lw_go hL hi)) rfl (fun _ => ?_)
  refine iq_aload_n hS 33 J_law_d32 h0 rfl ?_
  refine iq_iload hS 35 J_law_d33 h4 rfl ?_
  refine iq_scr hS 36 J_law_d35 hM.1 (c := 0) rfl hL (by omega) rfl ?_
  refine iq_bipush hS 38 J_law_d36 (v := 31) (by decide +kernel) rfl ?_
  refine iq_iand hS 39 J_law_d38 rfl ?_
  refine iq_tsw hS J_law_d39 (t := 724) (sw_v hk (by decide +kernel)) ?_
  refine iq_aload_n hS 725 J_law_d724 h1 rfl ?_
  refine iq_aload_n hS 726 J_law_d725 h0 rfl ?_
  refine iq_iload hS 728 J_law_d726 h4 rfl ?_
  refine iq_iconst hS 729 J_law_d728 (v := 1) (by decide +kernel) rfl ?_
  refine iq_iadd hS 730 J_law_d729 rfl ?_
  refine iq_scr hS 731 J_law_d730 hM.1 (i := i) (c := 1) (nI_add i 1) hL (by omega) rfl ?_
  refine iq_aload_n hS 732 J_law_d731 h0 rfl ?_
  refine iq_iload hS 734 J_law_d732 h4 rfl ?_
  refine iq_iconst hS 735 J_law_d734 (v := 2) (by decide +kernel) rfl ?_
  refine iq_iadd hS 736 J_law_d735 rfl ?_
  refine iq_scr hS 737 J_law_d736 hM.1 (i := i) (c := 2) (nI_add i 2) hL (by omega) rfl ?_
  refine iq_aload_n hS 738 J_law_d737 h0 rfl ?_
  refine iq_iload hS 740 J_law_d738 h4 rfl ?_
  refine iq_iconst hS 741 J_law_d740 (v := 3) (by decide +kernel) rfl ?_
  refine iq_iadd hS 742 J_law_d741 rfl ?_
  refine iq_scr hS 743 J_law_d742 hM.1 (i := i) (c := 3) (nI_add i 3) hL (by omega) rfl ?_
  refine iq_i2l hS 744 J_law_d743 rfl ?_
  refine iq_bipush hS 746 J_law_d744 (v := 32) (by decide +kernel) rfl ?_
  refine iq_lshl hS 747 J_law_d746 rfl ?_
  refine iq_aload_n hS 748 J_law_d747 h0 rfl ?_
  refine iq_iload hS 750 J_law_d748 h4 rfl ?_
  refine iq_iconst hS 751 J_law_d750 (v := 4) (by decide +kernel) rfl ?_
  refine iq_iadd hS 752 J_law_d751 rfl ?_
  refine iq_scr hS 753 J_law_d752 hM.1 (i := i) (c := 4) (nI_add i 4) hL (by omega) rfl ?_
  refine iq_i2l hS 754 J_law_d753 rfl ?_
  refine iq_ldc2_w hS 757 J_law_d754 lk_18_71 rfl ?_
  refine iq_land hS 758 J_law_d757 rfl ?_
  refine iq_lor hS 759 J_law_d758 rfl ?_
  refine iq_cwI hS 762 J_law_d759 rfl (pr_inst (vs := [_, _, _]) lc_18_124 lT_88 rfl rfl (by decide) (by decide) rfl (Nat.le_of_ble_eq_true rfl) (Nat.le_of_ble_eq_true rfl) (fun _ => Or.inl (pr_b (ka_0 hM) (by decide) rfl))) (f_H_spoil_ok (dep := dep + 28) hM hc) rfl ?_
  intro x1 N1 hN1 hc
  refine iq_aload_n hS 763 J_law_d762 h2 rfl ?_
  refine iq_aload_n hS 764 J_law_d763 h0 rfl ?_
  refine iq_iload hS 766 J_law_d764 h4 rfl ?_
  refine iq_iconst hS 767 J_law_d766 (v := 1) (by decide +kernel) rfl ?_
  refine iq_iadd hS 768 J_law_d767 rfl ?_
  refine iq_scr hS 769 J_law_d768 hN1.1 (i := i) (c := 1) (nI_add i 1) hL (by omega) rfl ?_
  refine iq_aload_n hS 770 J_law_d769 h0 rfl ?_
  refine iq_iload hS 772 J_law_d770 h4 rfl ?_
  refine iq_iconst hS 773 J_law_d772 (v := 2) (by decide +kernel) rfl ?_
  refine iq_iadd hS 774 J_law_d773 rfl ?_
  refine iq_scr hS 775 J_law_d774 hN1.1 (i := i) (c := 2) (nI_add i 2) hL (by omega) rfl ?_
  refine iq_aload_n hS 776 J_law_d775 h0 rfl ?_
  refine iq_iload hS 778 J_law_d776 h4 rfl ?_
  refine iq_iconst hS 779 J_law_d778 (v := 3) (by decide +kernel) rfl ?_
  refine iq_iadd hS 780 J_law_d779 rfl ?_
  refine iq_scr hS 781 J_law_d780 hN1.1 (i := i) (c := 3) (nI_add i 3) hL (by omega) rfl ?_
  refine iq_i2l hS 782 J_law_d781 rfl ?_
  refine iq_bipush hS 784 J_law_d782 (v := 32) (by decide +kernel) rfl ?_
  refine iq_lshl hS 785 J_law_d784 rfl ?_
  refine iq_aload_n hS 786 J_law_d785 h0 rfl ?_
  refine iq_iload hS 788 J_law_d786 h4 rfl ?_
  refine iq_iconst hS 789 J_law_d788 (v := 4) (by decide +kernel) rfl ?_
  refine iq_iadd hS 790 J_law_d789 rfl ?_
  refine iq_scr hS 791 J_law_d790 hN1.1 (i := i) (c := 4) (nI_add i 4) hL (by omega) rfl ?_
  refine iq_i2l hS 792 J_law_d791 rfl ?_
  refine iq_ldc2_w hS 795 J_law_d792 lk_18_71 rfl ?_
  refine iq_land hS 796 J_law_d795 rfl ?_
  refine iq_lor hS 797 J_law_d796 rfl ?_
  refine iq_cwI hS 800 J_law_d797 rfl (pr_inst (vs := [_, _, _]) lc_18_128 lT_452 rfl rfl (by decide) (by decide) rfl (Nat.le_of_ble_eq_true rfl) (Nat.le_of_ble_eq_true rfl) (fun _ => Or.inl (pr_b (ka_69 hN1) (by decide) rfl))) (f_M_spoil_ok (dep := dep + 24) hN1 hc) rfl ?_
  intro x2 N2 hN2 hc
  refine iq_icmp_eq hS 803 J_law_d800 (t := 1425) rfl (fun _ => ?_) rfl (fun q => absurd hc.1 q)
  refine iq_iincv hS 1428 J_law_d1425 (c := 5) (by decide +kernel) h4 (by decide) rfl ?_
  refine iq_goto hS J_law_d1428 (t := 23) rfl ?_
  exact hn w N2 hN2 hc.2 _ (lw_L5 h0 h1 h2 h3 (nI_add i 5))
theorem law_13 {L : Nat} {xs : Nat → Int32} {dep i : Nat} {w : Bool} {M : im_M} {P : Option Value → im_M → Nat → Prop} {K : Bool → im_M → Prop} (hL : L ≤ 2560) (hi : i + 5 ≤ L) (hM : lw_S w M) (hk : xs i &&& 31 = 13) (hc : lw_W L xs dep JW_turn JW_turn_h [.ref 0, .int (xs (i + 1))] M (fun w2 k M2 => ed (f_M_turn (xs (i + 1)) M2) (fun r => im_i r 69 0 = k ∧ K w2 r))) (hn : ∀ t, t ≤ 1 → ∀ w1 M1, lw_S w1 M1 → K w1 M1 → lw_H L xs dep (fun v2 M2 t2 => P v2 M2 (t + t2)) (i + 5) M1) : lw_H L xs dep P i M := by
  have hS : im_St (tb_G L xs) (dep + 30) J_law (ix (tb_G L xs) tb_X (dep + 30) J_law [] P) := ix_St (tb_GX L xs)
  intro Lc hl
  obtain ⟨h0, h1, h2, h3, h4⟩ := hl
  refine iq_iload hS 25 J_law_d23 h4 rfl ?_
  refine iq_aload_n hS 26 J_law_d25 h0 rfl ?_
  refine iq_xalen hS 27 J_law_d26 (by rw [hM.1]; decide) (Or.inl (by rw [xk_s])) rfl ?_
  rw [xk_s]
  refine iq_iconst hS 28 J_law_d27 (v := 5) (by decide +kernel) rfl ?_
  refine iq_isub hS 29 J_law_d28 rfl ?_
  refine iq_icmp_gt hS 32 J_law_d29 (t := 1431) rfl (fun q => absurd q (lw_go hL hi)) rfl (fun _ => ?_)
  refine iq_aload_n hS 33 J_law_d32 h0 rfl ?_
  refine iq_iload hS 35 J_law_d33 h4 rfl ?_
  refine iq_scr hS 36 J_law_d35 hM.1 (c := 0) rfl hL (by omega) rfl ?_
  refine iq_bipush hS 38 J_law_d36 (v := 31) (by decide +kernel) rfl ?_
  refine iq_iand hS 39 J_law_d38 rfl ?_
  refine iq_tsw hS J_law_d39 (t := 805) (sw_v hk (by decide +kernel)) ?_
  refine iq_aload_n hS 806 J_law_d805 h1 rfl ?_
  refine iq_aload_n hS 807 J_law_d806 h0 rfl ?_
  refine iq_iload hS 809 J_law_d807 h4 rfl ?_
  refine iq_iconst hS 810 J_law_d809 (v := 1) (by decide +kernel) rfl ?_
  refine iq_iadd hS 811 J_law_d810 rfl ?_
  refine iq_scr hS 812 J_law_d811 hM.1 (i := i) (c := 1) (nI_add i 1) hL (by omega) rfl ?_
  obtain ⟨kk, M2, t, w2, hM2, ht, hix, hc⟩ := hc
  refine ix_callX (tb_GX L xs) 815 J_law_d812 (pr_X (vs := [_, _]) lX_129 rfl (by decide) rfl (Nat.le_of_ble_eq_true rfl) (Nat.le_of_ble_eq_true rfl)) hix rfl ?_
  rintro _ N9 t9 ⟨rfl, eN, et⟩
  rw [eN, et]
  have hS2 : im_St (tb_G L xs) (dep + 30) J_law (ix (tb_G L xs) tb_X (dep + 30) J_law [] (fun v2 M2 t2 => P v2 M2 (t + t2))) := ix_St (tb_GX L xs)
  refine iq_istore hS2 817 J_law_d815 (by decide) rfl ?_
  refine iq_aload_n hS2 818 J_law_d817 (lk_1r h2 (by decide)) rfl ?_
  refine iq_aload_n hS2 819 J_law_d818 (lk_1r h0 (by decide)) rfl ?_
  refine iq_iload hS2 821 J_law_d819 (lk_1i h4 (by decide)) rfl ?_
  refine iq_iconst hS2 822 J_law_d821 (v := 1) (by decide +kernel) rfl ?_
  refine iq_iadd hS2 823 J_law_d822 rfl ?_
  refine iq_scr hS2 824 J_law_d823 hM2.1 (i := i) (c := 1) (nI_add i 1) hL (by omega) rfl ?_
  refine iq_cwV hS2 827 J_law_d824 rfl (pr_inst (vs := [_]) lc_18_132 lT_453 rfl rfl (by decide) (by decide) rfl (Nat.le_of_ble_eq_true rfl) (Nat.le_of_ble_eq_true rfl) (fun _ => Or.inl (pr_b (ka_69 hM2) (by decide) rfl))) (f_M_turn_ok (dep := dep + 23) hM2 hc) rfl ?_
  intro N1 hN1 hc
  refine iq_aload_n hS2 828 J_law_d827 (lk_1r h2 (by decide)) rfl ?_
  refine iq_cpI hS2 831 J_law_d828 rfl (pr_inst (vs := []) lc_18_79 lT_268 rfl rfl (by decide) (by decide) rfl (Nat.le_of_ble_eq_true rfl) (Nat.le_of_ble_eq_true rfl) (fun _ => Or.inl (pr_b (ka_69 hN1) (by decide) rfl))) (f_M_thrown_ok (dep := dep + 29) hN1 (Q := fun x => x = im_i N1 69 0) ⟨_, rfl, rfl⟩) rfl ?_
  rintro _ rfl
  refine iq_iload hS2 833 J_law_d831 lk_1s rfl ?_
  refine iq_icmp_eq hS2 836 J_law_d833 (t := 838) rfl (fun _ => ?_) rfl (fun q => absurd hc.1 q)
  refine iq_goto hS2 J_law_d838 (t := 1425) rfl ?_
  refine iq_iincv hS2 1428 J_law_d1425 (c := 5) (by decide +kernel) (lk_1i h4 (by decide)) (by decide) rfl ?_
  refine iq_goto hS2 J_law_d1428 (t := 23) rfl ?_
  exact hn t ht w2 N1 hN1 hc.2 _ (lw_L5 (lk_1r h0 (by decide)) (lk_1r h1 (by decide)) (lk_1r h2 (by decide)) (lk_1r h3 (by decide)) (nI_add i 5))
theorem law_14 {L : Nat} {xs : Nat → Int32} {dep i : Nat} {w : Bool} {M : im_M} {P : Option Value → im_M → Nat → Prop} {K : Bool → im_M → Prop} (hL : L ≤ 2560) (hi : i + 5 ≤ L) (hM : lw_S w M) (hk : xs i &&& 31 = 14) (hc : lw_W L xs dep JW_told JW_told_h [.ref 0, .int (xs (i + 1)), .ref 138] M (fun w2 k M2 => ed (f_M_told (xs (i + 1)) M2) (fun r => im_i r.2 69 0 = k ∧ (k = 0 → im_l r.2 138 0 = Int32.toInt64 r.1) ∧ K w2 r.2))) (hn : ∀ t, t ≤ 1 → ∀ w1 M1, lw_S w1 M1 → K w1 M1 → lw_H L xs dep (fun v2 M2 t2 => P v2 M2 (t + t2)) (i + 5) M1) : lw_H L xs dep P i M := by
  have hS : im_St (tb_G L xs) (dep + 30) J_law (ix (tb_G L xs) tb_X (dep + 30) J_law [] P) := ix_St (tb_GX L xs)
  intro Lc hl
  obtain ⟨h0, h1, h2, h3, h4⟩ := hl
  refine iq_iload hS 25 J_law_d23 h4 rfl ?_
  refine iq_aload_n hS 26 J_law_d25 h0 rfl ?_
  refine iq_xalen hS 27 J_law_d26 (by rw [hM.1]; decide) (Or.inl (by rw [xk_s])) rfl ?_
  rw [xk_s]
  refine iq_iconst hS 28 J_law_d27 (v := 5) (by decide +kernel) rfl ?_
  refine iq_isub hS 29 J_law_d28 rfl ?_
  refine iq_icmp_gt hS 32 J_law_d29 (t := 1431) rfl (fun q => absurd q (lw_go hL hi)) rfl (fun _ => ?_)
  refine iq_aload_n hS 33 J_law_d32 h0 rfl ?_
  refine iq_iload hS 35 J_law_d33 h4 rfl ?_
  refine iq_scr hS 36 J_law_d35 hM.1 (c := 0) rfl hL (by omega) rfl ?_
  refine iq_bipush hS 38 J_law_d36 (v := 31) (by decide +kernel) rfl ?_
  refine iq_iand hS 39 J_law_d38 rfl ?_
  refine iq_tsw hS J_law_d39 (t := 841) (sw_v hk (by decide +kernel)) ?_
  refine iq_aload_n hS 842 J_law_d841 h1 rfl ?_
  refine iq_aload_n hS 843 J_law_d842 h0 rfl ?_
  refine iq_iload hS 845 J_law_d843 h4 rfl ?_
  refine iq_iconst hS 846 J_law_d845 (v := 1) (by decide +kernel) rfl ?_
  refine iq_iadd hS 847 J_law_d846 rfl ?_
  refine iq_scr hS 848 J_law_d847 hM.1 (i := i) (c := 1) (nI_add i 1) hL (by omega) rfl ?_
  refine iq_aload_n hS 849 J_law_d848 h3 rfl ?_
  obtain ⟨kk, M2, t, w2, hM2, ht, hix, hc⟩ := hc
  refine ix_callX (tb_GX L xs) 852 J_law_d849 (pr_X (vs := [_, _, _]) lX_133 rfl (by decide) rfl (Nat.le_of_ble_eq_true rfl) (Nat.le_of_ble_eq_true rfl)) hix rfl ?_
  rintro _ N9 t9 ⟨rfl, eN, et⟩
  rw [eN, et]
  have hS2 : im_St (tb_G L xs) (dep + 30) J_law (ix (tb_G L xs) tb_X (dep + 30) J_law [] (fun v2 M2 t2 => P v2 M2 (t + t2))) := ix_St (tb_GX L xs)
  refine iq_istore hS2 854 J_law_d852 (by decide) rfl ?_
  refine iq_aload_n hS2 855 J_law_d854 (lk_1r h2 (by decide)) rfl ?_
  refine iq_aload_n hS2 856 J_law_d855 (lk_1r h0 (by decide)) rfl ?_
  refine iq_iload hS2 858 J_law_d856 (lk_1i h4 (by decide)) rfl ?_
  refine iq_iconst hS2 859 J_law_d858 (v := 1) (by decide +kernel) rfl ?_
  refine iq_iadd hS2 860 J_law_d859 rfl ?_
  refine iq_scr hS2 861 J_law_d860 hM2.1 (i := i) (c := 1) (nI_add i 1) hL (by omega) rfl ?_
  refine iq_cwI hS2 864 J_law_d861 rfl (pr_inst (vs := [_]) lc_18_135 lT_456 rfl rfl (by decide) (by decide) rfl (Nat.le_of_ble_eq_true rfl) (Nat.le_of_ble_eq_true rfl) (fun _ => Or.inl (pr_b (ka_69 hM2) (by decide) rfl))) (f_M_told_ok (dep := dep + 26) hM2 hc) rfl ?_
  intro x1 N1 hN1 hc
  refine iq_istore hS2 866 J_law_d864 (by decide) rfl ?_
  refine iq_aload_n hS2 867 J_law_d866 (lk_1r (lk_1r h2 (by decide)) (by decide)) rfl ?_
  refine iq_cpI hS2 870 J_law_d867 rfl (pr_inst (vs := []) lc_18_79 lT_268 rfl rfl (by decide) (by decide) rfl (Nat.le_of_ble_eq_true rfl) (Nat.le_of_ble_eq_true rfl) (fun _ => Or.inl (pr_b (ka_69 hN1) (by decide) rfl))) (f_M_thrown_ok (dep := dep + 29) hN1 (Q := fun x => x = im_i N1 69 0) ⟨_, rfl, rfl⟩) rfl ?_
  rintro _ rfl
  refine iq_iload hS2 872 J_law_d870 (lk_1i lk_1s (by decide)) rfl ?_
  refine iq_icmp_eq hS2 875 J_law_d872 (t := 877) rfl (fun _ => ?_) rfl (fun q => absurd hc.1 q)
  refine iq_iload hS2 879 J_law_d877 (lk_1i lk_1s (by decide)) rfl ?_
  refine iq_if_ne hS2 882 J_law_d879 (t := 894) rfl (fun qk => ?_) rfl (fun qk => ?_)
  · refine iq_goto hS2 J_law_d894 (t := 1425) rfl ?_
    refine iq_iincv hS2 1428 J_law_d1425 (c := 5) (by decide +kernel) (lk_1i (lk_1i h4 (by decide)) (by decide)) (by decide) rfl ?_
    refine iq_goto hS2 J_law_d1428 (t := 23) rfl ?_
    exact hn t ht w2 N1 hN1 hc.2.2 _ (lw_L5 (lk_1r (lk_1r h0 (by decide)) (by decide)) (lk_1r (lk_1r h1 (by decide)) (by decide)) (lk_1r (lk_1r h2 (by decide)) (by decide)) (lk_1r (lk_1r h3 (by decide)) (by decide)) (nI_add i 5))
  · refine iq_aload_n hS2 883 J_law_d882 (lk_1r (lk_1r h3 (by decide)) (by decide)) rfl ?_
    refine iq_iconst hS2 884 J_law_d883 (v := 0) (by decide +kernel) rfl ?_
    refine iq_laload hS2 885 J_law_d884 ⟨(ka_138 hN1).1, (ka_138 hN1).2, by decide, ix_lt (kl_138 hN1) (by decide)⟩ rfl ?_
    refine iq_iload hS2 887 J_law_d885 lk_1s rfl ?_
    refine iq_i2l hS2 888 J_law_d887 rfl ?_
    refine iq_lcmp hS2 889 J_law_d888 rfl ?_
    refine iq_if_eq hS2 892 J_law_d889 (t := 894) rfl (fun _ => ?_) rfl (fun q => absurd (lcq_ (hc.2.1 (Decidable.not_not.mp qk))) q)
    refine iq_goto hS2 J_law_d894 (t := 1425) rfl ?_
    refine iq_iincv hS2 1428 J_law_d1425 (c := 5) (by decide +kernel) (lk_1i (lk_1i h4 (by decide)) (by decide)) (by decide) rfl ?_
    refine iq_goto hS2 J_law_d1428 (t := 23) rfl ?_
    exact hn t ht w2 N1 hN1 hc.2.2 _ (lw_L5 (lk_1r (lk_1r h0 (by decide)) (by decide)) (lk_1r (lk_1r h1 (by decide)) (by decide)) (lk_1r (lk_1r h2 (by decide)) (by decide)) (lk_1r (lk_1r h3 (by decide)) (by decide)) (nI_add i 5))
theorem law_15 {L : Nat} {xs : Nat → Int32} {dep i : Nat} {w : Bool} {M : im_M} {P : Option Value → im_M → Nat → Prop} {K : Bool → im_M → Prop} (hL : L ≤ 2560) (hi : i + 5 ≤ L) (hM : lw_S w M) (hk : xs i &&& 31 = 15) (hc : ed (f_H_dots w (xs (i + 1)) (xs (i + 2)) M) (fun v => ed (f_M_dots (xs (i + 1)) (xs (i + 2)) M) (fun s => v = s.1 ∧ K w s.2))) (hn : ∀ w1 M1, lw_S w1 M1 → K w1 M1 → lw_H L xs dep P (i + 5) M1) : lw_H L xs dep P i M := by
  have hS : im_St (tb_G L xs) (dep + 30) J_law (ix (tb_G L xs) tb_X (dep + 30) J_law [] P) := ix_St (tb_GX L xs)
  intro Lc hl
  obtain ⟨h0, h1, h2, h3, h4⟩ := hl
  refine iq_iload hS 25 J_law_d23 h4 rfl ?_
  refine iq_aload_n hS 26 J_law_d25 h0 rfl ?_
  refine iq_xalen hS 27 J_law_d26 (by rw [hM.1]; decide) (Or.inl (by rw [xk_s])) rfl ?_
  rw [xk_s]
  refine iq_iconst hS 28 J_law_d27 (v := 5) (by decide +kernel) rfl ?_
  refine iq_isub hS 29 J_law_d28 rfl ?_
  refine iq_icmp_gt hS 32 J_law_d29 (t := 1431) rfl (fun q => absurd q (lw_go hL hi)) rfl (fun _ => ?_)
  refine iq_aload_n hS 33 J_law_d32 h0 rfl ?_
  refine iq_iload hS 35 J_law_d33 h4 rfl ?_
  refine iq_scr hS 36 J_law_d35 hM.1 (c := 0) rfl hL (by omega) rfl ?_
  refine iq_bipush hS 38 J_law_d36 (v := 31) (by decide +kernel) rfl ?_
  refine iq_iand hS 39 J_law_d38 rfl ?_
  refine iq_tsw hS J_law_d39 (t := 897) (sw_v hk (by decide +kernel)) ?_
  refine iq_aload_n hS 898 J_law_d897 h1 rfl ?_
  refine iq_aload_n hS 899 J_law_d898 h0 rfl ?_
  refine iq_iload hS 901 J_law_d899 h4 rfl ?_
  refine iq_iconst hS 902 J_law_d901 (v := 1) (by decide +kernel) rfl ?_
  refine iq_iadd hS 903 J_law_d902 rfl ?_
  refine iq_scr hS 904 J_law_d903 hM.1 (i := i) (c := 1) (nI_add i 1) hL (by omega) rfl ?_
  refine iq_aload_n hS 905 J_law_d904 h0 rfl ?_
  refine iq_iload hS 907 J_law_d905 h4 rfl ?_
  refine iq_iconst hS 908 J_law_d907 (v := 2) (by decide +kernel) rfl ?_
  refine iq_iadd hS 909 J_law_d908 rfl ?_
  refine iq_scr hS 910 J_law_d909 hM.1 (i := i) (c := 2) (nI_add i 2) hL (by omega) rfl ?_
  refine iq_cpL hS 913 J_law_d910 rfl (pr_inst (vs := [_, _]) lc_18_136 lT_90 rfl rfl (by decide) (by decide) rfl (Nat.le_of_ble_eq_true rfl) (Nat.le_of_ble_eq_true rfl) (fun _ => Or.inl (pr_b (ka_0 hM) (by decide) rfl))) (f_H_dots_ok (dep := dep + 27) hM hc) rfl ?_
  intro x1 hc
  refine iq_aload_n hS 914 J_law_d913 h2 rfl ?_
  refine iq_aload_n hS 915 J_law_d914 h0 rfl ?_
  refine iq_iload hS 917 J_law_d915 h4 rfl ?_
  refine iq_iconst hS 918 J_law_d917 (v := 1) (by decide +kernel) rfl ?_
  refine iq_iadd hS 919 J_law_d918 rfl ?_
  refine iq_scr hS 920 J_law_d919 hM.1 (i := i) (c := 1) (nI_add i 1) hL (by omega) rfl ?_
  refine iq_aload_n hS 921 J_law_d920 h0 rfl ?_
  refine iq_iload hS 923 J_law_d921 h4 rfl ?_
  refine iq_iconst hS 924 J_law_d923 (v := 2) (by decide +kernel) rfl ?_
  refine iq_iadd hS 925 J_law_d924 rfl ?_
  refine iq_scr hS 926 J_law_d925 hM.1 (i := i) (c := 2) (nI_add i 2) hL (by omega) rfl ?_
  refine iq_cwL hS 929 J_law_d926 rfl (pr_inst (vs := [_, _]) lc_18_139 lT_457 rfl rfl (by decide) (by decide) rfl (Nat.le_of_ble_eq_true rfl) (Nat.le_of_ble_eq_true rfl) (fun _ => Or.inl (pr_b (ka_69 hM) (by decide) rfl))) (f_M_dots_ok (dep := dep + 24) hM hc) rfl ?_
  intro x2 N2 hN2 hc
  refine iq_lcmp hS 930 J_law_d929 rfl ?_
  refine iq_if_eq hS 933 J_law_d930 (t := 1425) rfl (fun _ => ?_) rfl (fun q => absurd (lcq_ hc.1) q)
  refine iq_iincv hS 1428 J_law_d1425 (c := 5) (by decide +kernel) h4 (by decide) rfl ?_
  refine iq_goto hS J_law_d1428 (t := 23) rfl ?_
  exact hn w N2 hN2 hc.2 _ (lw_L5 h0 h1 h2 h3 (nI_add i 5))
theorem law_16 {L : Nat} {xs : Nat → Int32} {dep i : Nat} {w : Bool} {M : im_M} {P : Option Value → im_M → Nat → Prop} {K : Bool → im_M → Prop} (hL : L ≤ 2560) (hi : i + 5 ≤ L) (hM : lw_S w M) (hk : xs i &&& 31 = 16) (hc : lw_W L xs dep JW_run JW_run_h [.ref 0, .int (xs (i + 1)), .int (xs (i + 2)), .int (xs (i + 3)), .int (if (xs (i + 4)) = 0 then 0 else 1), .ref 138] M (fun w2 k M2 => ed (f_M_run (xs (i + 1)) (xs (i + 2)) (xs (i + 3)) (if (xs (i + 4)) = 0 then 0 else 1) M2) (fun r => im_i r.2 69 0 = k ∧ (k = 0 → im_l r.2 138 0 = Int32.toInt64 r.1) ∧ K w2 r.2))) (hn : ∀ t, t ≤ 1 → ∀ w1 M1, lw_S w1 M1 → K w1 M1 → lw_H L xs dep (fun v2 M2 t2 => P v2 M2 (t + t2)) (i + 5) M1) : lw_H L xs dep P i M := by
  have hS : im_St (tb_G L xs) (dep + 30) J_law (ix (tb_G L xs) tb_X (dep + 30) J_law [] P) := ix_St (tb_GX L xs)
  intro Lc hl
  obtain ⟨h0, h1, h2, h3, h4⟩ := hl
  refine iq_iload hS 25 J_law_d23 h4 rfl ?_
  refine iq_aload_n hS 26 J_law_d25 h0 rfl ?_
  refine iq_xalen hS 27 J_law_d26 (by rw [hM.1]; decide) (Or.inl (by rw [xk_s])) rfl ?_
  rw [xk_s]
  refine iq_iconst hS 28 J_law_d27 (v := 5) (by decide +kernel) rfl ?_
  refine iq_isub hS 29 J_law_d28 rfl ?_
  refine iq_icmp_gt hS 32 J_law_d29 (t := 1431) rfl (fun q => absurd q (lw_go hL hi)) rfl (fun _ => ?_)
  refine iq_aload_n hS 33 J_law_d32 h0 rfl ?_
  refine iq_iload hS 35 J_law_d33 h4 rfl ?_
  refine iq_scr hS 36 J_law_d35 hM.1 (c := 0) rfl hL (by omega) rfl ?_
  refine iq_bipush hS 38 J_law_d36 (v := 31) (by decide +kernel) rfl ?_
  refine iq_iand hS 39 J_law_d38 rfl ?_
  refine iq_tsw hS J_law_d39 (t := 935) (sw_v hk (by decide +kernel)) ?_
  by_cases qb : (xs (i + 4)) = 0
  · rw [if_pos qb] at hc
    refine iq_aload_n hS 936 J_law_d935 h1 rfl ?_
    refine iq_aload_n hS 937 J_law_d936 h0 rfl ?_
    refine iq_iload hS 939 J_law_d937 h4 rfl ?_
    refine iq_iconst hS 940 J_law_d939 (v := 1) (by decide +kernel) rfl ?_
    refine iq_iadd hS 941 J_law_d940 rfl ?_
    refine iq_scr hS 942 J_law_d941 hM.1 (i := i) (c := 1) (nI_add i 1) hL (by omega) rfl ?_
    refine iq_aload_n hS 943 J_law_d942 h0 rfl ?_
    refine iq_iload hS 945 J_law_d943 h4 rfl ?_
    refine iq_iconst hS 946 J_law_d945 (v := 2) (by decide +kernel) rfl ?_
    refine iq_iadd hS 947 J_law_d946 rfl ?_
    refine iq_scr hS 948 J_law_d947 hM.1 (i := i) (c := 2) (nI_add i 2) hL (by omega) rfl ?_
    refine iq_aload_n hS 949 J_law_d948 h0 rfl ?_
    refine iq_iload hS 951 J_law_d949 h4 rfl ?_
    refine iq_iconst hS 952 J_law_d951 (v := 3) (by decide +kernel) rfl ?_
    refine iq_iadd hS 953 J_law_d952 rfl ?_
    refine iq_scr hS 954 J_law_d953 hM.1 (i := i) (c := 3) (nI_add i 3) hL (by omega) rfl ?_
    refine iq_aload_n hS 955 J_law_d954 h0 rfl ?_
    refine iq_iload hS 957 J_law_d955 h4 rfl ?_
    refine iq_iconst hS 958 J_law_d957 (v := 4) (by decide +kernel) rfl ?_
    refine iq_iadd hS 959 J_law_d958 rfl ?_
    refine iq_scr hS 960 J_law_d959 hM.1 (i := i) (c := 4) (nI_add i 4) hL (by omega) rfl ?_
    refine iq_if_eq hS 963 J_law_d960 (t := 967) rfl (fun _ => ?_) rfl (fun q => absurd qb q)
    refine iq_iconst hS 968 J_law_d967 (v := 0) (by decide +kernel) rfl ?_
    refine iq_aload_n hS 969 J_law_d968 h3 rfl ?_
    obtain ⟨kk, M2, t, w2, hM2, ht, hix, hc⟩ := hc
    refine ix_callX (tb_GX L xs) 972 J_law_d969 (pr_X (vs := [_, _, _, _, _, _]) lX_140 rfl (by decide) rfl (Nat.le_of_ble_eq_true rfl) (Nat.le_of_ble_eq_true rfl)) hix rfl ?_
    rintro _ N9 t9 ⟨rfl, eN, et⟩
    rw [eN, et]
    have hS2 : im_St (tb_G L xs) (dep + 30) J_law (ix (tb_G L xs) tb_X (dep + 30) J_law [] (fun v2 M2 t2 => P v2 M2 (t + t2))) := ix_St (tb_GX L xs)
    refine iq_istore hS2 974 J_law_d972 (by decide) rfl ?_
    refine iq_aload_n hS2 975 J_law_d974 (lk_1r h2 (by decide)) rfl ?_
    refine iq_aload_n hS2 976 J_law_d975 (lk_1r h0 (by decide)) rfl ?_
    refine iq_iload hS2 978 J_law_d976 (lk_1i h4 (by decide)) rfl ?_
    refine iq_iconst hS2 979 J_law_d978 (v := 1) (by decide +kernel) rfl ?_
    refine iq_iadd hS2 980 J_law_d979 rfl ?_
    refine iq_scr hS2 981 J_law_d980 hM2.1 (i := i) (c := 1) (nI_add i 1) hL (by omega) rfl ?_
    refine iq_aload_n hS2 982 J_law_d981 (lk_1r h0 (by decide)) rfl ?_
    refine iq_iload hS2 984 J_law_d982 (lk_1i h4 (by decide)) rfl ?_
    refine iq_iconst hS2 985 J_law_d984 (v := 2) (by decide +kernel) rfl ?_
    refine iq_iadd hS2 986 J_law_d985 rfl ?_
    refine iq_scr hS2 987 J_law_d986 hM2.1 (i := i) (c := 2) (nI_add i 2) hL (by omega) rfl ?_
    refine iq_aload_n hS2 988 J_law_d987 (lk_1r h0 (by decide)) rfl ?_
    refine iq_iload hS2 990 J_law_d988 (lk_1i h4 (by decide)) rfl ?_
    refine iq_iconst hS2 991 J_law_d990 (v := 3) (by decide +kernel) rfl ?_
    refine iq_iadd hS2 992 J_law_d991 rfl ?_
    refine iq_scr hS2 993 J_law_d992 hM2.1 (i := i) (c := 3) (nI_add i 3) hL (by omega) rfl ?_
    refine iq_aload_n hS2 994 J_law_d993 (lk_1r h0 (by decide)) rfl ?_
    refine iq_iload hS2 996 J_law_d994 (lk_1i h4 (by decide)) rfl ?_
    refine iq_iconst hS2 997 J_law_d996 (v := 4) (by decide +kernel) rfl ?_
    refine iq_iadd hS2 998 J_law_d997 rfl ?_
    refine iq_scr hS2 999 J_law_d998 hM2.1 (i := i) (c := 4) (nI_add i 4) hL (by omega) rfl ?_
    refine iq_if_eq hS2 1002 J_law_d999 (t := 1006) rfl (fun _ => ?_) rfl (fun q => absurd qb q)
    refine iq_iconst hS2 1007 J_law_d1006 (v := 0) (by decide +kernel) rfl ?_
    refine iq_cwI hS2 1010 J_law_d1007 rfl (pr_inst (vs := [_, _, _, _]) lc_18_143 lT_458 rfl rfl (by decide) (by decide) rfl (Nat.le_of_ble_eq_true rfl) (Nat.le_of_ble_eq_true rfl) (fun _ => Or.inl (pr_b (ka_69 hM2) (by decide) rfl))) (f_M_run_ok (dep := dep + 25) hM2 hc) rfl ?_
    intro x1 N1 hN1 hc
    refine iq_istore hS2 1012 J_law_d1010 (by decide) rfl ?_
    refine iq_aload_n hS2 1013 J_law_d1012 (lk_1r (lk_1r h2 (by decide)) (by decide)) rfl ?_
    refine iq_cpI hS2 1016 J_law_d1013 rfl (pr_inst (vs := []) lc_18_79 lT_268 rfl rfl (by decide) (by decide) rfl (Nat.le_of_ble_eq_true rfl) (Nat.le_of_ble_eq_true rfl) (fun _ => Or.inl (pr_b (ka_69 hN1) (by decide) rfl))) (f_M_thrown_ok (dep := dep + 29) hN1 (Q := fun x => x = im_i N1 69 0) ⟨_, rfl, rfl⟩) rfl ?_
    rintro _ rfl
    refine iq_iload hS2 1018 J_law_d1016 (lk_1i lk_1s (by decide)) rfl ?_
    refine iq_icmp_eq hS2 1021 J_law_d1018 (t := 1023) rfl (fun _ => ?_) rfl (fun q => absurd hc.1 q)
    refine iq_iload hS2 1025 J_law_d1023 (lk_1i lk_1s (by decide)) rfl ?_
    refine iq_if_ne hS2 1028 J_law_d1025 (t := 1040) rfl (fun qk => ?_) rfl (fun qk => ?_)
    · refine iq_goto hS2 J_law_d1040 (t := 1425) rfl ?_
      refine iq_iincv hS2 1428 J_law_d1425 (c := 5) (by decide +kernel) (lk_1i (lk_1i h4 (by decide)) (by decide)) (by decide) rfl ?_
      refine iq_goto hS2 J_law_d1428 (t := 23) rfl ?_
      exact hn t ht w2 N1 hN1 hc.2.2 _ (lw_L5 (lk_1r (lk_1r h0 (by decide)) (by decide)) (lk_1r (lk_1r h1 (by decide)) (by decide)) (lk_1r (lk_1r h2 (by decide)) (by decide)) (lk_1r (lk_1r h3 (by decide)) (by decide)) (nI_add i 5))
    · refine iq_aload_n hS2 1029 J_law_d1028 (lk_1r (lk_1r h3 (by decide)) (by decide)) rfl ?_
      refine iq_iconst hS2 1030 J_law_d1029 (v := 0) (by decide +kernel) rfl ?_
      refine iq_laload hS2 1031 J_law_d1030 ⟨(ka_138 hN1).1, (ka_138 hN1).2, by decide, ix_lt (kl_138 hN1) (by decide)⟩ rfl ?_
      refine iq_iload hS2 1033 J_law_d1031 lk_1s rfl ?_
      refine iq_i2l hS2 1034 J_law_d1033 rfl ?_
      refine iq_lcmp hS2 1035 J_law_d1034 rfl ?_
      refine iq_if_eq hS2 1038 J_law_d1035 (t := 1040) rfl (fun _ => ?_) rfl (fun q => absurd (lcq_ (hc.2.1 (Decidable.not_not.mp qk))) q)
      refine iq_goto hS2 J_law_d1040 (t := 1425) rfl ?_
      refine iq_iincv hS2 1428 J_law_d1425 (c := 5) (by decide +kernel) (lk_1i (lk_1i h4 (by decide)) (by decide)) (by decide) rfl ?_
      refine iq_goto hS2 J_law_d1428 (t := 23) rfl ?_
      exact hn t ht w2 N1 hN1 hc.2.2 _ (lw_L5 (lk_1r (lk_1r h0 (by decide)) (by decide)) (lk_1r (lk_1r h1 (by decide)) (by decide)) (lk_1r (lk_1r h2 (by decide)) (by decide)) (lk_1r (lk_1r h3 (by decide)) (by decide)) (nI_add i 5))
  · rw [if_neg qb] at hc
    refine iq_aload_n hS 936 J_law_d935 h1 rfl ?_
    refine iq_aload_n hS 937 J_law_d936 h0 rfl ?_
    refine iq_iload hS 939 J_law_d937 h4 rfl ?_
    refine iq_iconst hS 940 J_law_d939 (v := 1) (by decide +kernel) rfl ?_
    refine iq_iadd hS 941 J_law_d940 rfl ?_
    refine iq_scr hS 942 J_law_d941 hM.1 (i := i) (c := 1) (nI_add i 1) hL (by omega) rfl ?_
    refine iq_aload_n hS 943 J_law_d942 h0 rfl ?_
    refine iq_iload hS 945 J_law_d943 h4 rfl ?_
    refine iq_iconst hS 946 J_law_d945 (v := 2) (by decide +kernel) rfl ?_
    refine iq_iadd hS 947 J_law_d946 rfl ?_
    refine iq_scr hS 948 J_law_d947 hM.1 (i := i) (c := 2) (nI_add i 2) hL (by omega) rfl ?_
    refine iq_aload_n hS 949 J_law_d948 h0 rfl ?_
    refine iq_iload hS 951 J_law_d949 h4 rfl ?_
    refine iq_iconst hS 952 J_law_d951 (v := 3) (by decide +kernel) rfl ?_
    refine iq_iadd hS 953 J_law_d952 rfl ?_
    refine iq_scr hS 954 J_law_d953 hM.1 (i := i) (c := 3) (nI_add i 3) hL (by omega) rfl ?_
    refine iq_aload_n hS 955 J_law_d954 h0 rfl ?_
    refine iq_iload hS 957 J_law_d955 h4 rfl ?_
    refine iq_iconst hS 958 J_law_d957 (v := 4) (by decide +kernel) rfl ?_
    refine iq_iadd hS 959 J_law_d958 rfl ?_
    refine iq_scr hS 960 J_law_d959 hM.1 (i := i) (c := 4) (nI_add i 4) hL (by omega) rfl ?_
    refine iq_if_eq hS 963 J_law_d960 (t := 967) rfl (fun q => absurd q qb) rfl (fun _ => ?_)
    refine iq_iconst hS 964 J_law_d963 (v := 1) (by decide +kernel) rfl ?_
    refine iq_goto hS J_law_d964 (t := 968) rfl ?_
    refine iq_aload_n hS 969 J_law_d968 h3 rfl ?_
    obtain ⟨kk, M2, t, w2, hM2, ht, hix, hc⟩ := hc
    refine ix_callX (tb_GX L xs) 972 J_law_d969 (pr_X (vs := [_, _, _, _, _, _]) lX_140 rfl (by decide) rfl (Nat.le_of_ble_eq_true rfl) (Nat.le_of_ble_eq_true rfl)) hix rfl ?_
    rintro _ N9 t9 ⟨rfl, eN, et⟩
    rw [eN, et]
    have hS2 : im_St (tb_G L xs) (dep + 30) J_law (ix (tb_G L xs) tb_X (dep + 30) J_law [] (fun v2 M2 t2 => P v2 M2 (t + t2))) := ix_St (tb_GX L xs)
    refine iq_istore hS2 974 J_law_d972 (by decide) rfl ?_
    refine iq_aload_n hS2 975 J_law_d974 (lk_1r h2 (by decide)) rfl ?_
    refine iq_aload_n hS2 976 J_law_d975 (lk_1r h0 (by decide)) rfl ?_
    refine iq_iload hS2 978 J_law_d976 (lk_1i h4 (by decide)) rfl ?_
    refine iq_iconst hS2 979 J_law_d978 (v := 1) (by decide +kernel) rfl ?_
    refine iq_iadd hS2 980 J_law_d979 rfl ?_
    refine iq_scr hS2 981 J_law_d980 hM2.1 (i := i) (c := 1) (nI_add i 1) hL (by omega) rfl ?_
    refine iq_aload_n hS2 982 J_law_d981 (lk_1r h0 (by decide)) rfl ?_
    refine iq_iload hS2 984 J_law_d982 (lk_1i h4 (by decide)) rfl ?_
    refine iq_iconst hS2 985 J_law_d984 (v := 2) (by decide +kernel) rfl ?_
    refine iq_iadd hS2 986 J_law_d985 rfl ?_
    refine iq_scr hS2 987 J_law_d986 hM2.1 (i := i) (c := 2) (nI_add i 2) hL (by omega) rfl ?_
    refine iq_aload_n hS2 988 J_law_d987 (lk_1r h0 (by decide)) rfl ?_
    refine iq_iload hS2 990 J_law_d988 (lk_1i h4 (by decide)) rfl ?_
    refine iq_iconst hS2 991 J_law_d990 (v := 3) (by decide +kernel) rfl ?_
    refine iq_iadd hS2 992 J_law_d991 rfl ?_
    refine iq_scr hS2 993 J_law_d992 hM2.1 (i := i) (c := 3) (nI_add i 3) hL (by omega) rfl ?_
    refine iq_aload_n hS2 994 J_law_d993 (lk_1r h0 (by decide)) rfl ?_
    refine iq_iload hS2 996 J_law_d994 (lk_1i h4 (by decide)) rfl ?_
    refine iq_iconst hS2 997 J_law_d996 (v := 4) (by decide +kernel) rfl ?_
    refine iq_iadd hS2 998 J_law_d997 rfl ?_
    refine iq_scr hS2 999 J_law_d998 hM2.1 (i := i) (c := 4) (nI_add i 4) hL (by omega) rfl ?_
    refine iq_if_eq hS2 1002 J_law_d999 (t := 1006) rfl (fun q => absurd q qb) rfl (fun _ => ?_)
    refine iq_iconst hS2 1003 J_law_d1002 (v := 1) (by decide +kernel) rfl ?_
    refine iq_goto hS2 J_law_d1003 (t := 1007) rfl ?_
    refine iq_cwI hS2 1010 J_law_d1007 rfl (pr_inst (vs := [_, _, _, _]) lc_18_143 lT_458 rfl rfl (by decide) (by decide) rfl (Nat.le_of_ble_eq_true rfl) (Nat.le_of_ble_eq_true rfl) (fun _ => Or.inl (pr_b (ka_69 hM2) (by decide) rfl))) (f_M_run_ok (dep := dep + 25) hM2 hc) rfl ?_
    intro x1 N1 hN1 hc
    refine iq_istore hS2 1012 J_law_d1010 (by decide) rfl ?_
    refine iq_aload_n hS2 1013 J_law_d1012 (lk_1r (lk_1r h2 (by decide)) (by decide)) rfl ?_
    refine iq_cpI hS2 1016 J_law_d1013 rfl (pr_inst (vs := []) lc_18_79 lT_268 rfl rfl (by decide) (by decide) rfl (Nat.le_of_ble_eq_true rfl) (Nat.le_of_ble_eq_true rfl) (fun _ => Or.inl (pr_b (ka_69 hN1) (by decide) rfl))) (f_M_thrown_ok (dep := dep + 29) hN1 (Q := fun x => x = im_i N1 69 0) ⟨_, rfl, rfl⟩) rfl ?_
    rintro _ rfl
    refine iq_iload hS2 1018 J_law_d1016 (lk_1i lk_1s (by decide)) rfl ?_
    refine iq_icmp_eq hS2 1021 J_law_d1018 (t := 1023) rfl (fun _ => ?_) rfl (fun q => absurd hc.1 q)
    refine iq_iload hS2 1025 J_law_d1023 (lk_1i lk_1s (by decide)) rfl ?_
    refine iq_if_ne hS2 1028 J_law_d1025 (t := 1040) rfl (fun qk => ?_) rfl (fun qk => ?_)
    · refine iq_goto hS2 J_law_d1040 (t := 1425) rfl ?_
      refine iq_iincv hS2 1428 J_law_d1425 (c := 5) (by decide +kernel) (lk_1i (lk_1i h4 (by decide)) (by decide)) (by decide) rfl ?_
      refine iq_goto hS2 J_law_d1428 (t := 23) rfl ?_
      exact hn t ht w2 N1 hN1 hc.2.2 _ (lw_L5 (lk_1r (lk_1r h0 (by decide)) (by decide)) (lk_1r (lk_1r h1 (by decide)) (by decide)) (lk_1r (lk_1r h2 (by decide)) (by decide)) (lk_1r (lk_1r h3 (by decide)) (by decide)) (nI_add i 5))
    · refine iq_aload_n hS2 1029 J_law_d1028 (lk_1r (lk_1r h3 (by decide)) (by decide)) rfl ?_
      refine iq_iconst hS2 1030 J_law_d1029 (v := 0) (by decide +kernel) rfl ?_
      refine iq_laload hS2 1031 J_law_d1030 ⟨(ka_138 hN1).1, (ka_138 hN1).2, by decide, ix_lt (kl_138 hN1) (by decide)⟩ rfl ?_
      refine iq_iload hS2 1033 J_law_d1031 lk_1s rfl ?_
      refine iq_i2l hS2 1034 J_law_d1033 rfl ?_
      refine iq_lcmp hS2 1035 J_law_d1034 rfl ?_
      refine iq_if_eq hS2 1038 J_law_d1035 (t := 1040) rfl (fun _ => ?_) rfl (fun q => absurd (lcq_ (hc.2.1 (Decidable.not_not.mp qk))) q)
      refine iq_goto hS2 J_law_d1040 (t := 1425) rfl ?_
      refine iq_iincv hS2 1428 J_law_d1425 (c := 5) (by decide +kernel) (lk_1i (lk_1i h4 (by decide)) (by decide)) (by decide) rfl ?_
      refine iq_goto hS2 J_law_d1428 (t := 23) rfl ?_
      exact hn t ht w2 N1 hN1 hc.2.2 _ (lw_L5 (lk_1r (lk_1r h0 (by decide)) (by decide)) (lk_1r (lk_1r h1 (by decide)) (by decide)) (lk_1r (lk_1r h2 (by decide)) (by decide)) (lk_1r (lk_1r h3 (by decide)) (by decide)) (nI_add i 5))
theorem law_17 {L : Nat} {xs : Nat → Int32} {dep i : Nat} {w : Bool} {M : im_M} {P : Option Value → im_M → Nat → Prop} {K : Bool → im_M → Prop} (hL : L ≤ 2560) (hi : i + 5 ≤ L) (hM : lw_S w M) (hk : xs i &&& 31 = 17) (hc : lw_W L xs dep JW_scan JW_scan_h [.ref 0, .int (xs (i + 1)), .int (xs (i + 2)), .int (xs (i + 3)), .ref 138] M (fun w2 k M2 => ed (f_M_scan (xs (i + 1)) (xs (i + 2)) (xs (i + 3)) M2) (fun r => im_i r.2 69 0 = k ∧ (k = 0 → im_l r.2 138 0 = Int32.toInt64 r.1) ∧ K w2 r.2))) (hn : ∀ t, t ≤ 1 → ∀ w1 M1, lw_S w1 M1 → K w1 M1 → lw_H L xs dep (fun v2 M2 t2 => P v2 M2 (t + t2)) (i + 5) M1) : lw_H L xs dep P i M := by
  have hS : im_St (tb_G L xs) (dep + 30) J_law (ix (tb_G L xs) tb_X (dep + 30) J_law [] P) := ix_St (tb_GX L xs)
  intro Lc hl
  obtain ⟨h0, h1, h2, h3, h4⟩ := hl
  refine iq_iload hS 25 J_law_d23 h4 rfl ?_
  refine iq_aload_n hS 26 J_law_d25 h0 rfl ?_
  refine iq_xalen hS 27 J_law_d26 (by rw [hM.1]; decide) (Or.inl (by rw [xk_s])) rfl ?_
  rw [xk_s]
  refine iq_iconst hS 28 J_law_d27 (v := 5) (by decide +kernel) rfl ?_
  refine iq_isub hS 29 J_law_d28 rfl ?_
  refine iq_icmp_gt hS 32 J_law_d29 (t := 1431) rfl (fun q => absurd q (lw_go hL hi)) rfl (fun _ => ?_)
  refine iq_aload_n hS 33 J_law_d32 h0 rfl ?_
  refine iq_iload hS 35 J_law_d33 h4 rfl ?_
  refine iq_scr hS 36 J_law_d35 hM.1 (c := 0) rfl hL (by omega) rfl ?_
  refine iq_bipush hS 38 J_law_d36 (v := 31) (by decide +kernel) rfl ?_
  refine iq_iand hS 39 J_law_d38 rfl ?_
  refine iq_tsw hS J_law_d39 (t := 1043) (sw_v hk (by decide +kernel)) ?_
  refine iq_aload_n hS 1044 J_law_d1043 h1 rfl ?_
  refine iq_aload_n hS 1045 J_law_d1044 h0 rfl ?_
  refine iq_iload hS 1047 J_law_d1045 h4 rfl ?_
  refine iq_iconst hS 1048 J_law_d1047 (v := 1) (by decide +kernel) rfl ?_
  refine iq_iadd hS 1049 J_law_d1048 rfl ?_
  refine iq_scr hS 1050 J_law_d1049 hM.1 (i := i) (c := 1) (nI_add i 1) hL (by omega) rfl ?_
  refine iq_aload_n hS 1051 J_law_d1050 h0 rfl ?_
  refine iq_iload hS 1053 J_law_d1051 h4 rfl ?_
  refine iq_iconst hS 1054 J_law_d1053 (v := 2) (by decide +kernel) rfl ?_
  refine iq_iadd hS 1055 J_law_d1054 rfl ?_
  refine iq_scr hS 1056 J_law_d1055 hM.1 (i := i) (c := 2) (nI_add i 2) hL (by omega) rfl ?_
  refine iq_aload_n hS 1057 J_law_d1056 h0 rfl ?_
  refine iq_iload hS 1059 J_law_d1057 h4 rfl ?_
  refine iq_iconst hS 1060 J_law_d1059 (v := 3) (by decide +kernel) rfl ?_
  refine iq_iadd hS 1061 J_law_d1060 rfl ?_
  refine iq_scr hS 1062 J_law_d1061 hM.1 (i := i) (c := 3) (nI_add i 3) hL (by omega) rfl ?_
  refine iq_aload_n hS 1063 J_law_d1062 h3 rfl ?_
  obtain ⟨kk, M2, t, w2, hM2, ht, hix, hc⟩ := hc
  refine ix_callX (tb_GX L xs) 1066 J_law_d1063 (pr_X (vs := [_, _, _, _, _]) lX_144 rfl (by decide) rfl (Nat.le_of_ble_eq_true rfl) (Nat.le_of_ble_eq_true rfl)) hix rfl ?_
  rintro _ N9 t9 ⟨rfl, eN, et⟩
  rw [eN, et]
  have hS2 : im_St (tb_G L xs) (dep + 30) J_law (ix (tb_G L xs) tb_X (dep + 30) J_law [] (fun v2 M2 t2 => P v2 M2 (t + t2))) := ix_St (tb_GX L xs)
  refine iq_istore hS2 1068 J_law_d1066 (by decide) rfl ?_
  refine iq_aload_n hS2 1069 J_law_d1068 (lk_1r h2 (by decide)) rfl ?_
  refine iq_aload_n hS2 1070 J_law_d1069 (lk_1r h0 (by decide)) rfl ?_
  refine iq_iload hS2 1072 J_law_d1070 (lk_1i h4 (by decide)) rfl ?_
  refine iq_iconst hS2 1073 J_law_d1072 (v := 1) (by decide +kernel) rfl ?_
  refine iq_iadd hS2 1074 J_law_d1073 rfl ?_
  refine iq_scr hS2 1075 J_law_d1074 hM2.1 (i := i) (c := 1) (nI_add i 1) hL (by omega) rfl ?_
  refine iq_aload_n hS2 1076 J_law_d1075 (lk_1r h0 (by decide)) rfl ?_
  refine iq_iload hS2 1078 J_law_d1076 (lk_1i h4 (by decide)) rfl ?_
  refine iq_iconst hS2 1079 J_law_d1078 (v := 2) (by decide +kernel) rfl ?_
  refine iq_iadd hS2 1080 J_law_d1079 rfl ?_
  refine iq_scr hS2 1081 J_law_d1080 hM2.1 (i := i) (c := 2) (nI_add i 2) hL (by omega) rfl ?_
  refine iq_aload_n hS2 1082 J_law_d1081 (lk_1r h0 (by decide)) rfl ?_
  refine iq_iload hS2 1084 J_law_d1082 (lk_1i h4 (by decide)) rfl ?_
  refine iq_iconst hS2 1085 J_law_d1084 (v := 3) (by decide +kernel) rfl ?_
  refine iq_iadd hS2 1086 J_law_d1085 rfl ?_
  refine iq_scr hS2 1087 J_law_d1086 hM2.1 (i := i) (c := 3) (nI_add i 3) hL (by omega) rfl ?_
  refine iq_cwI hS2 1090 J_law_d1087 rfl (pr_inst (vs := [_, _, _]) lc_18_147 lT_460 rfl rfl (by decide) (by decide) rfl (Nat.le_of_ble_eq_true rfl) (Nat.le_of_ble_eq_true rfl) (fun _ => Or.inl (pr_b (ka_69 hM2) (by decide) rfl))) (f_M_scan_ok (dep := dep + 24) hM2 hc) rfl ?_
  intro x1 N1 hN1 hc
  refine iq_istore hS2 1092 J_law_d1090 (by decide) rfl ?_
  refine iq_aload_n hS2 1093 J_law_d1092 (lk_1r (lk_1r h2 (by decide)) (by decide)) rfl ?_
  refine iq_cpI hS2 1096 J_law_d1093 rfl (pr_inst (vs := []) lc_18_79 lT_268 rfl rfl (by decide) (by decide) rfl (Nat.le_of_ble_eq_true rfl) (Nat.le_of_ble_eq_true rfl) (fun _ => Or.inl (pr_b (ka_69 hN1) (by decide) rfl))) (f_M_thrown_ok (dep := dep + 29) hN1 (Q := fun x => x = im_i N1 69 0) ⟨_, rfl, rfl⟩) rfl ?_
  rintro _ rfl
  refine iq_iload hS2 1098 J_law_d1096 (lk_1i lk_1s (by decide)) rfl ?_
  refine iq_icmp_eq hS2 1101 J_law_d1098 (t := 1103) rfl (fun _ => ?_) rfl (fun q => absurd hc.1 q)
  refine iq_iload hS2 1105 J_law_d1103 (lk_1i lk_1s (by decide)) rfl ?_
  refine iq_if_ne hS2 1108 J_law_d1105 (t := 1120) rfl (fun qk => ?_) rfl (fun qk => ?_)
  · refine iq_goto hS2 J_law_d1120 (t := 1425) rfl ?_
    refine iq_iincv hS2 1428 J_law_d1425 (c := 5) (by decide +kernel) (lk_1i (lk_1i h4 (by decide)) (by decide)) (by decide) rfl ?_
    refine iq_goto hS2 J_law_d1428 (t := 23) rfl ?_
    exact hn t ht w2 N1 hN1 hc.2.2 _ (lw_L5 (lk_1r (lk_1r h0 (by decide)) (by decide)) (lk_1r (lk_1r h1 (by decide)) (by decide)) (lk_1r (lk_1r h2 (by decide)) (by decide)) (lk_1r (lk_1r h3 (by decide)) (by decide)) (nI_add i 5))
  · refine iq_aload_n hS2 1109 J_law_d1108 (lk_1r (lk_1r h3 (by decide)) (by decide)) rfl ?_
    refine iq_iconst hS2 1110 J_law_d1109 (v := 0) (by decide +kernel) rfl ?_
    refine iq_laload hS2 1111 J_law_d1110 ⟨(ka_138 hN1).1, (ka_138 hN1).2, by decide, ix_lt (kl_138 hN1) (by decide)⟩ rfl ?_
    refine iq_iload hS2 1113 J_law_d1111 lk_1s rfl ?_
    refine iq_i2l hS2 1114 J_law_d1113 rfl ?_
    refine iq_lcmp hS2 1115 J_law_d1114 rfl ?_
    refine iq_if_eq hS2 1118 J_law_d1115 (t := 1120) rfl (fun _ => ?_) rfl (fun q => absurd (lcq_ (hc.2.1 (Decidable.not_not.mp qk))) q)
    refine iq_goto hS2 J_law_d1120 (t := 1425) rfl ?_
    refine iq_iincv hS2 1428 J_law_d1425 (c := 5) (by decide +kernel) (lk_1i (lk_1i h4 (by decide)) (by decide)) (by decide) rfl ?_
    refine iq_goto hS2 J_law_d1428 (t := 23) rfl ?_
    exact hn t ht w2 N1 hN1 hc.2.2 _ (lw_L5 (lk_1r (lk_1r h0 (by decide)) (by decide)) (lk_1r (lk_1r h1 (by decide)) (by decide)) (lk_1r (lk_1r h2 (by decide)) (by decide)) (lk_1r (lk_1r h3 (by decide)) (by decide)) (nI_add i 5))
theorem law_18 {L : Nat} {xs : Nat → Int32} {dep i : Nat} {w : Bool} {M : im_M} {P : Option Value → im_M → Nat → Prop} {K : Bool → im_M → Prop} (hL : L ≤ 2560) (hi : i + 5 ≤ L) (hM : lw_S w M) (hk : xs i &&& 31 = 18) (hc : lw_W L xs dep JW_found JW_found_h [.ref 0, .int (xs (i + 1)), .int (xs (i + 2)), .ref 138] M (fun w2 k M2 => ed (f_M_found (xs (i + 1)) (xs (i + 2)) M2) (fun r => im_i r.2 69 0 = k ∧ (k = 0 → im_l r.2 138 0 = Int32.toInt64 r.1) ∧ K w2 r.2))) (hn : ∀ t, t ≤ 1 → ∀ w1 M1, lw_S w1 M1 → K w1 M1 → lw_H L xs dep (fun v2 M2 t2 => P v2 M2 (t + t2)) (i + 5) M1) : lw_H L xs dep P i M := by
  have hS : im_St (tb_G L xs) (dep + 30) J_law (ix (tb_G L xs) tb_X (dep + 30) J_law [] P) := ix_St (tb_GX L xs)
  intro Lc hl
  obtain ⟨h0, h1, h2, h3, h4⟩ := hl
  refine iq_iload hS 25 J_law_d23 h4 rfl ?_
  refine iq_aload_n hS 26 J_law_d25 h0 rfl ?_
  refine iq_xalen hS 27 J_law_d26 (by rw [hM.1]; decide) (Or.inl (by rw [xk_s])) rfl ?_
  rw [xk_s]
  refine iq_iconst hS 28 J_law_d27 (v := 5) (by decide +kernel) rfl ?_
  refine iq_isub hS 29 J_law_d28 rfl ?_
  refine iq_icmp_gt hS 32 J_law_d29 (t := 1431) rfl (fun q => absurd q (lw_go hL hi)) rfl (fun _ => ?_)
  refine iq_aload_n hS 33 J_law_d32 h0 rfl ?_
  refine iq_iload hS 35 J_law_d33 h4 rfl ?_
  refine iq_scr hS 36 J_law_d35 hM.1 (c := 0) rfl hL (by omega) rfl ?_
  refine iq_bipush hS 38 J_law_d36 (v := 31) (by decide +kernel) rfl ?_
  refine iq_iand hS 39 J_law_d38 rfl ?_
  refine iq_tsw hS J_law_d39 (t := 1123) (sw_v hk (by decide +kernel)) ?_
  refine iq_aload_n hS 1124 J_law_d1123 h1 rfl ?_
  refine iq_aload_n hS 1125 J_law_d1124 h0 rfl ?_
  refine iq_iload hS 1127 J_law_d1125 h4 rfl ?_
  refine iq_iconst hS 1128 J_law_d1127 (v := 1) (by decide +kernel) rfl ?_
  refine iq_iadd hS 1129 J_law_d1128 rfl ?_
  refine iq_scr hS 1130 J_law_d1129 hM.1 (i := i) (c := 1) (nI_add i 1) hL (by omega) rfl ?_
  refine iq_aload_n hS 1131 J_law_d1130 h0 rfl ?_
  refine iq_iload hS 1133 J_law_d1131 h4 rfl ?_
  refine iq_iconst hS 1134 J_law_d1133 (v := 2) (by decide +kernel) rfl ?_
  refine iq_iadd hS 1135 J_law_d1134 rfl ?_
  refine iq_scr hS 1136 J_law_d1135 hM.1 (i := i) (c := 2) (nI_add i 2) hL (by omega) rfl ?_
  refine iq_aload_n hS 1137 J_law_d1136 h3 rfl ?_
  obtain ⟨kk, M2, t, w2, hM2, ht, hix, hc⟩ := hc
  refine ix_callX (tb_GX L xs) 1140 J_law_d1137 (pr_X (vs := [_, _, _, _]) lX_148 rfl (by decide) rfl (Nat.le_of_ble_eq_true rfl) (Nat.le_of_ble_eq_true rfl)) hix rfl ?_
  rintro _ N9 t9 ⟨rfl, eN, et⟩
  rw [eN, et]
  have hS2 : im_St (tb_G L xs) (dep + 30) J_law (ix (tb_G L xs) tb_X (dep + 30) J_law [] (fun v2 M2 t2 => P v2 M2 (t + t2))) := ix_St (tb_GX L xs)
  refine iq_istore hS2 1142 J_law_d1140 (by decide) rfl ?_
  refine iq_aload_n hS2 1143 J_law_d1142 (lk_1r h2 (by decide)) rfl ?_
  refine iq_aload_n hS2 1144 J_law_d1143 (lk_1r h0 (by decide)) rfl ?_
  refine iq_iload hS2 1146 J_law_d1144 (lk_1i h4 (by decide)) rfl ?_
  refine iq_iconst hS2 1147 J_law_d1146 (v := 1) (by decide +kernel) rfl ?_
  refine iq_iadd hS2 1148 J_law_d1147 rfl ?_
  refine iq_scr hS2 1149 J_law_d1148 hM2.1 (i := i) (c := 1) (nI_add i 1) hL (by omega) rfl ?_
  refine iq_aload_n hS2 1150 J_law_d1149 (lk_1r h0 (by decide)) rfl ?_
  refine iq_iload hS2 1152 J_law_d1150 (lk_1i h4 (by decide)) rfl ?_
  refine iq_iconst hS2 1153 J_law_d1152 (v := 2) (by decide +kernel) rfl ?_
  refine iq_iadd hS2 1154 J_law_d1153 rfl ?_
  refine iq_scr hS2 1155 J_law_d1154 hM2.1 (i := i) (c := 2) (nI_add i 2) hL (by omega) rfl ?_
  refine iq_cwI hS2 1158 J_law_d1155 rfl (pr_inst (vs := [_, _]) lc_18_150 lT_481 rfl rfl (by decide) (by decide) rfl (Nat.le_of_ble_eq_true rfl) (Nat.le_of_ble_eq_true rfl) (fun _ => Or.inl (pr_b (ka_69 hM2) (by decide) rfl))) (f_M_found_ok (dep := dep + 28) hM2 hc) rfl ?_
  intro x1 N1 hN1 hc
  refine iq_istore hS2 1160 J_law_d1158 (by decide) rfl ?_
  refine iq_aload_n hS2 1161 J_law_d1160 (lk_1r (lk_1r h2 (by decide)) (by decide)) rfl ?_
  refine iq_cpI hS2 1164 J_law_d1161 rfl (pr_inst (vs := []) lc_18_79 lT_268 rfl rfl (by decide) (by decide) rfl (Nat.le_of_ble_eq_true rfl) (Nat.le_of_ble_eq_true rfl) (fun _ => Or.inl (pr_b (ka_69 hN1) (by decide) rfl))) (f_M_thrown_ok (dep := dep + 29) hN1 (Q := fun x => x = im_i N1 69 0) ⟨_, rfl, rfl⟩) rfl ?_
  rintro _ rfl
  refine iq_iload hS2 1166 J_law_d1164 (lk_1i lk_1s (by decide)) rfl ?_
  refine iq_icmp_eq hS2 1169 J_law_d1166 (t := 1171) rfl (fun _ => ?_) rfl (fun q => absurd hc.1 q)
  refine iq_iload hS2 1173 J_law_d1171 (lk_1i lk_1s (by decide)) rfl ?_
  refine iq_if_ne hS2 1176 J_law_d1173 (t := 1188) rfl (fun qk => ?_) rfl (fun qk => ?_)
  · refine iq_goto hS2 J_law_d1188 (t := 1425) rfl ?_
    refine iq_iincv hS2 1428 J_law_d1425 (c := 5) (by decide +kernel) (lk_1i (lk_1i h4 (by decide)) (by decide)) (by decide) rfl ?_
    refine iq_goto hS2 J_law_d1428 (t := 23) rfl ?_
    exact hn t ht w2 N1 hN1 hc.2.2 _ (lw_L5 (lk_1r (lk_1r h0 (by decide)) (by decide)) (lk_1r (lk_1r h1 (by decide)) (by decide)) (lk_1r (lk_1r h2 (by decide)) (by decide)) (lk_1r (lk_1r h3 (by decide)) (by decide)) (nI_add i 5))
  · refine iq_aload_n hS2 1177 J_law_d1176 (lk_1r (lk_1r h3 (by decide)) (by decide)) rfl ?_
    refine iq_iconst hS2 1178 J_law_d1177 (v := 0) (by decide +kernel) rfl ?_
    refine iq_laload hS2 1179 J_law_d1178 ⟨(ka_138 hN1).1, (ka_138 hN1).2, by decide, ix_lt (kl_138 hN1) (by decide)⟩ rfl ?_
    refine iq_iload hS2 1181 J_law_d1179 lk_1s rfl ?_
    refine iq_i2l hS2 1182 J_law_d1181 rfl ?_
    refine iq_lcmp hS2 1183 J_law_d1182 rfl ?_
    refine iq_if_eq hS2 1186 J_law_d1183 (t := 1188) rfl (fun _ => ?_) rfl (fun q => absurd (lcq_ (hc.2.1 (Decidable.not_not.mp qk))) q)
    refine iq_goto hS2 J_law_d1188 (t := 1425) rfl ?_
    refine iq_iincv hS2 1428 J_law_d1425 (c := 5) (by decide +kernel) (lk_1i (lk_1i h4 (by decide)) (by decide)) (by decide) rfl ?_
    refine iq_goto hS2 J_law_d1428 (t := 23) rfl ?_
    exact hn t ht w2 N1 hN1 hc.2.2 _ (lw_L5 (lk_1r (lk_1r h0 (by decide)) (by decide)) (lk_1r (lk_1r h1 (by decide)) (by decide)) (lk_1r (lk_1r h2 (by decide)) (by decide)) (lk_1r (lk_1r h3 (by decide)) (by decide)) (nI_add i 5))
theorem law_19 {L : Nat} {xs : Nat → Int32} {dep i : Nat} {w : Bool} {M : im_M} {P : Option Value → im_M → Nat → Prop} {K : Bool → im_M → Prop} (hL : L ≤ 2560) (hi : i + 5 ≤ L) (hM : lw_S w M) (hk : xs i &&& 31 = 19) (hc : lw_W L xs dep JW_decode JW_decode_h [.ref 0, .int (xs (i + 1)), .ref 138] M (fun w2 k M2 => ed (f_M_decode (xs (i + 1)) M2) (fun r => im_i r.2 69 0 = k ∧ (k = 0 → im_l r.2 138 0 = Int32.toInt64 r.1) ∧ K w2 r.2))) (hn : ∀ t, t ≤ 1 → ∀ w1 M1, lw_S w1 M1 → K w1 M1 → lw_H L xs dep (fun v2 M2 t2 => P v2 M2 (t + t2)) (i + 5) M1) : lw_H L xs dep P i M := by
  have hS : im_St (tb_G L xs) (dep + 30) J_law (ix (tb_G L xs) tb_X (dep + 30) J_law [] P) := ix_St (tb_GX L xs)
  intro Lc hl
  obtain ⟨h0, h1, h2, h3, h4⟩ := hl
  refine iq_iload hS 25 J_law_d23 h4 rfl ?_
  refine iq_aload_n hS 26 J_law_d25 h0 rfl ?_
  refine iq_xalen hS 27 J_law_d26 (by rw [hM.1]; decide) (Or.inl (by rw [xk_s])) rfl ?_
  rw [xk_s]
  refine iq_iconst hS 28 J_law_d27 (v := 5) (by decide +kernel) rfl ?_
  refine iq_isub hS 29 J_law_d28 rfl ?_
  refine iq_icmp_gt hS 32 J_law_d29 (t := 1431) rfl (fun q => absurd q (lw_go hL hi)) rfl (fun _ => ?_)
  refine iq_aload_n hS 33 J_law_d32 h0 rfl ?_
  refine iq_iload hS 35 J_law_d33 h4 rfl ?_
  refine iq_scr hS 36 J_law_d35 hM.1 (c := 0) rfl hL (by omega) rfl ?_
  refine iq_bipush hS 38 J_law_d36 (v := 31) (by decide +kernel) rfl ?_
  refine iq_iand hS 39 J_law_d38 rfl ?_
  refine iq_tsw hS J_law_d39 (t := 1191) (sw_v hk (by decide +kernel)) ?_
  refine iq_aload_n hS 1192 J_law_d1191 h1 rfl ?_
  refine iq_aload_n hS 1193 J_law_d1192 h0 rfl ?_
  refine iq_iload hS 1195 J_law_d1193 h4 rfl ?_
  refine iq_iconst hS 1196 J_law_d1195 (v := 1) (by decide +kernel) rfl ?_
  refine iq_iadd hS 1197 J_law_d1196 rfl ?_
  refine iq_scr hS 1198 J_law_d1197 hM.1 (i := i) (c := 1) (nI_add i 1) hL (by omega) rfl ?_
  refine iq_aload_n hS 1199 J_law_d1198 h3 rfl ?_
  obtain ⟨kk, M2, t, w2, hM2, ht, hix, hc⟩ := hc
  refine ix_callX (tb_GX L xs) 1202 J_law_d1199 (pr_X (vs := [_, _, _]) lX_151 rfl (by decide) rfl (Nat.le_of_ble_eq_true rfl) (Nat.le_of_ble_eq_true rfl)) hix rfl ?_
  rintro _ N9 t9 ⟨rfl, eN, et⟩
  rw [eN, et]
  have hS2 : im_St (tb_G L xs) (dep + 30) J_law (ix (tb_G L xs) tb_X (dep + 30) J_law [] (fun v2 M2 t2 => P v2 M2 (t + t2))) := ix_St (tb_GX L xs)
  refine iq_istore hS2 1204 J_law_d1202 (by decide) rfl ?_
  refine iq_aload_n hS2 1205 J_law_d1204 (lk_1r h2 (by decide)) rfl ?_
  refine iq_aload_n hS2 1206 J_law_d1205 (lk_1r h0 (by decide)) rfl ?_
  refine iq_iload hS2 1208 J_law_d1206 (lk_1i h4 (by decide)) rfl ?_
  refine iq_iconst hS2 1209 J_law_d1208 (v := 1) (by decide +kernel) rfl ?_
  refine iq_iadd hS2 1210 J_law_d1209 rfl ?_
  refine iq_scr hS2 1211 J_law_d1210 hM2.1 (i := i) (c := 1) (nI_add i 1) hL (by omega) rfl ?_
  refine iq_cwI hS2 1214 J_law_d1211 rfl (pr_inst (vs := [_]) lc_18_153 lT_483 rfl rfl (by decide) (by decide) rfl (Nat.le_of_ble_eq_true rfl) (Nat.le_of_ble_eq_true rfl) (fun _ => Or.inl (pr_b (ka_69 hM2) (by decide) rfl))) (f_M_decode_ok (dep := dep + 22) hM2 hc) rfl ?_
  intro x1 N1 hN1 hc
  refine iq_istore hS2 1216 J_law_d1214 (by decide) rfl ?_
  refine iq_aload_n hS2 1217 J_law_d1216 (lk_1r (lk_1r h2 (by decide)) (by decide)) rfl ?_
  refine iq_cpI hS2 1220 J_law_d1217 rfl (pr_inst (vs := []) lc_18_79 lT_268 rfl rfl (by decide) (by decide) rfl (Nat.le_of_ble_eq_true rfl) (Nat.le_of_ble_eq_true rfl) (fun _ => Or.inl (pr_b (ka_69 hN1) (by decide) rfl))) (f_M_thrown_ok (dep := dep + 29) hN1 (Q := fun x => x = im_i N1 69 0) ⟨_, rfl, rfl⟩) rfl ?_
  rintro _ rfl
  refine iq_iload hS2 1222 J_law_d1220 (lk_1i lk_1s (by decide)) rfl ?_
  refine iq_icmp_eq hS2 1225 J_law_d1222 (t := 1227) rfl (fun _ => ?_) rfl (fun q => absurd hc.1 q)
  refine iq_iload hS2 1229 J_law_d1227 (lk_1i lk_1s (by decide)) rfl ?_
  refine iq_if_ne hS2 1232 J_law_d1229 (t := 1244) rfl (fun qk => ?_) rfl (fun qk => ?_)
  · refine iq_goto hS2 J_law_d1244 (t := 1425) rfl ?_
    refine iq_iincv hS2 1428 J_law_d1425 (c := 5) (by decide +kernel) (lk_1i (lk_1i h4 (by decide)) (by decide)) (by decide) rfl ?_
    refine iq_goto hS2 J_law_d1428 (t := 23) rfl ?_
    exact hn t ht w2 N1 hN1 hc.2.2 _ (lw_L5 (lk_1r (lk_1r h0 (by decide)) (by decide)) (lk_1r (lk_1r h1 (by decide)) (by decide)) (lk_1r (lk_1r h2 (by decide)) (by decide)) (lk_1r (lk_1r h3 (by decide)) (by decide)) (nI_add i 5))
  · refine iq_aload_n hS2 1233 J_law_d1232 (lk_1r (lk_1r h3 (by decide)) (by decide)) rfl ?_
    refine iq_iconst hS2 1234 J_law_d1233 (v := 0) (by decide +kernel) rfl ?_
    refine iq_laload hS2 1235 J_law_d1234 ⟨(ka_138 hN1).1, (ka_138 hN1).2, by decide, ix_lt (kl_138 hN1) (by decide)⟩ rfl ?_
    refine iq_iload hS2 1237 J_law_d1235 lk_1s rfl ?_
    refine iq_i2l hS2 1238 J_law_d1237 rfl ?_
    refine iq_lcmp hS2 1239 J_law_d1238 rfl ?_
    refine iq_if_eq hS2 1242 J_law_d1239 (t := 1244) rfl (fun _ => ?_) rfl (fun q => absurd (lcq_ (hc.2.1 (Decidable.not_not.mp qk))) q)
    refine iq_goto hS2 J_law_d1244 (t := 1425) rfl ?_
    refine iq_iincv hS2 1428 J_law_d1425 (c := 5) (by decide +kernel) (lk_1i (lk_1i h4 (by decide)) (by decide)) (by decide) rfl ?_
    refine iq_goto hS2 J_law_d1428 (t := 23) rfl ?_
    exact hn t ht w2 N1 hN1 hc.2.2 _ (lw_L5 (lk_1r (lk_1r h0 (by decide)) (by decide)) (lk_1r (lk_1r h1 (by decide)) (by decide)) (lk_1r (lk_1r h2 (by decide)) (by decide)) (lk_1r (lk_1r h3 (by decide)) (by decide)) (nI_add i 5))
theorem law_20 {L : Nat} {xs : Nat → Int32} {dep i : Nat} {w : Bool} {M : im_M} {P : Option Value → im_M → Nat → Prop} {K : Bool → im_M → Prop} (hL : L ≤ 2560) (hi : i + 5 ≤ L) (hM : lw_S w M) (hk : xs i &&& 31 = 20) (hc : lw_W L xs dep JW_bars JW_bars_h [.ref 0, .int (xs (i + 1)), .int (xs (i + 2)), .int (if (xs (i + 3)) = 0 then 0 else 1), .ref 138] M (fun w2 k M2 => ed (f_M_bars (xs (i + 1)) (xs (i + 2)) (if (xs (i + 3)) = 0 then 0 else 1) M2) (fun r => im_i r.2 69 0 = k ∧ (k = 0 → im_l r.2 138 0 = Int32.toInt64 r.1) ∧ K w2 r.2))) (hn : ∀ t, t ≤ 1 → ∀ w1 M1, lw_S w1 M1 → K w1 M1 → lw_H L xs dep (fun v2 M2 t2 => P v2 M2 (t + t2)) (i + 5) M1) : lw_H L xs dep P i M := by
  have hS : im_St (tb_G L xs) (dep + 30) J_law (ix (tb_G L xs) tb_X (dep + 30) J_law [] P) := ix_St (tb_GX L xs)
  intro Lc hl
  obtain ⟨h0, h1, h2, h3, h4⟩ := hl
  refine iq_iload hS 25 J_law_d23 h4 rfl ?_
  refine iq_aload_n hS 26 J_law_d25 h0 rfl ?_
  refine iq_xalen hS 27 J_law_d26 (by rw [hM.1]; decide) (Or.inl (by rw [xk_s])) rfl ?_
  rw [xk_s]
  refine iq_iconst hS 28 J_law_d27 (v := 5) (by decide +kernel) rfl ?_
  refine iq_isub hS 29 J_law_d28 rfl ?_
  refine iq_icmp_gt hS 32 J_law_d29 (t := 1431) rfl (fun q => absurd q (lw_go hL hi)) rfl (fun _ => ?_)
  refine iq_aload_n hS 33 J_law_d32 h0 rfl ?_
  refine iq_iload hS 35 J_law_d33 h4 rfl ?_
  refine iq_scr hS 36 J_law_d35 hM.1 (c := 0) rfl hL (by omega) rfl ?_
  refine iq_bipush hS 38 J_law_d36 (v := 31) (by decide +kernel) rfl ?_
  refine iq_iand hS 39 J_law_d38 rfl ?_
  refine iq_tsw hS J_law_d39 (t := 1247) (sw_v hk (by decide +kernel)) ?_
  by_cases qb : (xs (i + 3)) = 0
  · rw [if_pos qb] at hc
    refine iq_aload_n hS 1248 J_law_d1247 h1 rfl ?_
    refine iq_aload_n hS 1249 J_law_d1248 h0 rfl ?_
    refine iq_iload hS 1251 J_law_d1249 h4 rfl ?_
    refine iq_iconst hS 1252 J_law_d1251 (v := 1) (by decide +kernel) rfl ?_
    refine iq_iadd hS 1253 J_law_d1252 rfl ?_
    refine iq_scr hS 1254 J_law_d1253 hM.1 (i := i) (c := 1) (nI_add i 1) hL (by omega) rfl ?_
    refine iq_aload_n hS 1255 J_law_d1254 h0 rfl ?_
    refine iq_iload hS 1257 J_law_d1255 h4 rfl ?_
    refine iq_iconst hS 1258 J_law_d1257 (v := 2) (by decide +kernel) rfl ?_
    refine iq_iadd hS 1259 J_law_d1258 rfl ?_
    refine iq_scr hS 1260 J_law_d1259 hM.1 (i := i) (c := 2) (nI_add i 2) hL (by omega) rfl ?_
    refine iq_aload_n hS 1261 J_law_d1260 h0 rfl ?_
    refine iq_iload hS 1263 J_law_d1261 h4 rfl ?_
    refine iq_iconst hS 1264 J_law_d1263 (v := 3) (by decide +kernel) rfl ?_
    refine iq_iadd hS 1265 J_law_d1264 rfl ?_
    refine iq_scr hS 1266 J_law_d1265 hM.1 (i := i) (c := 3) (nI_add i 3) hL (by omega) rfl ?_
    refine iq_if_eq hS 1269 J_law_d1266 (t := 1273) rfl (fun _ => ?_) rfl (fun q => absurd qb q)
    refine iq_iconst hS 1274 J_law_d1273 (v := 0) (by decide +kernel) rfl ?_
    refine iq_aload_n hS 1275 J_law_d1274 h3 rfl ?_
    obtain ⟨kk, M2, t, w2, hM2, ht, hix, hc⟩ := hc
    refine ix_callX (tb_GX L xs) 1278 J_law_d1275 (pr_X (vs := [_, _, _, _, _]) lX_154 rfl (by decide) rfl (Nat.le_of_ble_eq_true rfl) (Nat.le_of_ble_eq_true rfl)) hix rfl ?_
    rintro _ N9 t9 ⟨rfl, eN, et⟩
    rw [eN, et]
    have hS2 : im_St (tb_G L xs) (dep + 30) J_law (ix (tb_G L xs) tb_X (dep + 30) J_law [] (fun v2 M2 t2 => P v2 M2 (t + t2))) := ix_St (tb_GX L xs)
    refine iq_istore hS2 1280 J_law_d1278 (by decide) rfl ?_
    refine iq_aload_n hS2 1281 J_law_d1280 (lk_1r h2 (by decide)) rfl ?_
    refine iq_aload_n hS2 1282 J_law_d1281 (lk_1r h0 (by decide)) rfl ?_
    refine iq_iload hS2 1284 J_law_d1282 (lk_1i h4 (by decide)) rfl ?_
    refine iq_iconst hS2 1285 J_law_d1284 (v := 1) (by decide +kernel) rfl ?_
    refine iq_iadd hS2 1286 J_law_d1285 rfl ?_
    refine iq_scr hS2 1287 J_law_d1286 hM2.1 (i := i) (c := 1) (nI_add i 1) hL (by omega) rfl ?_
    refine iq_aload_n hS2 1288 J_law_d1287 (lk_1r h0 (by decide)) rfl ?_
    refine iq_iload hS2 1290 J_law_d1288 (lk_1i h4 (by decide)) rfl ?_
    refine iq_iconst hS2 1291 J_law_d1290 (v := 2) (by decide +kernel) rfl ?_
    refine iq_iadd hS2 1292 J_law_d1291 rfl ?_
    refine iq_scr hS2 1293 J_law_d1292 hM2.1 (i := i) (c := 2) (nI_add i 2) hL (by omega) rfl ?_
    refine iq_aload_n hS2 1294 J_law_d1293 (lk_1r h0 (by decide)) rfl ?_
    refine iq_iload hS2 1296 J_law_d1294 (lk_1i h4 (by decide)) rfl ?_
    refine iq_iconst hS2 1297 J_law_d1296 (v := 3) (by decide +kernel) rfl ?_
    refine iq_iadd hS2 1298 J_law_d1297 rfl ?_
    refine iq_scr hS2 1299 J_law_d1298 hM2.1 (i := i) (c := 3) (nI_add i 3) hL (by omega) rfl ?_
    refine iq_if_eq hS2 1302 J_law_d1299 (t := 1306) rfl (fun _ => ?_) rfl (fun q => absurd qb q)
    refine iq_iconst hS2 1307 J_law_d1306 (v := 0) (by decide +kernel) rfl ?_
    refine iq_cwI hS2 1310 J_law_d1307 rfl (pr_inst (vs := [_, _, _]) lc_18_157 lT_506 rfl rfl (by decide) (by decide) rfl (Nat.le_of_ble_eq_true rfl) (Nat.le_of_ble_eq_true rfl) (fun _ => Or.inl (pr_b (ka_69 hM2) (by decide) rfl))) (f_M_bars_ok (dep := dep + 25) hM2 hc) rfl ?_
    intro x1 N1 hN1 hc
    refine iq_istore hS2 1312 J_law_d1310 (by decide) rfl ?_
    refine iq_aload_n hS2 1313 J_law_d1312 (lk_1r (lk_1r h2 (by decide)) (by decide)) rfl ?_
    refine iq_cpI hS2 1316 J_law_d1313 rfl (pr_inst (vs := []) lc_18_79 lT_268 rfl rfl (by decide) (by decide) rfl (Nat.le_of_ble_eq_true rfl) (Nat.le_of_ble_eq_true rfl) (fun _ => Or.inl (pr_b (ka_69 hN1) (by decide) rfl))) (f_M_thrown_ok (dep := dep + 29) hN1 (Q := fun x => x = im_i N1 69 0) ⟨_, rfl, rfl⟩) rfl ?_
    rintro _ rfl
    refine iq_iload hS2 1318 J_law_d1316 (lk_1i lk_1s (by decide)) rfl ?_
    refine iq_icmp_eq hS2 1321 J_law_d1318 (t := 1323) rfl (fun _ => ?_) rfl (fun q => absurd hc.1 q)
    refine iq_iload hS2 1325 J_law_d1323 (lk_1i lk_1s (by decide)) rfl ?_
    refine iq_if_ne hS2 1328 J_law_d1325 (t := 1340) rfl (fun qk => ?_) rfl (fun qk => ?_)
    · refine iq_goto hS2 J_law_d1340 (t := 1425) rfl ?_
      refine iq_iincv hS2 1428 J_law_d1425 (c := 5) (by decide +kernel) (lk_1i (lk_1i h4 (by decide)) (by decide)) (by decide) rfl ?_
      refine iq_goto hS2 J_law_d1428 (t := 23) rfl ?_
      exact hn t ht w2 N1 hN1 hc.2.2 _ (lw_L5 (lk_1r (lk_1r h0 (by decide)) (by decide)) (lk_1r (lk_1r h1 (by decide)) (by decide)) (lk_1r (lk_1r h2 (by decide)) (by decide)) (lk_1r (lk_1r h3 (by decide)) (by decide)) (nI_add i 5))
    · refine iq_aload_n hS2 1329 J_law_d1328 (lk_1r (lk_1r h3 (by decide)) (by decide)) rfl ?_
      refine iq_iconst hS2 1330 J_law_d1329 (v := 0) (by decide +kernel) rfl ?_
      refine iq_laload hS2 1331 J_law_d1330 ⟨(ka_138 hN1).1, (ka_138 hN1).2, by decide, ix_lt (kl_138 hN1) (by decide)⟩ rfl ?_
      refine iq_iload hS2 1333 J_law_d1331 lk_1s rfl ?_
      refine iq_i2l hS2 1334 J_law_d1333 rfl ?_
      refine iq_lcmp hS2 1335 J_law_d1334 rfl ?_
      refine iq_if_eq hS2 1338 J_law_d1335 (t := 1340) rfl (fun _ => ?_) rfl (fun q => absurd (lcq_ (hc.2.1 (Decidable.not_not.mp qk))) q)
      refine iq_goto hS2 J_law_d1340 (t := 1425) rfl ?_
      refine iq_iincv hS2 1428 J_law_d1425 (c := 5) (by decide +kernel) (lk_1i (lk_1i h4 (by decide)) (by decide)) (by decide) rfl ?_
      refine iq_goto hS2 J_law_d1428 (t := 23) rfl ?_
      exact hn t ht w2 N1 hN1 hc.2.2 _ (lw_L5 (lk_1r (lk_1r h0 (by decide)) (by decide)) (lk_1r (lk_1r h1 (by decide)) (by decide)) (lk_1r (lk_1r h2 (by decide)) (by decide)) (lk_1r (lk_1r h3 (by decide)) (by decide)) (nI_add i 5))
  · rw [if_neg qb] at hc
    refine iq_aload_n hS 1248 J_law_d1247 h1 rfl ?_
    refine iq_aload_n hS 1249 J_law_d1248 h0 rfl ?_
    refine iq_iload hS 1251 J_law_d1249 h4 rfl ?_
    refine iq_iconst hS 1252 J_law_d1251 (v := 1) (by decide +kernel) rfl ?_
    refine iq_iadd hS 1253 J_law_d1252 rfl ?_
    refine iq_scr hS 1254 J_law_d1253 hM.1 (i := i) (c := 1) (nI_add i 1) hL (by omega) rfl ?_
    refine iq_aload_n hS 1255 J_law_d1254 h0 rfl ?_
    refine iq_iload hS 1257 J_law_d1255 h4 rfl ?_
    refine iq_iconst hS 1258 J_law_d1257 (v := 2) (by decide +kernel) rfl ?_
    refine iq_iadd hS 1259 J_law_d1258 rfl ?_
    refine iq_scr hS 1260 J_law_d1259 hM.1 (i := i) (c := 2) (nI_add i 2) hL (by omega) rfl ?_
    refine iq_aload_n hS 1261 J_law_d1260 h0 rfl ?_
    refine iq_iload hS 1263 J_law_d1261 h4 rfl ?_
    refine iq_iconst hS 1264 J_law_d1263 (v := 3) (by decide +kernel) rfl ?_
    refine iq_iadd hS 1265 J_law_d1264 rfl ?_
    refine iq_scr hS 1266 J_law_d1265 hM.1 (i := i) (c := 3) (nI_add i 3) hL (by omega) rfl ?_
    refine iq_if_eq hS 1269 J_law_d1266 (t := 1273) rfl (fun q => absurd q qb) rfl (fun _ => ?_)
    refine iq_iconst hS 1270 J_law_d1269 (v := 1) (by decide +kernel) rfl ?_
    refine iq_goto hS J_law_d1270 (t := 1274) rfl ?_
    refine iq_aload_n hS 1275 J_law_d1274 h3 rfl ?_
    obtain ⟨kk, M2, t, w2, hM2, ht, hix, hc⟩ := hc
    refine ix_callX (tb_GX L xs) 1278 J_law_d1275 (pr_X (vs := [_, _, _, _, _]) lX_154 rfl (by decide) rfl (Nat.le_of_ble_eq_true rfl) (Nat.le_of_ble_eq_true rfl)) hix rfl ?_
    rintro _ N9 t9 ⟨rfl, eN, et⟩
    rw [eN, et]
    have hS2 : im_St (tb_G L xs) (dep + 30) J_law (ix (tb_G L xs) tb_X (dep + 30) J_law [] (fun v2 M2 t2 => P v2 M2 (t + t2))) := ix_St (tb_GX L xs)
    refine iq_istore hS2 1280 J_law_d1278 (by decide) rfl ?_
    refine iq_aload_n hS2 1281 J_law_d1280 (lk_1r h2 (by decide)) rfl ?_
    refine iq_aload_n hS2 1282 J_law_d1281 (lk_1r h0 (by decide)) rfl ?_
    refine iq_iload hS2 1284 J_law_d1282 (lk_1i h4 (by decide)) rfl ?_
    refine iq_iconst hS2 1285 J_law_d1284 (v := 1) (by decide +kernel) rfl ?_
    refine iq_iadd hS2 1286 J_law_d1285 rfl ?_
    refine iq_scr hS2 1287 J_law_d1286 hM2.1 (i := i) (c := 1) (nI_add i 1) hL (by omega) rfl ?_
    refine iq_aload_n hS2 1288 J_law_d1287 (lk_1r h0 (by decide)) rfl ?_
    refine iq_iload hS2 1290 J_law_d1288 (lk_1i h4 (by decide)) rfl ?_
    refine iq_iconst hS2 1291 J_law_d1290 (v := 2) (by decide +kernel) rfl ?_
    refine iq_iadd hS2 1292 J_law_d1291 rfl ?_
    refine iq_scr hS2 1293 J_law_d1292 hM2.1 (i := i) (c := 2) (nI_add i 2) hL (by omega) rfl ?_
    refine iq_aload_n hS2 1294 J_law_d1293 (lk_1r h0 (by decide)) rfl ?_
    refine iq_iload hS2 1296 J_law_d1294 (lk_1i h4 (by decide)) rfl ?_
    refine iq_iconst hS2 1297 J_law_d1296 (v := 3) (by decide +kernel) rfl ?_
    refine iq_iadd hS2 1298 J_law_d1297 rfl ?_
    refine iq_scr hS2 1299 J_law_d1298 hM2.1 (i := i) (c := 3) (nI_add i 3) hL (by omega) rfl ?_
    refine iq_if_eq hS2 1302 J_law_d1299 (t := 1306) rfl (fun q => absurd q qb) rfl (fun _ => ?_)
    refine iq_iconst hS2 1303 J_law_d1302 (v := 1) (by decide +kernel) rfl ?_
    refine iq_goto hS2 J_law_d1303 (t := 1307) rfl ?_
    refine iq_cwI hS2 1310 J_law_d1307 rfl (pr_inst (vs := [_, _, _]) lc_18_157 lT_506 rfl rfl (by decide) (by decide) rfl (Nat.le_of_ble_eq_true rfl) (Nat.le_of_ble_eq_true rfl) (fun _ => Or.inl (pr_b (ka_69 hM2) (by decide) rfl))) (f_M_bars_ok (dep := dep + 25) hM2 hc) rfl ?_
    intro x1 N1 hN1 hc
    refine iq_istore hS2 1312 J_law_d1310 (by decide) rfl ?_
    refine iq_aload_n hS2 1313 J_law_d1312 (lk_1r (lk_1r h2 (by decide)) (by decide)) rfl ?_
    refine iq_cpI hS2 1316 J_law_d1313 rfl (pr_inst (vs := []) lc_18_79 lT_268 rfl rfl (by decide) (by decide) rfl (Nat.le_of_ble_eq_true rfl) (Nat.le_of_ble_eq_true rfl) (fun _ => Or.inl (pr_b (ka_69 hN1) (by decide) rfl))) (f_M_thrown_ok (dep := dep + 29) hN1 (Q := fun x => x = im_i N1 69 0) ⟨_, rfl, rfl⟩) rfl ?_
    rintro _ rfl
    refine iq_iload hS2 1318 J_law_d1316 (lk_1i lk_1s (by decide)) rfl ?_
    refine iq_icmp_eq hS2 1321 J_law_d1318 (t := 1323) rfl (fun _ => ?_) rfl (fun q => absurd hc.1 q)
    refine iq_iload hS2 1325 J_law_d1323 (lk_1i lk_1s (by decide)) rfl ?_
    refine iq_if_ne hS2 1328 J_law_d1325 (t := 1340) rfl (fun qk => ?_) rfl (fun qk => ?_)
    · refine iq_goto hS2 J_law_d1340 (t := 1425) rfl ?_
      refine iq_iincv hS2 1428 J_law_d1425 (c := 5) (by decide +kernel) (lk_1i (lk_1i h4 (by decide)) (by decide)) (by decide) rfl ?_
      refine iq_goto hS2 J_law_d1428 (t := 23) rfl ?_
      exact hn t ht w2 N1 hN1 hc.2.2 _ (lw_L5 (lk_1r (lk_1r h0 (by decide)) (by decide)) (lk_1r (lk_1r h1 (by decide)) (by decide)) (lk_1r (lk_1r h2 (by decide)) (by decide)) (lk_1r (lk_1r h3 (by decide)) (by decide)) (nI_add i 5))
    · refine iq_aload_n hS2 1329 J_law_d1328 (lk_1r (lk_1r h3 (by decide)) (by decide)) rfl ?_
      refine iq_iconst hS2 1330 J_law_d1329 (v := 0) (by decide +kernel) rfl ?_
      refine iq_laload hS2 1331 J_law_d1330 ⟨(ka_138 hN1).1, (ka_138 hN1).2, by decide, ix_lt (kl_138 hN1) (by decide)⟩ rfl ?_
      refine iq_iload hS2 1333 J_law_d1331 lk_1s rfl ?_
      refine iq_i2l hS2 1334 J_law_d1333 rfl ?_
      refine iq_lcmp hS2 1335 J_law_d1334 rfl ?_
      refine iq_if_eq hS2 1338 J_law_d1335 (t := 1340) rfl (fun _ => ?_) rfl (fun q => absurd (lcq_ (hc.2.1 (Decidable.not_not.mp qk))) q)
      refine iq_goto hS2 J_law_d1340 (t := 1425) rfl ?_
      refine iq_iincv hS2 1428 J_law_d1425 (c := 5) (by decide +kernel) (lk_1i (lk_1i h4 (by decide)) (by decide)) (by decide) rfl ?_
      refine iq_goto hS2 J_law_d1428 (t := 23) rfl ?_
      exact hn t ht w2 N1 hN1 hc.2.2 _ (lw_L5 (lk_1r (lk_1r h0 (by decide)) (by decide)) (lk_1r (lk_1r h1 (by decide)) (by decide)) (lk_1r (lk_1r h2 (by decide)) (by decide)) (lk_1r (lk_1r h3 (by decide)) (by decide)) (nI_add i 5))
theorem law_21 {L : Nat} {xs : Nat → Int32} {dep i : Nat} {w : Bool} {M : im_M} {P : Option Value → im_M → Nat → Prop} {K : Bool → im_M → Prop} (hL : L ≤ 2560) (hi : i + 5 ≤ L) (hM : lw_S w M) (hk : xs i &&& 31 = 21) (hc : lw_W L xs dep JW_reading JW_reading_h [.ref 0, .int (xs (i + 1)), .ref 138] M (fun w2 k M2 => ed (f_M_reading (xs (i + 1)) M2) (fun r => im_i r.2 69 0 = k ∧ (k = 0 → im_l r.2 138 0 = Int32.toInt64 r.1) ∧ K w2 r.2))) (hn : ∀ t, t ≤ 1 → ∀ w1 M1, lw_S w1 M1 → K w1 M1 → lw_H L xs dep (fun v2 M2 t2 => P v2 M2 (t + t2)) (i + 5) M1) : lw_H L xs dep P i M := by
  have hS : im_St (tb_G L xs) (dep + 30) J_law (ix (tb_G L xs) tb_X (dep + 30) J_law [] P) := ix_St (tb_GX L xs)
  intro Lc hl
  obtain ⟨h0, h1, h2, h3, h4⟩ := hl
  refine iq_iload hS 25 J_law_d23 h4 rfl ?_
  refine iq_aload_n hS 26 J_law_d25 h0 rfl ?_
  refine iq_xalen hS 27 J_law_d26 (by rw [hM.1]; decide) (Or.inl (by rw [xk_s])) rfl ?_
  rw [xk_s]
  refine iq_iconst hS 28 J_law_d27 (v := 5) (by decide +kernel) rfl ?_
  refine iq_isub hS 29 J_law_d28 rfl ?_
  refine iq_icmp_gt hS 32 J_law_d29 (t := 1431) rfl (fun q => absurd q (lw_go hL hi)) rfl (fun _ => ?_)
  refine iq_aload_n hS 33 J_law_d32 h0 rfl ?_
  refine iq_iload hS 35 J_law_d33 h4 rfl ?_
  refine iq_scr hS 36 J_law_d35 hM.1 (c := 0) rfl hL (by omega) rfl ?_
  refine iq_bipush hS 38 J_law_d36 (v := 31) (by decide +kernel) rfl ?_
  refine iq_iand hS 39 J_law_d38 rfl ?_
  refine iq_tsw hS J_law_d39 (t := 1343) (sw_v hk (by decide +kernel)) ?_
  refine iq_aload_n hS 1344 J_law_d1343 h1 rfl ?_
  refine iq_aload_n hS 1345 J_law_d1344 h0 rfl ?_
  refine iq_iload hS 1347 J_law_d1345 h4 rfl ?_
  refine iq_iconst hS 1348 J_law_d1347 (v := 1) (by decide +kernel) rfl ?_
  refine iq_iadd hS 1349 J_law_d1348 rfl ?_
  refine iq_scr hS 1350 J_law_d1349 hM.1 (i := i) (c := 1) (nI_add i 1) hL (by omega) rfl ?_
  refine iq_aload_n hS 1351 J_law_d1350 h3 rfl ?_
  obtain ⟨kk, M2, t, w2, hM2, ht, hix, hc⟩ := hc
  refine ix_callX (tb_GX L xs) 1354 J_law_d1351 (pr_X (vs := [_, _, _]) lX_158 rfl (by decide) rfl (Nat.le_of_ble_eq_true rfl) (Nat.le_of_ble_eq_true rfl)) hix rfl ?_
  rintro _ N9 t9 ⟨rfl, eN, et⟩
  rw [eN, et]
  have hS2 : im_St (tb_G L xs) (dep + 30) J_law (ix (tb_G L xs) tb_X (dep + 30) J_law [] (fun v2 M2 t2 => P v2 M2 (t + t2))) := ix_St (tb_GX L xs)
  refine iq_istore hS2 1356 J_law_d1354 (by decide) rfl ?_
  refine iq_aload_n hS2 1357 J_law_d1356 (lk_1r h2 (by decide)) rfl ?_
  refine iq_aload_n hS2 1358 J_law_d1357 (lk_1r h0 (by decide)) rfl ?_
  refine iq_iload hS2 1360 J_law_d1358 (lk_1i h4 (by decide)) rfl ?_
  refine iq_iconst hS2 1361 J_law_d1360 (v := 1) (by decide +kernel) rfl ?_
  refine iq_iadd hS2 1362 J_law_d1361 rfl ?_
  refine iq_scr hS2 1363 J_law_d1362 hM2.1 (i := i) (c := 1) (nI_add i 1) hL (by omega) rfl ?_
  refine iq_cwI hS2 1366 J_law_d1363 rfl (pr_inst (vs := [_]) lc_18_160 lT_521 rfl rfl (by decide) (by decide) rfl (Nat.le_of_ble_eq_true rfl) (Nat.le_of_ble_eq_true rfl) (fun _ => Or.inl (pr_b (ka_69 hM2) (by decide) rfl))) (f_M_reading_ok (dep := dep + 28) hM2 hc) rfl ?_
  intro x1 N1 hN1 hc
  refine iq_istore hS2 1368 J_law_d1366 (by decide) rfl ?_
  refine iq_aload_n hS2 1369 J_law_d1368 (lk_1r (lk_1r h2 (by decide)) (by decide)) rfl ?_
  refine iq_cpI hS2 1372 J_law_d1369 rfl (pr_inst (vs := []) lc_18_79 lT_268 rfl rfl (by decide) (by decide) rfl (Nat.le_of_ble_eq_true rfl) (Nat.le_of_ble_eq_true rfl) (fun _ => Or.inl (pr_b (ka_69 hN1) (by decide) rfl))) (f_M_thrown_ok (dep := dep + 29) hN1 (Q := fun x => x = im_i N1 69 0) ⟨_, rfl, rfl⟩) rfl ?_
  rintro _ rfl
  refine iq_iload hS2 1374 J_law_d1372 (lk_1i lk_1s (by decide)) rfl ?_
  refine iq_icmp_eq hS2 1377 J_law_d1374 (t := 1379) rfl (fun _ => ?_) rfl (fun q => absurd hc.1 q)
  refine iq_iload hS2 1381 J_law_d1379 (lk_1i lk_1s (by decide)) rfl ?_
  refine iq_if_ne hS2 1384 J_law_d1381 (t := 1396) rfl (fun qk => ?_) rfl (fun qk => ?_)
  · refine iq_goto hS2 J_law_d1396 (t := 1425) rfl ?_
    refine iq_iincv hS2 1428 J_law_d1425 (c := 5) (by decide +kernel) (lk_1i (lk_1i h4 (by decide)) (by decide)) (by decide) rfl ?_
    refine iq_goto hS2 J_law_d1428 (t := 23) rfl ?_
    exact hn t ht w2 N1 hN1 hc.2.2 _ (lw_L5 (lk_1r (lk_1r h0 (by decide)) (by decide)) (lk_1r (lk_1r h1 (by decide)) (by decide)) (lk_1r (lk_1r h2 (by decide)) (by decide)) (lk_1r (lk_1r h3 (by decide)) (by decide)) (nI_add i 5))
  · refine iq_aload_n hS2 1385 J_law_d1384 (lk_1r (lk_1r h3 (by decide)) (by decide)) rfl ?_
    refine iq_iconst hS2 1386 J_law_d1385 (v := 0) (by decide +kernel) rfl ?_
    refine iq_laload hS2 1387 J_law_d1386 ⟨(ka_138 hN1).1, (ka_138 hN1).2, by decide, ix_lt (kl_138 hN1) (by decide)⟩ rfl ?_
    refine iq_iload hS2 1389 J_law_d1387 lk_1s rfl ?_
    refine iq_i2l hS2 1390 J_law_d1389 rfl ?_
    refine iq_lcmp hS2 1391 J_law_d1390 rfl ?_
    refine iq_if_eq hS2 1394 J_law_d1391 (t := 1396) rfl (fun _ => ?_) rfl (fun q => absurd (lcq_ (hc.2.1 (Decidable.not_not.mp qk))) q)
    refine iq_goto hS2 J_law_d1396 (t := 1425) rfl ?_
    refine iq_iincv hS2 1428 J_law_d1425 (c := 5) (by decide +kernel) (lk_1i (lk_1i h4 (by decide)) (by decide)) (by decide) rfl ?_
    refine iq_goto hS2 J_law_d1428 (t := 23) rfl ?_
    exact hn t ht w2 N1 hN1 hc.2.2 _ (lw_L5 (lk_1r (lk_1r h0 (by decide)) (by decide)) (lk_1r (lk_1r h1 (by decide)) (by decide)) (lk_1r (lk_1r h2 (by decide)) (by decide)) (lk_1r (lk_1r h3 (by decide)) (by decide)) (nI_add i 5))
theorem law_22 {L : Nat} {xs : Nat → Int32} {dep i : Nat} {w : Bool} {M : im_M} {P : Option Value → im_M → Nat → Prop} {K : Bool → im_M → Prop} (hL : L ≤ 2560) (hi : i + 5 ≤ L) (hM : lw_S w M) (hk : xs i &&& 31 = 22) (hc : ed (f_H_got (xs (i + 1)) M) (fun v => ed (f_M_got (xs (i + 1)) M) (fun s => v = s.1 ∧ K w s.2))) (hn : ∀ w1 M1, lw_S w1 M1 → K w1 M1 → lw_H L xs dep P (i + 5) M1) : lw_H L xs dep P i M := by
  have hS : im_St (tb_G L xs) (dep + 30) J_law (ix (tb_G L xs) tb_X (dep + 30) J_law [] P) := ix_St (tb_GX L xs)
  intro Lc hl
  obtain ⟨h0, h1, h2, h3, h4⟩ := hl
  refine iq_iload hS 25 J_law_d23 h4 rfl ?_
  refine iq_aload_n hS 26 J_law_d25 h0 rfl ?_
  refine iq_xalen hS 27 J_law_d26 (by rw [hM.1]; decide) (Or.inl (by rw [xk_s])) rfl ?_
  rw [xk_s]
  refine iq_iconst hS 28 J_law_d27 (v := 5) (by decide +kernel) rfl ?_
  refine iq_isub hS 29 J_law_d28 rfl ?_
  refine iq_icmp_gt hS 32 J_law_d29 (t := 1431) rfl (fun q => absurd q (lw_go hL hi)) rfl (fun _ => ?_)
  refine iq_aload_n hS 33 J_law_d32 h0 rfl ?_
  refine iq_iload hS 35 J_law_d33 h4 rfl ?_
  refine iq_scr hS 36 J_law_d35 hM.1 (c := 0) rfl hL (by omega) rfl ?_
  refine iq_bipush hS 38 J_law_d36 (v := 31) (by decide +kernel) rfl ?_
  refine iq_iand hS 39 J_law_d38 rfl ?_
  refine iq_tsw hS J_law_d39 (t := 1399) (sw_v hk (by decide +kernel)) ?_
  refine iq_aload_n hS 1400 J_law_d1399 h1 rfl ?_
  refine iq_aload_n hS 1401 J_law_d1400 h0 rfl ?_
  refine iq_iload hS 1403 J_law_d1401 h4 rfl ?_
  refine iq_iconst hS 1404 J_law_d1403 (v := 1) (by decide +kernel) rfl ?_
  refine iq_iadd hS 1405 J_law_d1404 rfl ?_
  refine iq_scr hS 1406 J_law_d1405 hM.1 (i := i) (c := 1) (nI_add i 1) hL (by omega) rfl ?_
  refine iq_cpL hS 1409 J_law_d1406 rfl (pr_inst (vs := [_]) lc_18_161 lT_93 rfl rfl (by decide) (by decide) rfl (Nat.le_of_ble_eq_true rfl) (Nat.le_of_ble_eq_true rfl) (fun _ => Or.inl (pr_b (ka_0 hM) (by decide) rfl))) (f_H_got_ok (dep := dep + 28) hM hc) rfl ?_
  intro x1 hc
  refine iq_aload_n hS 1410 J_law_d1409 h2 rfl ?_
  refine iq_aload_n hS 1411 J_law_d1410 h0 rfl ?_
  refine iq_iload hS 1413 J_law_d1411 h4 rfl ?_
  refine iq_iconst hS 1414 J_law_d1413 (v := 1) (by decide +kernel) rfl ?_
  refine iq_iadd hS 1415 J_law_d1414 rfl ?_
  refine iq_scr hS 1416 J_law_d1415 hM.1 (i := i) (c := 1) (nI_add i 1) hL (by omega) rfl ?_
  refine iq_cwL hS 1419 J_law_d1416 rfl (pr_inst (vs := [_]) lc_18_165 lT_525 rfl rfl (by decide) (by decide) rfl (Nat.le_of_ble_eq_true rfl) (Nat.le_of_ble_eq_true rfl) (fun _ => Or.inl (pr_b (ka_69 hM) (by decide) rfl))) (f_M_got_ok (dep := dep + 29) hM hc) rfl ?_
  intro x2 N2 hN2 hc
  refine iq_lcmp hS 1420 J_law_d1419 rfl ?_
  refine iq_if_eq hS 1423 J_law_d1420 (t := 1425) rfl (fun _ => ?_) rfl (fun q => absurd (lcq_ hc.1) q)
  refine iq_iincv hS 1428 J_law_d1425 (c := 5) (by decide +kernel) h4 (by decide) rfl ?_
  refine iq_goto hS J_law_d1428 (t := 23) rfl ?_
  exact hn w N2 hN2 hc.2 _ (lw_L5 h0 h1 h2 h3 (nI_add i 5))
theorem law_23 {L : Nat} {xs : Nat → Int32} {dep i : Nat} {w : Bool} {M : im_M} {P : Option Value → im_M → Nat → Prop} {K : Bool → im_M → Prop} (hL : L ≤ 2560) (hi : i + 5 ≤ L) (hM : lw_S w M) (hk : ¬ (xs i &&& 31) ∈ [0, 1, 2, 3, 4, 5, 6, 7, 8, 9, 10, 11, 12, 13, 14, 15, 16, 17, 18, 19, 20, 21, 22]) (hc : K w M) (hn : ∀ w1 M1, lw_S w1 M1 → K w1 M1 → lw_H L xs dep P (i + 5) M1) : lw_H L xs dep P i M := by
  have hS : im_St (tb_G L xs) (dep + 30) J_law (ix (tb_G L xs) tb_X (dep + 30) J_law [] P) := ix_St (tb_GX L xs)
  intro Lc hl
  obtain ⟨h0, h1, h2, h3, h4⟩ := hl
  refine iq_iload hS 25 J_law_d23 h4 rfl ?_
  refine iq_aload_n hS 26 J_law_d25 h0 rfl ?_
  refine iq_xalen hS 27 J_law_d26 (by rw [hM.1]; decide) (Or.inl (by rw [xk_s])) rfl ?_
  rw [xk_s]
  refine iq_iconst hS 28 J_law_d27 (v := 5) (by decide +kernel) rfl ?_
  refine iq_isub hS 29 J_law_d28 rfl ?_
  refine iq_icmp_gt hS 32 J_law_d29 (t := 1431) rfl (fun q => absurd q (lw_go hL hi)) rfl (fun _ => ?_)
  refine iq_aload_n hS 33 J_law_d32 h0 rfl ?_
  refine iq_iload hS 35 J_law_d33 h4 rfl ?_
  refine iq_scr hS 36 J_law_d35 hM.1 (c := 0) rfl hL (by omega) rfl ?_
  refine iq_bipush hS 38 J_law_d36 (v := 31) (by decide +kernel) rfl ?_
  refine iq_iand hS 39 J_law_d38 rfl ?_
  refine iq_tsw hS J_law_d39 (t := 1425) (sw_d [0, 1, 2, 3, 4, 5, 6, 7, 8, 9, 10, 11, 12, 13, 14, 15, 16, 17, 18, 19, 20, 21, 22] (by decide) (by decide) (by decide +kernel) hk) ?_
  refine iq_iincv hS 1428 J_law_d1425 (c := 5) (by decide +kernel) h4 (by decide) rfl ?_
  refine iq_goto hS J_law_d1428 (t := 23) rfl ?_
  exact hn w M hM hc _ (lw_L5 h0 h1 h2 h3 (nI_add i 5))
