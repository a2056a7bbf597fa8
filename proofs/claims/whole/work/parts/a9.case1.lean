/-! ===== the law, case by case, 1 ===== -/
noncomputable def zb_feed : List zA := [zE4 220 (.aload_n 1) 1 1 0 0 0,
  zE 221 (.aload_n 0) 1,
  zE4 222 (.iload 4) 2 4 0 0 0,
  zEc 224 (.iconst 1) 1 0 0 (1),
  zE 225 (.iadd) 1,
  zE 226 (.iaload) 1,
  zE 227 (.aload_n 0) 1,
  zE4 228 (.iload 4) 2 4 0 0 0,
  zEc 230 (.iconst 2) 1 0 0 (2),
  zE 231 (.iadd) 1,
  zE 232 (.iaload) 1,
  zE 233 (.aload_n 0) 1,
  zE4 234 (.iload 4) 2 4 0 0 0,
  zEc 236 (.iconst 3) 1 0 0 (3),
  zE 237 (.iadd) 1,
  zE 238 (.iaload) 1,
  zE 239 (.aload_n 0) 1,
  zE4 240 (.iload 4) 2 4 0 0 0,
  zEc 242 (.iconst 4) 1 0 0 (4),
  zE 243 (.iadd) 1,
  zE 244 (.iaload) 1,
  zE 245 (.aload_n 0) 1,
  zE4 246 (.iload 4) 2 4 0 0 0,
  zEc 248 (.iconst 5) 1 0 0 (5),
  zE 249 (.iadd) 1,
  zE 250 (.iaload) 1,
  zE4 251 (.invokevirtual 111) 3 17 6 0 10,
  zE4 254 (.aload_n 2) 1 2 0 0 0,
  zE 255 (.aload_n 0) 1,
  zE4 256 (.iload 4) 2 4 0 0 0,
  zEc 258 (.iconst 1) 1 0 0 (1),
  zE 259 (.iadd) 1,
  zE 260 (.iaload) 1,
  zE 261 (.aload_n 0) 1,
  zE4 262 (.iload 4) 2 4 0 0 0,
  zEc 264 (.iconst 2) 1 0 0 (2),
  zE 265 (.iadd) 1,
  zE 266 (.iaload) 1,
  zE 267 (.aload_n 0) 1,
  zE4 268 (.iload 4) 2 4 0 0 0,
  zEc 270 (.iconst 3) 1 0 0 (3),
  zE 271 (.iadd) 1,
  zE 272 (.iaload) 1,
  zE 273 (.aload_n 0) 1,
  zE4 274 (.iload 4) 2 4 0 0 0,
  zEc 276 (.iconst 4) 1 0 0 (4),
  zE 277 (.iadd) 1,
  zE 278 (.iaload) 1,
  zE 279 (.aload_n 0) 1,
  zE4 280 (.iload 4) 2 4 0 0 0,
  zEc 282 (.iconst 5) 1 0 0 (5),
  zE 283 (.iadd) 1,
  zE 284 (.iaload) 1,
  zE4 285 (.invokevirtual 115) 3 18 6 0 11,
  zE4 288 (.if_icmp .eq 2067) 3 1406 0 0 0,
  zEc 291 (.iconst 0) 1 0 0 (0),
  zE4 292 (.ireturn) 1 1 0 0 0]
set_option maxRecDepth 1000000 in
theorem zb_feed_at : (zm_L_law.1.drop 25).take 57 = zb_feed := rfl
theorem w_feed {X : Nat → Int32} {n c d : Nat} {h : zH} {Q : zO → zH → Prop} (iv : zIv X c h) (hc : 6 * c + 6 ≤ n) (hn : n ≤ 384) (kk : ∀ h2 a b, zIv X (c + 1) h2 → zwp (d + 103) zm_L_law 1406 (zLw n c a b) [] h2 Q) : zwp (d + 103) zm_L_law 25 (zLw n c none none) [] h Q := by
  obtain ⟨ρ, pp, tp, P, L, w, hR, hρ, hpt, h3, h4, hJ, hX⟩ := iv
  have hpp : ρ 0 3 = some (pp, 3, 0) ∧ zPlS ρ pp := ⟨h3, zSh_pl hρ (by omega)⟩
  obtain ⟨v, h1, h2, L2, eF, eG, w2, gd⟩ := c_feed w (X (6 * c + 1)) (X (6 * c + 2)) (X (6 * c + 3)) (X (6 * c + 4)) (X (6 * c + 5))
  refine zwp.gb (B := zb_feed) (lo := 25) zb_feed_at (m := 1) (j := 26) (ls' := zLw n c (none) (none)) (st' := [zr ((0, 10, 0) : zF)]) (h' := h) rfl ?_
  refine zc_sx (B := zb_feed) (lo := 25) (k := 1) zb_feed_at rfl (fun _ => rfl) hX hc hn (by omega) ?_
  refine zc_sx (B := zb_feed) (lo := 25) (k := 2) zb_feed_at rfl (fun _ => rfl) hX hc hn (by omega) ?_
  refine zc_sx (B := zb_feed) (lo := 25) (k := 3) zb_feed_at rfl (fun _ => rfl) hX hc hn (by omega) ?_
  refine zc_sx (B := zb_feed) (lo := 25) (k := 4) zb_feed_at rfl (fun _ => rfl) hX hc hn (by omega) ?_
  refine zc_sx (B := zb_feed) (lo := 25) (k := 5) zb_feed_at rfl (fun _ => rfl) hX hc hn (by omega) ?_
  refine zl_ci (s_X10_feed_ok 0 ρ hρ pp (X (6 * c + 1)) (X (6 * c + 2)) (X (6 * c + 3)) (X (6 * c + 4)) (X (6 * c + 5)) hpp h (v, h1) hR eF) (by omega) (zsb_e (B := zb_feed) (lo := 25) zb_feed_at rfl rfl) rfl (fun hR1 hX1 => ?_)
  refine zwp.gb (B := zb_feed) (lo := 25) zb_feed_at (m := 1) (j := 53) (ls' := zLw n c (none) (none)) (st' := [zr ((52, 11, 0) : zF), zi v]) (h' := h1) rfl ?_
  refine zc_sx (B := zb_feed) (lo := 25) (k := 1) zb_feed_at rfl (fun _ => rfl) (hX1.trans hX) hc hn (by omega) ?_
  refine zc_sx (B := zb_feed) (lo := 25) (k := 2) zb_feed_at rfl (fun _ => rfl) (hX1.trans hX) hc hn (by omega) ?_
  refine zc_sx (B := zb_feed) (lo := 25) (k := 3) zb_feed_at rfl (fun _ => rfl) (hX1.trans hX) hc hn (by omega) ?_
  refine zc_sx (B := zb_feed) (lo := 25) (k := 4) zb_feed_at rfl (fun _ => rfl) (hX1.trans hX) hc hn (by omega) ?_
  refine zc_sx (B := zb_feed) (lo := 25) (k := 5) zb_feed_at rfl (fun _ => rfl) (hX1.trans hX) hc hn (by omega) ?_
  refine zl_ci (s_X11_feed_ok 0 ρ hρ (X (6 * c + 1)) (X (6 * c + 2)) (X (6 * c + 3)) (X (6 * c + 4)) (X (6 * c + 5)) h1 (v, h2) hR1 eG) (by omega) (zsb_e (B := zb_feed) (lo := 25) zb_feed_at rfl rfl) rfl (fun hR2 hX2 => ?_)
  have iv2 : zIv X (c + 1) h2 := ⟨ρ, pp, tp, P, L2, w2, hR2, hρ, hpt, h3, h4, hJ.nx gd, hX2.trans (hX1.trans hX)⟩
  refine zwp.br (c := decide (v = v)) (j := 1406) (ls' := zLw n c (none) (none)) (st' := []) (h' := h2) (j2 := 80) (l2 := zLw n c (none) (none)) (s2 := []) (h2 := h2) (zsb_e (B := zb_feed) (lo := 25) zb_feed_at rfl rfl) (fun _ => kk _ _ _ iv2) (fun e9 => absurd rfl (of_decide_eq_false e9))
noncomputable def zb_loom : List zA := [zE4 293 (.aload_n 1) 1 1 0 0 0,
  zE 294 (.aload_n 0) 1,
  zE4 295 (.iload 4) 2 4 0 0 0,
  zEc 297 (.iconst 1) 1 0 0 (1),
  zE 298 (.iadd) 1,
  zE 299 (.iaload) 1,
  zE4 300 (.aload_n 3) 1 3 0 0 0,
  zE4 301 (.invokestatic 116) 3 56 3 0 0,
  zE4 304 (.istore 5) 2 5 0 0 0,
  zE4 306 (.aload_n 2) 1 2 0 0 0,
  zE 307 (.aload_n 0) 1,
  zE4 308 (.iload 4) 2 4 0 0 0,
  zEc 310 (.iconst 1) 1 0 0 (1),
  zE 311 (.iadd) 1,
  zE 312 (.iaload) 1,
  zE4 313 (.invokevirtual 121) 3 83 2 0 11,
  zE4 316 (.istore 6) 2 6 0 0 0,
  zE4 318 (.aload_n 2) 1 2 0 0 0,
  zE4 319 (.invokevirtual 122) 3 84 1 0 11,
  zE4 322 (.iload 5) 2 5 0 0 0,
  zE4 324 (.if_icmp .eq 5) 3 105 0 0 0,
  zEc 327 (.iconst 0) 1 0 0 (0),
  zE4 328 (.ireturn) 1 1 0 0 0,
  zE4 329 (.iload 5) 2 5 0 0 0,
  zE4 331 (.ifCond .ne 15) 3 116 0 0 0,
  zE4 334 (.aload_n 3) 1 3 0 0 0,
  zEc 335 (.iconst 0) 1 0 0 (0),
  zE 336 (.laload) 1,
  zE4 337 (.iload 6) 2 6 0 0 0,
  zE 339 (.i2l) 1,
  zE 340 (.lcmp) 1,
  zE4 341 (.ifCond .eq 5) 3 116 0 0 0,
  zEc 344 (.iconst 0) 1 0 0 (0),
  zE4 345 (.ireturn) 1 1 0 0 0,
  zE4 346 (.goto 2009) 3 1406 0 0 0]
set_option maxRecDepth 1000000 in
theorem zb_loom_at : (zm_L_law.1.drop 82).take 35 = zb_loom := rfl
theorem w_loom {X : Nat → Int32} {n c d : Nat} {h : zH} {Q : zO → zH → Prop} (iv : zIv X c h) (hc : 6 * c + 6 ≤ n) (hn : n ≤ 384) (kk : ∀ h2 a b, zIv X (c + 1) h2 → zwp (d + 103) zm_L_law 1406 (zLw n c a b) [] h2 Q) : zwp (d + 103) zm_L_law 82 (zLw n c none none) [] h Q := by
  obtain ⟨ρ, pp, tp, P, L, w, hR, hρ, hpt, h3, h4, hJ, hX⟩ := iv
  have hpp : ρ 0 3 = some (pp, 3, 0) ∧ zPlS ρ pp := ⟨h3, zSh_pl hρ (by omega)⟩
  obtain ⟨r, k, h1, v, h2, pp2, P2, L2, eF, eH, eG, t4, tL, w2, gd, g8, gp⟩ := c_loom (tp := tp) w (zVn_q hR hρ) hpt (X (6 * c + 1))
  refine zwp.gb (B := zb_loom) (lo := 82) zb_loom_at (m := 1) (j := 83) (ls' := zLw n c (none) (none)) (st' := [zr ((0, 10, 0) : zF)]) (h' := h) rfl ?_
  refine zc_sx (B := zb_loom) (lo := 82) (k := 1) zb_loom_at rfl (fun _ => rfl) hX hc hn (by omega) ?_
  refine zwp.gb (B := zb_loom) (lo := 82) zb_loom_at (m := 1) (j := 89) (ls' := zLw n c (none) (none)) (st' := [zr ((90, 23, 1) : zF), zi (X (6 * c + 1)), zr ((0, 10, 0) : zF)]) (h' := h) rfl ?_
  refine zl_ci (s_L_loom_ok 0 ρ hρ pp tp (X (6 * c + 1)) (by omega) (by omega) h3 h4 h r hR eF (k, h1) eH) (by omega) (zsb_e (B := zb_loom) (lo := 82) zb_loom_at rfl rfl) rfl (fun hR1 hX1 => ?_)
  have sh := zIv_l hρ hpt h3 h4 gp
  obtain ⟨hρ1, hpt1, h31, h41, h71⟩ := sh
  generalize zρl ρ pp tp r.1 = ρ1 at hR1 hρ1 h31 h41 h71
  refine zwp.gb (B := zb_loom) (lo := 82) zb_loom_at (m := 2) (j := 92) (ls' := zLw n c (some (zi k)) (none)) (st' := [zr ((52, 11, 0) : zF)]) (h' := h1) rfl ?_
  refine zc_sx (B := zb_loom) (lo := 82) (k := 1) zb_loom_at rfl (fun _ => rfl) (hX1.trans hX) hc hn (by omega) ?_
  refine zl_ci (s_X11_loom_ok 0 _ hρ1 (X (6 * c + 1)) h1 (v, h2) hR1 eG) (by omega) (zsb_e (B := zb_loom) (lo := 82) zb_loom_at rfl rfl) rfl (fun hR2 hX2 => ?_)
  have iv2 : zIv X (c + 1) h2 := ⟨ρ1, pp2, _, P2, L2, w2, hR2, hρ1, hpt1, h31, h41, hJ.lo h71 gd g8, hX2.trans (hX1.trans hX)⟩
  refine zwp.gb (B := zb_loom) (lo := 82) zb_loom_at (m := 2) (j := 100) (ls' := zLw n c (some (zi k)) (some (zi v))) (st' := [zr ((52, 11, 0) : zF)]) (h' := h2) rfl ?_
  refine zl_cp (s_X11_thrown_ok 0 _ hρ1 h2 (zI h2 52 4) hR2 rfl) (by omega) (zsb_e (B := zb_loom) (lo := 82) zb_loom_at rfl rfl) rfl ?_
  rw [t4]
  refine zwp.gb (B := zb_loom) (lo := 82) zb_loom_at (m := 1) (j := 102) (ls' := zLw n c (some (zi k)) (some (zi v))) (st' := [zi k, zi k]) (h' := h2) rfl ?_
  refine zwp.br (c := decide (k = k)) (j := 105) (ls' := zLw n c (some (zi k)) (some (zi v))) (st' := []) (h' := h2) (j2 := 103) (l2 := zLw n c (some (zi k)) (some (zi v))) (s2 := []) (h2 := h2) (zsb_e (B := zb_loom) (lo := 82) zb_loom_at rfl rfl) (fun _ => ?_) (fun e9 => absurd rfl (of_decide_eq_false e9))
  refine zwp.gb (B := zb_loom) (lo := 82) zb_loom_at (m := 1) (j := 106) (ls' := zLw n c (some (zi k)) (some (zi v))) (st' := [zi k]) (h' := h2) rfl ?_
  refine zwp.br (c := decide (¬ k = 0)) (j := 116) (ls' := zLw n c (some (zi k)) (some (zi v))) (st' := []) (h' := h2) (j2 := 107) (l2 := zLw n c (some (zi k)) (some (zi v))) (s2 := []) (h2 := h2) (zsb_e (B := zb_loom) (lo := 82) zb_loom_at rfl rfl) (fun _ => ?_) (fun e9 => ?_)
  · refine zwp.gb (B := zb_loom) (lo := 82) zb_loom_at (m := 1) (j := 1406) (ls' := zLw n c (some (zi k)) (some (zi v))) (st' := []) (h' := h2) rfl ?_
    exact kk _ _ _ iv2
  · have e8 : k = 0 := Classical.not_not.mp (of_decide_eq_false e9)
    refine zwp.gb (B := zb_loom) (lo := 82) zb_loom_at (m := 6) (j := 113) (ls' := zLw n c (some (zi k)) (some (zi v))) (st' := [zi (lg_cmp (zL h2 90 0) v.toInt64)]) (h' := h2) rfl ?_
    rw [tL e8, lg_cmp_rf]
    refine zwp.gb (B := zb_loom) (lo := 82) zb_loom_at (m := 2) (j := 1406) (ls' := zLw n c (some (zi k)) (some (zi v))) (st' := []) (h' := h2) rfl ?_
    exact kk _ _ _ iv2
noncomputable def zb_fault : List zA := [zE4 349 (.aload_n 1) 1 1 0 0 0,
  zE4 350 (.invokevirtual 126) 3 85 1 0 10,
  zE4 353 (.aload_n 2) 1 2 0 0 0,
  zE4 354 (.invokevirtual 129) 3 86 1 0 11,
  zE4 357 (.if_icmp .eq 1998) 3 1406 0 0 0,
  zEc 360 (.iconst 0) 1 0 0 (0),
  zE4 361 (.ireturn) 1 1 0 0 0]
set_option maxRecDepth 1000000 in
theorem zb_fault_at : (zm_L_law.1.drop 117).take 7 = zb_fault := rfl
theorem w_fault {X : Nat → Int32} {n c d : Nat} {h : zH} {Q : zO → zH → Prop} (iv : zIv X c h) (hc : 6 * c + 6 ≤ n) (hn : n ≤ 384) (kk : ∀ h2 a b, zIv X (c + 1) h2 → zwp (d + 103) zm_L_law 1406 (zLw n c a b) [] h2 Q) : zwp (d + 103) zm_L_law 117 (zLw n c none none) [] h Q := by
  obtain ⟨ρ, pp, tp, P, L, w, hR, hρ, hpt, h3, h4, hJ, hX⟩ := iv
  have hpp : ρ 0 3 = some (pp, 3, 0) ∧ zPlS ρ pp := ⟨h3, zSh_pl hρ (by omega)⟩
  obtain ⟨v, h1, h2, L2, eF, eG, w2, gd⟩ := c_fault w 
  refine zwp.gb (B := zb_fault) (lo := 117) zb_fault_at (m := 1) (j := 118) (ls' := zLw n c (none) (none)) (st' := [zr ((0, 10, 0) : zF)]) (h' := h) rfl ?_
  obtain ⟨u, e1, e2⟩ := zbind eF
  cases e2
  refine zl_cp (s_X10_fault_ok 0 ρ hρ pp hpp h v hR e1) (by omega) (zsb_e (B := zb_fault) (lo := 117) zb_fault_at rfl rfl) rfl ?_
  refine zwp.gb (B := zb_fault) (lo := 117) zb_fault_at (m := 1) (j := 120) (ls' := zLw n c (none) (none)) (st' := [zr ((52, 11, 0) : zF), zi v]) (h' := h) rfl ?_
  refine zl_ci (s_X11_fault_ok 0 ρ hρ  h (v, h2) hR eG) (by omega) (zsb_e (B := zb_fault) (lo := 117) zb_fault_at rfl rfl) rfl (fun hR2 hX2 => ?_)
  have iv2 : zIv X (c + 1) h2 := ⟨ρ, pp, tp, P, L2, w2, hR2, hρ, hpt, h3, h4, hJ.nx gd, hX2.trans hX⟩
  refine zwp.br (c := decide (v = v)) (j := 1406) (ls' := zLw n c (none) (none)) (st' := []) (h' := h2) (j2 := 122) (l2 := zLw n c (none) (none)) (s2 := []) (h2 := h2) (zsb_e (B := zb_fault) (lo := 117) zb_fault_at rfl rfl) (fun _ => kk _ _ _ iv2) (fun e9 => absurd rfl (of_decide_eq_false e9))
noncomputable def zb_count : List zA := [zE4 362 (.aload_n 1) 1 1 0 0 0,
  zE 363 (.aload_n 0) 1,
  zE4 364 (.iload 4) 2 4 0 0 0,
  zEc 366 (.iconst 1) 1 0 0 (1),
  zE 367 (.iadd) 1,
  zE 368 (.iaload) 1,
  zE4 369 (.aload_n 3) 1 3 0 0 0,
  zE4 370 (.invokestatic 130) 3 95 3 0 0,
  zE4 373 (.istore 5) 2 5 0 0 0,
  zE4 375 (.aload_n 2) 1 2 0 0 0,
  zE 376 (.aload_n 0) 1,
  zE4 377 (.iload 4) 2 4 0 0 0,
  zEc 379 (.iconst 1) 1 0 0 (1),
  zE 380 (.iadd) 1,
  zE 381 (.iaload) 1,
  zE4 382 (.invokevirtual 132) 3 101 2 0 11,
  zE4 385 (.istore 6) 2 6 0 0 0,
  zE4 387 (.aload_n 2) 1 2 0 0 0,
  zE4 388 (.invokevirtual 122) 3 84 1 0 11,
  zE4 391 (.iload 5) 2 5 0 0 0,
  zE4 393 (.if_icmp .eq 5) 3 147 0 0 0,
  zEc 396 (.iconst 0) 1 0 0 (0),
  zE4 397 (.ireturn) 1 1 0 0 0,
  zE4 398 (.iload 5) 2 5 0 0 0,
  zE4 400 (.ifCond .ne 15) 3 158 0 0 0,
  zE4 403 (.aload_n 3) 1 3 0 0 0,
  zEc 404 (.iconst 0) 1 0 0 (0),
  zE 405 (.laload) 1,
  zE4 406 (.iload 6) 2 6 0 0 0,
  zE 408 (.i2l) 1,
  zE 409 (.lcmp) 1,
  zE4 410 (.ifCond .eq 5) 3 158 0 0 0,
  zEc 413 (.iconst 0) 1 0 0 (0),
  zE4 414 (.ireturn) 1 1 0 0 0,
  zE4 415 (.goto 1940) 3 1406 0 0 0]
set_option maxRecDepth 1000000 in
theorem zb_count_at : (zm_L_law.1.drop 124).take 35 = zb_count := rfl
theorem w_count {X : Nat → Int32} {n c d : Nat} {h : zH} {Q : zO → zH → Prop} (iv : zIv X c h) (hc : 6 * c + 6 ≤ n) (hn : n ≤ 384) (kk : ∀ h2 a b, zIv X (c + 1) h2 → zwp (d + 103) zm_L_law 1406 (zLw n c a b) [] h2 Q) : zwp (d + 103) zm_L_law 124 (zLw n c none none) [] h Q := by
  obtain ⟨ρ, pp, tp, P, L, w, hR, hρ, hpt, h3, h4, hJ, hX⟩ := iv
  have hpp : ρ 0 3 = some (pp, 3, 0) ∧ zPlS ρ pp := ⟨h3, zSh_pl hρ (by omega)⟩
  obtain ⟨k, h1, v, h2, L2, eF, eG, t4, tL, w2, gd⟩ := c_count w (X (6 * c + 1))
  refine zwp.gb (B := zb_count) (lo := 124) zb_count_at (m := 1) (j := 125) (ls' := zLw n c (none) (none)) (st' := [zr ((0, 10, 0) : zF)]) (h' := h) rfl ?_
  refine zc_sx (B := zb_count) (lo := 124) (k := 1) zb_count_at rfl (fun _ => rfl) hX hc hn (by omega) ?_
  refine zwp.gb (B := zb_count) (lo := 124) zb_count_at (m := 1) (j := 131) (ls' := zLw n c (none) (none)) (st' := [zr ((90, 23, 1) : zF), zi (X (6 * c + 1)), zr ((0, 10, 0) : zF)]) (h' := h) rfl ?_
  refine zl_ci (s_L_count_ok 0 ρ hρ pp (X (6 * c + 1)) 90 1 hpp h (k, h1) hR eF) (by omega) (zsb_e (B := zb_count) (lo := 124) zb_count_at rfl rfl) rfl (fun hR1 hX1 => ?_)
  refine zwp.gb (B := zb_count) (lo := 124) zb_count_at (m := 2) (j := 134) (ls' := zLw n c (some (zi k)) (none)) (st' := [zr ((52, 11, 0) : zF)]) (h' := h1) rfl ?_
  refine zc_sx (B := zb_count) (lo := 124) (k := 1) zb_count_at rfl (fun _ => rfl) (hX1.trans hX) hc hn (by omega) ?_
  refine zl_ci (s_X11_count_ok 0 _ hρ (X (6 * c + 1)) h1 (v, h2) hR1 eG) (by omega) (zsb_e (B := zb_count) (lo := 124) zb_count_at rfl rfl) rfl (fun hR2 hX2 => ?_)
  have iv2 : zIv X (c + 1) h2 := ⟨ρ, pp, tp, P, L2, w2, hR2, hρ, hpt, h3, h4, hJ.nx gd, hX2.trans (hX1.trans hX)⟩
  refine zwp.gb (B := zb_count) (lo := 124) zb_count_at (m := 2) (j := 142) (ls' := zLw n c (some (zi k)) (some (zi v))) (st' := [zr ((52, 11, 0) : zF)]) (h' := h2) rfl ?_
  refine zl_cp (s_X11_thrown_ok 0 _ hρ h2 (zI h2 52 4) hR2 rfl) (by omega) (zsb_e (B := zb_count) (lo := 124) zb_count_at rfl rfl) rfl ?_
  rw [t4]
  refine zwp.gb (B := zb_count) (lo := 124) zb_count_at (m := 1) (j := 144) (ls' := zLw n c (some (zi k)) (some (zi v))) (st' := [zi k, zi k]) (h' := h2) rfl ?_
  refine zwp.br (c := decide (k = k)) (j := 147) (ls' := zLw n c (some (zi k)) (some (zi v))) (st' := []) (h' := h2) (j2 := 145) (l2 := zLw n c (some (zi k)) (some (zi v))) (s2 := []) (h2 := h2) (zsb_e (B := zb_count) (lo := 124) zb_count_at rfl rfl) (fun _ => ?_) (fun e9 => absurd rfl (of_decide_eq_false e9))
  refine zwp.gb (B := zb_count) (lo := 124) zb_count_at (m := 1) (j := 148) (ls' := zLw n c (some (zi k)) (some (zi v))) (st' := [zi k]) (h' := h2) rfl ?_
  refine zwp.br (c := decide (¬ k = 0)) (j := 158) (ls' := zLw n c (some (zi k)) (some (zi v))) (st' := []) (h' := h2) (j2 := 149) (l2 := zLw n c (some (zi k)) (some (zi v))) (s2 := []) (h2 := h2) (zsb_e (B := zb_count) (lo := 124) zb_count_at rfl rfl) (fun _ => ?_) (fun e9 => ?_)
  · refine zwp.gb (B := zb_count) (lo := 124) zb_count_at (m := 1) (j := 1406) (ls' := zLw n c (some (zi k)) (some (zi v))) (st' := []) (h' := h2) rfl ?_
    exact kk _ _ _ iv2
  · have e8 : k = 0 := Classical.not_not.mp (of_decide_eq_false e9)
    refine zwp.gb (B := zb_count) (lo := 124) zb_count_at (m := 6) (j := 155) (ls' := zLw n c (some (zi k)) (some (zi v))) (st' := [zi (lg_cmp (zL h2 90 0) v.toInt64)]) (h' := h2) rfl ?_
    rw [tL e8, lg_cmp_rf]
    refine zwp.gb (B := zb_count) (lo := 124) zb_count_at (m := 2) (j := 1406) (ls' := zLw n c (some (zi k)) (some (zi v))) (st' := []) (h' := h2) rfl ?_
    exact kk _ _ _ iv2
noncomputable def zb_rib : List zA := [zE4 418 (.aload_n 1) 1 1 0 0 0,
  zE 419 (.aload_n 0) 1,
  zE4 420 (.iload 4) 2 4 0 0 0,
  zEc 422 (.iconst 1) 1 0 0 (1),
  zE 423 (.iadd) 1,
  zE 424 (.iaload) 1,
  zE 425 (.aload_n 0) 1,
  zE4 426 (.iload 4) 2 4 0 0 0,
  zEc 428 (.iconst 2) 1 0 0 (2),
  zE 429 (.iadd) 1,
  zE 430 (.iaload) 1,
  zE4 431 (.aload_n 3) 1 3 0 0 0,
  zE4 432 (.invokestatic 133) 3 107 4 0 0,
  zE4 435 (.istore 5) 2 5 0 0 0,
  zE4 437 (.aload_n 2) 1 2 0 0 0,
  zE 438 (.aload_n 0) 1,
  zE4 439 (.iload 4) 2 4 0 0 0,
  zEc 441 (.iconst 1) 1 0 0 (1),
  zE 442 (.iadd) 1,
  zE 443 (.iaload) 1,
  zE 444 (.aload_n 0) 1,
  zE4 445 (.iload 4) 2 4 0 0 0,
  zEc 447 (.iconst 2) 1 0 0 (2),
  zE 448 (.iadd) 1,
  zE 449 (.iaload) 1,
  zE4 450 (.invokevirtual 136) 3 112 3 0 11,
  zE4 453 (.istore 6) 2 6 0 0 0,
  zE4 455 (.aload_n 2) 1 2 0 0 0,
  zE4 456 (.invokevirtual 122) 3 84 1 0 11,
  zE4 459 (.iload 5) 2 5 0 0 0,
  zE4 461 (.if_icmp .eq 5) 3 192 0 0 0,
  zEc 464 (.iconst 0) 1 0 0 (0),
  zE4 465 (.ireturn) 1 1 0 0 0,
  zE4 466 (.iload 5) 2 5 0 0 0,
  zE4 468 (.ifCond .ne 15) 3 203 0 0 0,
  zE4 471 (.aload_n 3) 1 3 0 0 0,
  zEc 472 (.iconst 0) 1 0 0 (0),
  zE 473 (.laload) 1,
  zE4 474 (.iload 6) 2 6 0 0 0,
  zE 476 (.i2l) 1,
  zE 477 (.lcmp) 1,
  zE4 478 (.ifCond .eq 5) 3 203 0 0 0,
  zEc 481 (.iconst 0) 1 0 0 (0),
  zE4 482 (.ireturn) 1 1 0 0 0,
  zE4 483 (.goto 1872) 3 1406 0 0 0]
set_option maxRecDepth 1000000 in
theorem zb_rib_at : (zm_L_law.1.drop 159).take 45 = zb_rib := rfl
theorem w_rib {X : Nat → Int32} {n c d : Nat} {h : zH} {Q : zO → zH → Prop} (iv : zIv X c h) (hc : 6 * c + 6 ≤ n) (hn : n ≤ 384) (kk : ∀ h2 a b, zIv X (c + 1) h2 → zwp (d + 103) zm_L_law 1406 (zLw n c a b) [] h2 Q) : zwp (d + 103) zm_L_law 159 (zLw n c none none) [] h Q := by
  obtain ⟨ρ, pp, tp, P, L, w, hR, hρ, hpt, h3, h4, hJ, hX⟩ := iv
  have hpp : ρ 0 3 = some (pp, 3, 0) ∧ zPlS ρ pp := ⟨h3, zSh_pl hρ (by omega)⟩
  obtain ⟨k, h1, v, h2, L2, eF, eG, t4, tL, w2, gd⟩ := c_rib w (X (6 * c + 1)) (X (6 * c + 2))
  refine zwp.gb (B := zb_rib) (lo := 159) zb_rib_at (m := 1) (j := 160) (ls' := zLw n c (none) (none)) (st' := [zr ((0, 10, 0) : zF)]) (h' := h) rfl ?_
  refine zc_sx (B := zb_rib) (lo := 159) (k := 1) zb_rib_at rfl (fun _ => rfl) hX hc hn (by omega) ?_
  refine zc_sx (B := zb_rib) (lo := 159) (k := 2) zb_rib_at rfl (fun _ => rfl) hX hc hn (by omega) ?_
  refine zwp.gb (B := zb_rib) (lo := 159) zb_rib_at (m := 1) (j := 171) (ls' := zLw n c (none) (none)) (st' := [zr ((90, 23, 1) : zF), zi (X (6 * c + 2)), zi (X (6 * c + 1)), zr ((0, 10, 0) : zF)]) (h' := h) rfl ?_
  refine zl_ci (s_L_rib_ok 0 ρ hρ pp (X (6 * c + 1)) (X (6 * c + 2)) 90 1 hpp h (k, h1) hR eF) (by omega) (zsb_e (B := zb_rib) (lo := 159) zb_rib_at rfl rfl) rfl (fun hR1 hX1 => ?_)
  refine zwp.gb (B := zb_rib) (lo := 159) zb_rib_at (m := 2) (j := 174) (ls' := zLw n c (some (zi k)) (none)) (st' := [zr ((52, 11, 0) : zF)]) (h' := h1) rfl ?_
  refine zc_sx (B := zb_rib) (lo := 159) (k := 1) zb_rib_at rfl (fun _ => rfl) (hX1.trans hX) hc hn (by omega) ?_
  refine zc_sx (B := zb_rib) (lo := 159) (k := 2) zb_rib_at rfl (fun _ => rfl) (hX1.trans hX) hc hn (by omega) ?_
  refine zl_ci (s_X11_rib_ok 0 _ hρ (X (6 * c + 1)) (X (6 * c + 2)) h1 (v, h2) hR1 eG) (by omega) (zsb_e (B := zb_rib) (lo := 159) zb_rib_at rfl rfl) rfl (fun hR2 hX2 => ?_)
  have iv2 : zIv X (c + 1) h2 := ⟨ρ, pp, tp, P, L2, w2, hR2, hρ, hpt, h3, h4, hJ.nx gd, hX2.trans (hX1.trans hX)⟩
  refine zwp.gb (B := zb_rib) (lo := 159) zb_rib_at (m := 2) (j := 187) (ls' := zLw n c (some (zi k)) (some (zi v))) (st' := [zr ((52, 11, 0) : zF)]) (h' := h2) rfl ?_
  refine zl_cp (s_X11_thrown_ok 0 _ hρ h2 (zI h2 52 4) hR2 rfl) (by omega) (zsb_e (B := zb_rib) (lo := 159) zb_rib_at rfl rfl) rfl ?_
  rw [t4]
  refine zwp.gb (B := zb_rib) (lo := 159) zb_rib_at (m := 1) (j := 189) (ls' := zLw n c (some (zi k)) (some (zi v))) (st' := [zi k, zi k]) (h' := h2) rfl ?_
  refine zwp.br (c := decide (k = k)) (j := 192) (ls' := zLw n c (some (zi k)) (some (zi v))) (st' := []) (h' := h2) (j2 := 190) (l2 := zLw n c (some (zi k)) (some (zi v))) (s2 := []) (h2 := h2) (zsb_e (B := zb_rib) (lo := 159) zb_rib_at rfl rfl) (fun _ => ?_) (fun e9 => absurd rfl (of_decide_eq_false e9))
  refine zwp.gb (B := zb_rib) (lo := 159) zb_rib_at (m := 1) (j := 193) (ls' := zLw n c (some (zi k)) (some (zi v))) (st' := [zi k]) (h' := h2) rfl ?_
  refine zwp.br (c := decide (¬ k = 0)) (j := 203) (ls' := zLw n c (some (zi k)) (some (zi v))) (st' := []) (h' := h2) (j2 := 194) (l2 := zLw n c (some (zi k)) (some (zi v))) (s2 := []) (h2 := h2) (zsb_e (B := zb_rib) (lo := 159) zb_rib_at rfl rfl) (fun _ => ?_) (fun e9 => ?_)
  · refine zwp.gb (B := zb_rib) (lo := 159) zb_rib_at (m := 1) (j := 1406) (ls' := zLw n c (some (zi k)) (some (zi v))) (st' := []) (h' := h2) rfl ?_
    exact kk _ _ _ iv2
  · have e8 : k = 0 := Classical.not_not.mp (of_decide_eq_false e9)
    refine zwp.gb (B := zb_rib) (lo := 159) zb_rib_at (m := 6) (j := 200) (ls' := zLw n c (some (zi k)) (some (zi v))) (st' := [zi (lg_cmp (zL h2 90 0) v.toInt64)]) (h' := h2) rfl ?_
    rw [tL e8, lg_cmp_rf]
    refine zwp.gb (B := zb_rib) (lo := 159) zb_rib_at (m := 2) (j := 1406) (ls' := zLw n c (some (zi k)) (some (zi v))) (st' := []) (h' := h2) rfl ?_
    exact kk _ _ _ iv2
noncomputable def zb_verse : List zA := [zE4 486 (.aload_n 1) 1 1 0 0 0,
  zE 487 (.aload_n 0) 1,
  zE4 488 (.iload 4) 2 4 0 0 0,
  zEc 490 (.iconst 1) 1 0 0 (1),
  zE 491 (.iadd) 1,
  zE 492 (.iaload) 1,
  zE 493 (.aload_n 0) 1,
  zE4 494 (.iload 4) 2 4 0 0 0,
  zEc 496 (.iconst 2) 1 0 0 (2),
  zE 497 (.iadd) 1,
  zE 498 (.iaload) 1,
  zE4 499 (.aload_n 3) 1 3 0 0 0,
  zE4 500 (.invokestatic 137) 3 116 4 0 0,
  zE4 503 (.istore 5) 2 5 0 0 0,
  zE4 505 (.aload_n 2) 1 2 0 0 0,
  zE 506 (.aload_n 0) 1,
  zE4 507 (.iload 4) 2 4 0 0 0,
  zEc 509 (.iconst 1) 1 0 0 (1),
  zE 510 (.iadd) 1,
  zE 511 (.iaload) 1,
  zE 512 (.aload_n 0) 1,
  zE4 513 (.iload 4) 2 4 0 0 0,
  zEc 515 (.iconst 2) 1 0 0 (2),
  zE 516 (.iadd) 1,
  zE 517 (.iaload) 1,
  zE4 518 (.invokevirtual 139) 3 121 3 0 11,
  zE4 521 (.istore 6) 2 6 0 0 0,
  zE4 523 (.aload_n 2) 1 2 0 0 0,
  zE4 524 (.invokevirtual 122) 3 84 1 0 11,
  zE4 527 (.iload 5) 2 5 0 0 0,
  zE4 529 (.if_icmp .eq 5) 3 237 0 0 0,
  zEc 532 (.iconst 0) 1 0 0 (0),
  zE4 533 (.ireturn) 1 1 0 0 0,
  zE4 534 (.iload 5) 2 5 0 0 0,
  zE4 536 (.ifCond .ne 15) 3 248 0 0 0,
  zE4 539 (.aload_n 3) 1 3 0 0 0,
  zEc 540 (.iconst 0) 1 0 0 (0),
  zE 541 (.laload) 1,
  zE4 542 (.iload 6) 2 6 0 0 0,
  zE 544 (.i2l) 1,
  zE 545 (.lcmp) 1,
  zE4 546 (.ifCond .eq 5) 3 248 0 0 0,
  zEc 549 (.iconst 0) 1 0 0 (0),
  zE4 550 (.ireturn) 1 1 0 0 0,
  zE4 551 (.goto 1804) 3 1406 0 0 0]
set_option maxRecDepth 1000000 in
theorem zb_verse_at : (zm_L_law.1.drop 204).take 45 = zb_verse := rfl
theorem w_verse {X : Nat → Int32} {n c d : Nat} {h : zH} {Q : zO → zH → Prop} (iv : zIv X c h) (hc : 6 * c + 6 ≤ n) (hn : n ≤ 384) (kk : ∀ h2 a b, zIv X (c + 1) h2 → zwp (d + 103) zm_L_law 1406 (zLw n c a b) [] h2 Q) : zwp (d + 103) zm_L_law 204 (zLw n c none none) [] h Q := by
  obtain ⟨ρ, pp, tp, P, L, w, hR, hρ, hpt, h3, h4, hJ, hX⟩ := iv
  have hpp : ρ 0 3 = some (pp, 3, 0) ∧ zPlS ρ pp := ⟨h3, zSh_pl hρ (by omega)⟩
  obtain ⟨k, h1, v, h2, L2, eF, eG, t4, tL, w2, gd⟩ := c_verse w (X (6 * c + 1)) (X (6 * c + 2))
  refine zwp.gb (B := zb_verse) (lo := 204) zb_verse_at (m := 1) (j := 205) (ls' := zLw n c (none) (none)) (st' := [zr ((0, 10, 0) : zF)]) (h' := h) rfl ?_
  refine zc_sx (B := zb_verse) (lo := 204) (k := 1) zb_verse_at rfl (fun _ => rfl) hX hc hn (by omega) ?_
  refine zc_sx (B := zb_verse) (lo := 204) (k := 2) zb_verse_at rfl (fun _ => rfl) hX hc hn (by omega) ?_
  refine zwp.gb (B := zb_verse) (lo := 204) zb_verse_at (m := 1) (j := 216) (ls' := zLw n c (none) (none)) (st' := [zr ((90, 23, 1) : zF), zi (X (6 * c + 2)), zi (X (6 * c + 1)), zr ((0, 10, 0) : zF)]) (h' := h) rfl ?_
  refine zl_ci (s_L_verse_ok 0 ρ hρ pp (X (6 * c + 1)) (X (6 * c + 2)) 90 1 hpp h (k, h1) hR eF) (by omega) (zsb_e (B := zb_verse) (lo := 204) zb_verse_at rfl rfl) rfl (fun hR1 hX1 => ?_)
  refine zwp.gb (B := zb_verse) (lo := 204) zb_verse_at (m := 2) (j := 219) (ls' := zLw n c (some (zi k)) (none)) (st' := [zr ((52, 11, 0) : zF)]) (h' := h1) rfl ?_
  refine zc_sx (B := zb_verse) (lo := 204) (k := 1) zb_verse_at rfl (fun _ => rfl) (hX1.trans hX) hc hn (by omega) ?_
  refine zc_sx (B := zb_verse) (lo := 204) (k := 2) zb_verse_at rfl (fun _ => rfl) (hX1.trans hX) hc hn (by omega) ?_
  refine zl_ci (s_X11_verse_ok 0 _ hρ (X (6 * c + 1)) (X (6 * c + 2)) h1 (v, h2) hR1 eG) (by omega) (zsb_e (B := zb_verse) (lo := 204) zb_verse_at rfl rfl) rfl (fun hR2 hX2 => ?_)
  have iv2 : zIv X (c + 1) h2 := ⟨ρ, pp, tp, P, L2, w2, hR2, hρ, hpt, h3, h4, hJ.nx gd, hX2.trans (hX1.trans hX)⟩
  refine zwp.gb (B := zb_verse) (lo := 204) zb_verse_at (m := 2) (j := 232) (ls' := zLw n c (some (zi k)) (some (zi v))) (st' := [zr ((52, 11, 0) : zF)]) (h' := h2) rfl ?_
  refine zl_cp (s_X11_thrown_ok 0 _ hρ h2 (zI h2 52 4) hR2 rfl) (by omega) (zsb_e (B := zb_verse) (lo := 204) zb_verse_at rfl rfl) rfl ?_
  rw [t4]
  refine zwp.gb (B := zb_verse) (lo := 204) zb_verse_at (m := 1) (j := 234) (ls' := zLw n c (some (zi k)) (some (zi v))) (st' := [zi k, zi k]) (h' := h2) rfl ?_
  refine zwp.br (c := decide (k = k)) (j := 237) (ls' := zLw n c (some (zi k)) (some (zi v))) (st' := []) (h' := h2) (j2 := 235) (l2 := zLw n c (some (zi k)) (some (zi v))) (s2 := []) (h2 := h2) (zsb_e (B := zb_verse) (lo := 204) zb_verse_at rfl rfl) (fun _ => ?_) (fun e9 => absurd rfl (of_decide_eq_false e9))
  refine zwp.gb (B := zb_verse) (lo := 204) zb_verse_at (m := 1) (j := 238) (ls' := zLw n c (some (zi k)) (some (zi v))) (st' := [zi k]) (h' := h2) rfl ?_
  refine zwp.br (c := decide (¬ k = 0)) (j := 248) (ls' := zLw n c (some (zi k)) (some (zi v))) (st' := []) (h' := h2) (j2 := 239) (l2 := zLw n c (some (zi k)) (some (zi v))) (s2 := []) (h2 := h2) (zsb_e (B := zb_verse) (lo := 204) zb_verse_at rfl rfl) (fun _ => ?_) (fun e9 => ?_)
  · refine zwp.gb (B := zb_verse) (lo := 204) zb_verse_at (m := 1) (j := 1406) (ls' := zLw n c (some (zi k)) (some (zi v))) (st' := []) (h' := h2) rfl ?_
    exact kk _ _ _ iv2
  · have e8 : k = 0 := Classical.not_not.mp (of_decide_eq_false e9)
    refine zwp.gb (B := zb_verse) (lo := 204) zb_verse_at (m := 6) (j := 245) (ls' := zLw n c (some (zi k)) (some (zi v))) (st' := [zi (lg_cmp (zL h2 90 0) v.toInt64)]) (h' := h2) rfl ?_
    rw [tL e8, lg_cmp_rf]
    refine zwp.gb (B := zb_verse) (lo := 204) zb_verse_at (m := 2) (j := 1406) (ls' := zLw n c (some (zi k)) (some (zi v))) (st' := []) (h' := h2) rfl ?_
    exact kk _ _ _ iv2
noncomputable def zb_sail : List zA := [zE4 554 (.aload_n 1) 1 1 0 0 0,
  zE 555 (.aload_n 0) 1,
  zE4 556 (.iload 4) 2 4 0 0 0,
  zEc 558 (.iconst 1) 1 0 0 (1),
  zE 559 (.iadd) 1,
  zE 560 (.iaload) 1,
  zE 561 (.aload_n 0) 1,
  zE4 562 (.iload 4) 2 4 0 0 0,
  zEc 564 (.iconst 2) 1 0 0 (2),
  zE 565 (.iadd) 1,
  zE 566 (.iaload) 1,
  zE4 567 (.aload_n 3) 1 3 0 0 0,
  zE4 568 (.invokestatic 140) 3 124 4 0 0,
  zE4 571 (.istore 5) 2 5 0 0 0,
  zE4 573 (.aload_n 2) 1 2 0 0 0,
  zE 574 (.aload_n 0) 1,
  zE4 575 (.iload 4) 2 4 0 0 0,
  zEc 577 (.iconst 1) 1 0 0 (1),
  zE 578 (.iadd) 1,
  zE 579 (.iaload) 1,
  zE 580 (.aload_n 0) 1,
  zE4 581 (.iload 4) 2 4 0 0 0,
  zEc 583 (.iconst 2) 1 0 0 (2),
  zE 584 (.iadd) 1,
  zE 585 (.iaload) 1,
  zE4 586 (.invokevirtual 142) 3 125 3 0 11,
  zE4 589 (.istore 6) 2 6 0 0 0,
  zE4 591 (.aload_n 2) 1 2 0 0 0,
  zE4 592 (.invokevirtual 122) 3 84 1 0 11,
  zE4 595 (.iload 5) 2 5 0 0 0,
  zE4 597 (.if_icmp .eq 5) 3 282 0 0 0,
  zEc 600 (.iconst 0) 1 0 0 (0),
  zE4 601 (.ireturn) 1 1 0 0 0,
  zE4 602 (.iload 5) 2 5 0 0 0,
  zE4 604 (.ifCond .ne 15) 3 293 0 0 0,
  zE4 607 (.aload_n 3) 1 3 0 0 0,
  zEc 608 (.iconst 0) 1 0 0 (0),
  zE 609 (.laload) 1,
  zE4 610 (.iload 6) 2 6 0 0 0,
  zE 612 (.i2l) 1,
  zE 613 (.lcmp) 1,
  zE4 614 (.ifCond .eq 5) 3 293 0 0 0,
  zEc 617 (.iconst 0) 1 0 0 (0),
  zE4 618 (.ireturn) 1 1 0 0 0,
  zE4 619 (.goto 1736) 3 1406 0 0 0]
set_option maxRecDepth 1000000 in
theorem zb_sail_at : (zm_L_law.1.drop 249).take 45 = zb_sail := rfl
theorem w_sail {X : Nat → Int32} {n c d : Nat} {h : zH} {Q : zO → zH → Prop} (iv : zIv X c h) (hc : 6 * c + 6 ≤ n) (hn : n ≤ 384) (kk : ∀ h2 a b, zIv X (c + 1) h2 → zwp (d + 103) zm_L_law 1406 (zLw n c a b) [] h2 Q) : zwp (d + 103) zm_L_law 249 (zLw n c none none) [] h Q := by
  obtain ⟨ρ, pp, tp, P, L, w, hR, hρ, hpt, h3, h4, hJ, hX⟩ := iv
  have hpp : ρ 0 3 = some (pp, 3, 0) ∧ zPlS ρ pp := ⟨h3, zSh_pl hρ (by omega)⟩
  obtain ⟨k, h1, v, h2, L2, eF, eG, t4, tL, w2, gd⟩ := c_sail w (X (6 * c + 1)) (X (6 * c + 2))
  refine zwp.gb (B := zb_sail) (lo := 249) zb_sail_at (m := 1) (j := 250) (ls' := zLw n c (none) (none)) (st' := [zr ((0, 10, 0) : zF)]) (h' := h) rfl ?_
  refine zc_sx (B := zb_sail) (lo := 249) (k := 1) zb_sail_at rfl (fun _ => rfl) hX hc hn (by omega) ?_
  refine zc_sx (B := zb_sail) (lo := 249) (k := 2) zb_sail_at rfl (fun _ => rfl) hX hc hn (by omega) ?_
  refine zwp.gb (B := zb_sail) (lo := 249) zb_sail_at (m := 1) (j := 261) (ls' := zLw n c (none) (none)) (st' := [zr ((90, 23, 1) : zF), zi (X (6 * c + 2)), zi (X (6 * c + 1)), zr ((0, 10, 0) : zF)]) (h' := h) rfl ?_
  refine zl_ci (s_L_sail_ok 0 ρ hρ pp (X (6 * c + 1)) (X (6 * c + 2)) 90 1 hpp h (k, h1) hR eF) (by omega) (zsb_e (B := zb_sail) (lo := 249) zb_sail_at rfl rfl) rfl (fun hR1 hX1 => ?_)
  refine zwp.gb (B := zb_sail) (lo := 249) zb_sail_at (m := 2) (j := 264) (ls' := zLw n c (some (zi k)) (none)) (st' := [zr ((52, 11, 0) : zF)]) (h' := h1) rfl ?_
  refine zc_sx (B := zb_sail) (lo := 249) (k := 1) zb_sail_at rfl (fun _ => rfl) (hX1.trans hX) hc hn (by omega) ?_
  refine zc_sx (B := zb_sail) (lo := 249) (k := 2) zb_sail_at rfl (fun _ => rfl) (hX1.trans hX) hc hn (by omega) ?_
  refine zl_ci (s_X11_sail_ok 0 _ hρ (X (6 * c + 1)) (X (6 * c + 2)) h1 (v, h2) hR1 eG) (by omega) (zsb_e (B := zb_sail) (lo := 249) zb_sail_at rfl rfl) rfl (fun hR2 hX2 => ?_)
  have iv2 : zIv X (c + 1) h2 := ⟨ρ, pp, tp, P, L2, w2, hR2, hρ, hpt, h3, h4, hJ.nx gd, hX2.trans (hX1.trans hX)⟩
  refine zwp.gb (B := zb_sail) (lo := 249) zb_sail_at (m := 2) (j := 277) (ls' := zLw n c (some (zi k)) (some (zi v))) (st' := [zr ((52, 11, 0) : zF)]) (h' := h2) rfl ?_
  refine zl_cp (s_X11_thrown_ok 0 _ hρ h2 (zI h2 52 4) hR2 rfl) (by omega) (zsb_e (B := zb_sail) (lo := 249) zb_sail_at rfl rfl) rfl ?_
  rw [t4]
  refine zwp.gb (B := zb_sail) (lo := 249) zb_sail_at (m := 1) (j := 279) (ls' := zLw n c (some (zi k)) (some (zi v))) (st' := [zi k, zi k]) (h' := h2) rfl ?_
  refine zwp.br (c := decide (k = k)) (j := 282) (ls' := zLw n c (some (zi k)) (some (zi v))) (st' := []) (h' := h2) (j2 := 280) (l2 := zLw n c (some (zi k)) (some (zi v))) (s2 := []) (h2 := h2) (zsb_e (B := zb_sail) (lo := 249) zb_sail_at rfl rfl) (fun _ => ?_) (fun e9 => absurd rfl (of_decide_eq_false e9))
  refine zwp.gb (B := zb_sail) (lo := 249) zb_sail_at (m := 1) (j := 283) (ls' := zLw n c (some (zi k)) (some (zi v))) (st' := [zi k]) (h' := h2) rfl ?_
  refine zwp.br (c := decide (¬ k = 0)) (j := 293) (ls' := zLw n c (some (zi k)) (some (zi v))) (st' := []) (h' := h2) (j2 := 284) (l2 := zLw n c (some (zi k)) (some (zi v))) (s2 := []) (h2 := h2) (zsb_e (B := zb_sail) (lo := 249) zb_sail_at rfl rfl) (fun _ => ?_) (fun e9 => ?_)
  · refine zwp.gb (B := zb_sail) (lo := 249) zb_sail_at (m := 1) (j := 1406) (ls' := zLw n c (some (zi k)) (some (zi v))) (st' := []) (h' := h2) rfl ?_
    exact kk _ _ _ iv2
  · have e8 : k = 0 := Classical.not_not.mp (of_decide_eq_false e9)
    refine zwp.gb (B := zb_sail) (lo := 249) zb_sail_at (m := 6) (j := 290) (ls' := zLw n c (some (zi k)) (some (zi v))) (st' := [zi (lg_cmp (zL h2 90 0) v.toInt64)]) (h' := h2) rfl ?_
    rw [tL e8, lg_cmp_rf]
    refine zwp.gb (B := zb_sail) (lo := 249) zb_sail_at (m := 2) (j := 1406) (ls' := zLw n c (some (zi k)) (some (zi v))) (st' := []) (h' := h2) rfl ?_
    exact kk _ _ _ iv2
noncomputable def zb_skill : List zA := [zE4 622 (.aload_n 1) 1 1 0 0 0,
  zE 623 (.aload_n 0) 1,
  zE4 624 (.iload 4) 2 4 0 0 0,
  zEc 626 (.iconst 1) 1 0 0 (1),
  zE 627 (.iadd) 1,
  zE 628 (.iaload) 1,
  zE4 629 (.aload_n 3) 1 3 0 0 0,
  zE4 630 (.invokestatic 143) 3 128 3 0 0,
  zE4 633 (.istore 5) 2 5 0 0 0,
  zE4 635 (.aload_n 2) 1 2 0 0 0,
  zE 636 (.aload_n 0) 1,
  zE4 637 (.iload 4) 2 4 0 0 0,
  zEc 639 (.iconst 1) 1 0 0 (1),
  zE 640 (.iadd) 1,
  zE 641 (.iaload) 1,
  zE4 642 (.invokevirtual 145) 3 129 2 0 11,
  zE4 645 (.istore 6) 2 6 0 0 0,
  zE4 647 (.aload_n 2) 1 2 0 0 0,
  zE4 648 (.invokevirtual 122) 3 84 1 0 11,
  zE4 651 (.iload 5) 2 5 0 0 0,
  zE4 653 (.if_icmp .eq 5) 3 317 0 0 0,
  zEc 656 (.iconst 0) 1 0 0 (0),
  zE4 657 (.ireturn) 1 1 0 0 0,
  zE4 658 (.iload 5) 2 5 0 0 0,
  zE4 660 (.ifCond .ne 15) 3 328 0 0 0,
  zE4 663 (.aload_n 3) 1 3 0 0 0,
  zEc 664 (.iconst 0) 1 0 0 (0),
  zE 665 (.laload) 1,
  zE4 666 (.iload 6) 2 6 0 0 0,
  zE 668 (.i2l) 1,
  zE 669 (.lcmp) 1,
  zE4 670 (.ifCond .eq 5) 3 328 0 0 0,
  zEc 673 (.iconst 0) 1 0 0 (0),
  zE4 674 (.ireturn) 1 1 0 0 0,
  zE4 675 (.goto 1680) 3 1406 0 0 0]
set_option maxRecDepth 1000000 in
theorem zb_skill_at : (zm_L_law.1.drop 294).take 35 = zb_skill := rfl
theorem w_skill {X : Nat → Int32} {n c d : Nat} {h : zH} {Q : zO → zH → Prop} (iv : zIv X c h) (hc : 6 * c + 6 ≤ n) (hn : n ≤ 384) (kk : ∀ h2 a b, zIv X (c + 1) h2 → zwp (d + 103) zm_L_law 1406 (zLw n c a b) [] h2 Q) : zwp (d + 103) zm_L_law 294 (zLw n c none none) [] h Q := by
  obtain ⟨ρ, pp, tp, P, L, w, hR, hρ, hpt, h3, h4, hJ, hX⟩ := iv
  have hpp : ρ 0 3 = some (pp, 3, 0) ∧ zPlS ρ pp := ⟨h3, zSh_pl hρ (by omega)⟩
  obtain ⟨k, h1, v, h2, L2, eF, eG, t4, tL, w2, gd⟩ := c_skill w (X (6 * c + 1))
  refine zwp.gb (B := zb_skill) (lo := 294) zb_skill_at (m := 1) (j := 295) (ls' := zLw n c (none) (none)) (st' := [zr ((0, 10, 0) : zF)]) (h' := h) rfl ?_
  refine zc_sx (B := zb_skill) (lo := 294) (k := 1) zb_skill_at rfl (fun _ => rfl) hX hc hn (by omega) ?_
  refine zwp.gb (B := zb_skill) (lo := 294) zb_skill_at (m := 1) (j := 301) (ls' := zLw n c (none) (none)) (st' := [zr ((90, 23, 1) : zF), zi (X (6 * c + 1)), zr ((0, 10, 0) : zF)]) (h' := h) rfl ?_
  refine zl_ci (s_L_skill_ok 0 ρ hρ pp (X (6 * c + 1)) 90 1 hpp h (k, h1) hR eF) (by omega) (zsb_e (B := zb_skill) (lo := 294) zb_skill_at rfl rfl) rfl (fun hR1 hX1 => ?_)
  refine zwp.gb (B := zb_skill) (lo := 294) zb_skill_at (m := 2) (j := 304) (ls' := zLw n c (some (zi k)) (none)) (st' := [zr ((52, 11, 0) : zF)]) (h' := h1) rfl ?_
  refine zc_sx (B := zb_skill) (lo := 294) (k := 1) zb_skill_at rfl (fun _ => rfl) (hX1.trans hX) hc hn (by omega) ?_
  refine zl_ci (s_X11_skill_ok 0 _ hρ (X (6 * c + 1)) h1 (v, h2) hR1 eG) (by omega) (zsb_e (B := zb_skill) (lo := 294) zb_skill_at rfl rfl) rfl (fun hR2 hX2 => ?_)
  have iv2 : zIv X (c + 1) h2 := ⟨ρ, pp, tp, P, L2, w2, hR2, hρ, hpt, h3, h4, hJ.nx gd, hX2.trans (hX1.trans hX)⟩
  refine zwp.gb (B := zb_skill) (lo := 294) zb_skill_at (m := 2) (j := 312) (ls' := zLw n c (some (zi k)) (some (zi v))) (st' := [zr ((52, 11, 0) : zF)]) (h' := h2) rfl ?_
  refine zl_cp (s_X11_thrown_ok 0 _ hρ h2 (zI h2 52 4) hR2 rfl) (by omega) (zsb_e (B := zb_skill) (lo := 294) zb_skill_at rfl rfl) rfl ?_
  rw [t4]
  refine zwp.gb (B := zb_skill) (lo := 294) zb_skill_at (m := 1) (j := 314) (ls' := zLw n c (some (zi k)) (some (zi v))) (st' := [zi k, zi k]) (h' := h2) rfl ?_
  refine zwp.br (c := decide (k = k)) (j := 317) (ls' := zLw n c (some (zi k)) (some (zi v))) (st' := []) (h' := h2) (j2 := 315) (l2 := zLw n c (some (zi k)) (some (zi v))) (s2 := []) (h2 := h2) (zsb_e (B := zb_skill) (lo := 294) zb_skill_at rfl rfl) (fun _ => ?_) (fun e9 => absurd rfl (of_decide_eq_false e9))
  refine zwp.gb (B := zb_skill) (lo := 294) zb_skill_at (m := 1) (j := 318) (ls' := zLw n c (some (zi k)) (some (zi v))) (st' := [zi k]) (h' := h2) rfl ?_
  refine zwp.br (c := decide (¬ k = 0)) (j := 328) (ls' := zLw n c (some (zi k)) (some (zi v))) (st' := []) (h' := h2) (j2 := 319) (l2 := zLw n c (some (zi k)) (some (zi v))) (s2 := []) (h2 := h2) (zsb_e (B := zb_skill) (lo := 294) zb_skill_at rfl rfl) (fun _ => ?_) (fun e9 => ?_)
  · refine zwp.gb (B := zb_skill) (lo := 294) zb_skill_at (m := 1) (j := 1406) (ls' := zLw n c (some (zi k)) (some (zi v))) (st' := []) (h' := h2) rfl ?_
    exact kk _ _ _ iv2
  · have e8 : k = 0 := Classical.not_not.mp (of_decide_eq_false e9)
    refine zwp.gb (B := zb_skill) (lo := 294) zb_skill_at (m := 6) (j := 325) (ls' := zLw n c (some (zi k)) (some (zi v))) (st' := [zi (lg_cmp (zL h2 90 0) v.toInt64)]) (h' := h2) rfl ?_
    rw [tL e8, lg_cmp_rf]
    refine zwp.gb (B := zb_skill) (lo := 294) zb_skill_at (m := 2) (j := 1406) (ls' := zLw n c (some (zi k)) (some (zi v))) (st' := []) (h' := h2) rfl ?_
    exact kk _ _ _ iv2
