/-! ===== the law, case by case, 4 ===== -/
noncomputable def zb_dating : List zA := [zE4 1400 (.aload_n 1) 1 1 0 0 0,
  zE 1401 (.aload_n 0) 1,
  zE4 1402 (.iload 4) 2 4 0 0 0,
  zEc 1404 (.iconst 1) 1 0 0 (1),
  zE 1405 (.iadd) 1,
  zE 1406 (.iaload) 1,
  zE 1407 (.aload_n 0) 1,
  zE4 1408 (.iload 4) 2 4 0 0 0,
  zEc 1410 (.iconst 2) 1 0 0 (2),
  zE 1411 (.iadd) 1,
  zE 1412 (.iaload) 1,
  zE4 1413 (.aload_n 3) 1 3 0 0 0,
  zE4 1414 (.invokestatic 200) 3 231 4 0 0,
  zE4 1417 (.istore 5) 2 5 0 0 0,
  zE4 1419 (.aload_n 2) 1 2 0 0 0,
  zE 1420 (.aload_n 0) 1,
  zE4 1421 (.iload 4) 2 4 0 0 0,
  zEc 1423 (.iconst 1) 1 0 0 (1),
  zE 1424 (.iadd) 1,
  zE 1425 (.iaload) 1,
  zE 1426 (.aload_n 0) 1,
  zE4 1427 (.iload 4) 2 4 0 0 0,
  zEc 1429 (.iconst 2) 1 0 0 (2),
  zE 1430 (.iadd) 1,
  zE 1431 (.iaload) 1,
  zE4 1432 (.invokevirtual 202) 3 233 3 0 11,
  zE4 1435 (.istore 6) 2 6 0 0 0,
  zE4 1437 (.aload_n 2) 1 2 0 0 0,
  zE4 1438 (.invokevirtual 122) 3 84 1 0 11,
  zE4 1441 (.iload 5) 2 5 0 0 0,
  zE4 1443 (.if_icmp .eq 5) 3 824 0 0 0,
  zEc 1446 (.iconst 0) 1 0 0 (0),
  zE4 1447 (.ireturn) 1 1 0 0 0,
  zE4 1448 (.iload 5) 2 5 0 0 0,
  zE4 1450 (.ifCond .ne 15) 3 835 0 0 0,
  zE4 1453 (.aload_n 3) 1 3 0 0 0,
  zEc 1454 (.iconst 0) 1 0 0 (0),
  zE 1455 (.laload) 1,
  zE4 1456 (.iload 6) 2 6 0 0 0,
  zE 1458 (.i2l) 1,
  zE 1459 (.lcmp) 1,
  zE4 1460 (.ifCond .eq 5) 3 835 0 0 0,
  zEc 1463 (.iconst 0) 1 0 0 (0),
  zE4 1464 (.ireturn) 1 1 0 0 0,
  zE4 1465 (.goto 890) 3 1406 0 0 0]
set_option maxRecDepth 1000000 in
theorem zb_dating_at : (zm_L_law.1.drop 791).take 45 = zb_dating := rfl
theorem w_dating {X : Nat → Int32} {n c d : Nat} {h : zH} {Q : zO → zH → Prop} (iv : zIv X c h) (hc : 6 * c + 6 ≤ n) (hn : n ≤ 384) (kk : ∀ h2 a b, zIv X (c + 1) h2 → zwp (d + 103) zm_L_law 1406 (zLw n c a b) [] h2 Q) : zwp (d + 103) zm_L_law 791 (zLw n c none none) [] h Q := by
  obtain ⟨ρ, pp, tp, P, L, w, hR, hρ, hpt, h3, h4, hJ, hX⟩ := iv
  have hpp : ρ 0 3 = some (pp, 3, 0) ∧ zPlS ρ pp := ⟨h3, zSh_pl hρ (by omega)⟩
  obtain ⟨k, h1, v, h2, L2, eF, eG, t4, tL, w2, gd⟩ := c_dating w (X (6 * c + 1)) (X (6 * c + 2))
  refine zwp.gb (B := zb_dating) (lo := 791) zb_dating_at (m := 1) (j := 792) (ls' := zLw n c (none) (none)) (st' := [zr ((0, 10, 0) : zF)]) (h' := h) rfl ?_
  refine zc_sx (B := zb_dating) (lo := 791) (k := 1) zb_dating_at rfl (fun _ => rfl) hX hc hn (by omega) ?_
  refine zc_sx (B := zb_dating) (lo := 791) (k := 2) zb_dating_at rfl (fun _ => rfl) hX hc hn (by omega) ?_
  refine zwp.gb (B := zb_dating) (lo := 791) zb_dating_at (m := 1) (j := 803) (ls' := zLw n c (none) (none)) (st' := [zr ((90, 23, 1) : zF), zi (X (6 * c + 2)), zi (X (6 * c + 1)), zr ((0, 10, 0) : zF)]) (h' := h) rfl ?_
  refine zl_ci (s_L_dating_ok 0 ρ hρ pp (X (6 * c + 1)) (X (6 * c + 2)) 90 1 hpp h (k, h1) hR eF) (by omega) (zsb_e (B := zb_dating) (lo := 791) zb_dating_at rfl rfl) rfl (fun hR1 hX1 => ?_)
  refine zwp.gb (B := zb_dating) (lo := 791) zb_dating_at (m := 2) (j := 806) (ls' := zLw n c (some (zi k)) (none)) (st' := [zr ((52, 11, 0) : zF)]) (h' := h1) rfl ?_
  refine zc_sx (B := zb_dating) (lo := 791) (k := 1) zb_dating_at rfl (fun _ => rfl) (hX1.trans hX) hc hn (by omega) ?_
  refine zc_sx (B := zb_dating) (lo := 791) (k := 2) zb_dating_at rfl (fun _ => rfl) (hX1.trans hX) hc hn (by omega) ?_
  refine zl_ci (s_X11_dating_ok 0 _ hρ (X (6 * c + 1)) (X (6 * c + 2)) h1 (v, h2) hR1 eG) (by omega) (zsb_e (B := zb_dating) (lo := 791) zb_dating_at rfl rfl) rfl (fun hR2 hX2 => ?_)
  have iv2 : zIv X (c + 1) h2 := ⟨ρ, pp, tp, P, L2, w2, hR2, hρ, hpt, h3, h4, hJ.nx gd, hX2.trans (hX1.trans hX)⟩
  refine zwp.gb (B := zb_dating) (lo := 791) zb_dating_at (m := 2) (j := 819) (ls' := zLw n c (some (zi k)) (some (zi v))) (st' := [zr ((52, 11, 0) : zF)]) (h' := h2) rfl ?_
  refine zl_cp (s_X11_thrown_ok 0 _ hρ h2 (zI h2 52 4) hR2 rfl) (by omega) (zsb_e (B := zb_dating) (lo := 791) zb_dating_at rfl rfl) rfl ?_
  rw [t4]
  refine zwp.gb (B := zb_dating) (lo := 791) zb_dating_at (m := 1) (j := 821) (ls' := zLw n c (some (zi k)) (some (zi v))) (st' := [zi k, zi k]) (h' := h2) rfl ?_
  refine zwp.br (c := decide (k = k)) (j := 824) (ls' := zLw n c (some (zi k)) (some (zi v))) (st' := []) (h' := h2) (j2 := 822) (l2 := zLw n c (some (zi k)) (some (zi v))) (s2 := []) (h2 := h2) (zsb_e (B := zb_dating) (lo := 791) zb_dating_at rfl rfl) (fun _ => ?_) (fun e9 => absurd rfl (of_decide_eq_false e9))
  refine zwp.gb (B := zb_dating) (lo := 791) zb_dating_at (m := 1) (j := 825) (ls' := zLw n c (some (zi k)) (some (zi v))) (st' := [zi k]) (h' := h2) rfl ?_
  refine zwp.br (c := decide (¬ k = 0)) (j := 835) (ls' := zLw n c (some (zi k)) (some (zi v))) (st' := []) (h' := h2) (j2 := 826) (l2 := zLw n c (some (zi k)) (some (zi v))) (s2 := []) (h2 := h2) (zsb_e (B := zb_dating) (lo := 791) zb_dating_at rfl rfl) (fun _ => ?_) (fun e9 => ?_)
  · refine zwp.gb (B := zb_dating) (lo := 791) zb_dating_at (m := 1) (j := 1406) (ls' := zLw n c (some (zi k)) (some (zi v))) (st' := []) (h' := h2) rfl ?_
    exact kk _ _ _ iv2
  · have e8 : k = 0 := Classical.not_not.mp (of_decide_eq_false e9)
    refine zwp.gb (B := zb_dating) (lo := 791) zb_dating_at (m := 6) (j := 832) (ls' := zLw n c (some (zi k)) (some (zi v))) (st' := [zi (lg_cmp (zL h2 90 0) v.toInt64)]) (h' := h2) rfl ?_
    rw [tL e8, lg_cmp_rf]
    refine zwp.gb (B := zb_dating) (lo := 791) zb_dating_at (m := 2) (j := 1406) (ls' := zLw n c (some (zi k)) (some (zi v))) (st' := []) (h' := h2) rfl ?_
    exact kk _ _ _ iv2
noncomputable def zb_before : List zA := [zE4 1468 (.aload_n 1) 1 1 0 0 0,
  zE 1469 (.aload_n 0) 1,
  zE4 1470 (.iload 4) 2 4 0 0 0,
  zEc 1472 (.iconst 1) 1 0 0 (1),
  zE 1473 (.iadd) 1,
  zE 1474 (.iaload) 1,
  zE 1475 (.aload_n 0) 1,
  zE4 1476 (.iload 4) 2 4 0 0 0,
  zEc 1478 (.iconst 2) 1 0 0 (2),
  zE 1479 (.iadd) 1,
  zE 1480 (.iaload) 1,
  zE4 1481 (.aload_n 3) 1 3 0 0 0,
  zE4 1482 (.invokestatic 203) 3 235 4 0 0,
  zE4 1485 (.istore 5) 2 5 0 0 0,
  zE4 1487 (.aload_n 2) 1 2 0 0 0,
  zE 1488 (.aload_n 0) 1,
  zE4 1489 (.iload 4) 2 4 0 0 0,
  zEc 1491 (.iconst 1) 1 0 0 (1),
  zE 1492 (.iadd) 1,
  zE 1493 (.iaload) 1,
  zE 1494 (.aload_n 0) 1,
  zE4 1495 (.iload 4) 2 4 0 0 0,
  zEc 1497 (.iconst 2) 1 0 0 (2),
  zE 1498 (.iadd) 1,
  zE 1499 (.iaload) 1,
  zE4 1500 (.invokevirtual 205) 3 236 3 0 11,
  zE4 1503 (.istore 6) 2 6 0 0 0,
  zE4 1505 (.aload_n 2) 1 2 0 0 0,
  zE4 1506 (.invokevirtual 122) 3 84 1 0 11,
  zE4 1509 (.iload 5) 2 5 0 0 0,
  zE4 1511 (.if_icmp .eq 5) 3 869 0 0 0,
  zEc 1514 (.iconst 0) 1 0 0 (0),
  zE4 1515 (.ireturn) 1 1 0 0 0,
  zE4 1516 (.iload 5) 2 5 0 0 0,
  zE4 1518 (.ifCond .ne 15) 3 880 0 0 0,
  zE4 1521 (.aload_n 3) 1 3 0 0 0,
  zEc 1522 (.iconst 0) 1 0 0 (0),
  zE 1523 (.laload) 1,
  zE4 1524 (.iload 6) 2 6 0 0 0,
  zE 1526 (.i2l) 1,
  zE 1527 (.lcmp) 1,
  zE4 1528 (.ifCond .eq 5) 3 880 0 0 0,
  zEc 1531 (.iconst 0) 1 0 0 (0),
  zE4 1532 (.ireturn) 1 1 0 0 0,
  zE4 1533 (.goto 822) 3 1406 0 0 0]
set_option maxRecDepth 1000000 in
theorem zb_before_at : (zm_L_law.1.drop 836).take 45 = zb_before := rfl
theorem w_before {X : Nat → Int32} {n c d : Nat} {h : zH} {Q : zO → zH → Prop} (iv : zIv X c h) (hc : 6 * c + 6 ≤ n) (hn : n ≤ 384) (kk : ∀ h2 a b, zIv X (c + 1) h2 → zwp (d + 103) zm_L_law 1406 (zLw n c a b) [] h2 Q) : zwp (d + 103) zm_L_law 836 (zLw n c none none) [] h Q := by
  obtain ⟨ρ, pp, tp, P, L, w, hR, hρ, hpt, h3, h4, hJ, hX⟩ := iv
  have hpp : ρ 0 3 = some (pp, 3, 0) ∧ zPlS ρ pp := ⟨h3, zSh_pl hρ (by omega)⟩
  obtain ⟨k, h1, v, h2, L2, eF, eG, t4, tL, w2, gd⟩ := c_before w (X (6 * c + 1)) (X (6 * c + 2))
  refine zwp.gb (B := zb_before) (lo := 836) zb_before_at (m := 1) (j := 837) (ls' := zLw n c (none) (none)) (st' := [zr ((0, 10, 0) : zF)]) (h' := h) rfl ?_
  refine zc_sx (B := zb_before) (lo := 836) (k := 1) zb_before_at rfl (fun _ => rfl) hX hc hn (by omega) ?_
  refine zc_sx (B := zb_before) (lo := 836) (k := 2) zb_before_at rfl (fun _ => rfl) hX hc hn (by omega) ?_
  refine zwp.gb (B := zb_before) (lo := 836) zb_before_at (m := 1) (j := 848) (ls' := zLw n c (none) (none)) (st' := [zr ((90, 23, 1) : zF), zi (X (6 * c + 2)), zi (X (6 * c + 1)), zr ((0, 10, 0) : zF)]) (h' := h) rfl ?_
  refine zl_ci (s_L_before_ok 0 ρ hρ pp (X (6 * c + 1)) (X (6 * c + 2)) 90 1 hpp h (k, h1) hR eF) (by omega) (zsb_e (B := zb_before) (lo := 836) zb_before_at rfl rfl) rfl (fun hR1 hX1 => ?_)
  refine zwp.gb (B := zb_before) (lo := 836) zb_before_at (m := 2) (j := 851) (ls' := zLw n c (some (zi k)) (none)) (st' := [zr ((52, 11, 0) : zF)]) (h' := h1) rfl ?_
  refine zc_sx (B := zb_before) (lo := 836) (k := 1) zb_before_at rfl (fun _ => rfl) (hX1.trans hX) hc hn (by omega) ?_
  refine zc_sx (B := zb_before) (lo := 836) (k := 2) zb_before_at rfl (fun _ => rfl) (hX1.trans hX) hc hn (by omega) ?_
  refine zl_ci (s_X11_before_ok 0 _ hρ (X (6 * c + 1)) (X (6 * c + 2)) h1 (v, h2) hR1 eG) (by omega) (zsb_e (B := zb_before) (lo := 836) zb_before_at rfl rfl) rfl (fun hR2 hX2 => ?_)
  have iv2 : zIv X (c + 1) h2 := ⟨ρ, pp, tp, P, L2, w2, hR2, hρ, hpt, h3, h4, hJ.nx gd, hX2.trans (hX1.trans hX)⟩
  refine zwp.gb (B := zb_before) (lo := 836) zb_before_at (m := 2) (j := 864) (ls' := zLw n c (some (zi k)) (some (zi v))) (st' := [zr ((52, 11, 0) : zF)]) (h' := h2) rfl ?_
  refine zl_cp (s_X11_thrown_ok 0 _ hρ h2 (zI h2 52 4) hR2 rfl) (by omega) (zsb_e (B := zb_before) (lo := 836) zb_before_at rfl rfl) rfl ?_
  rw [t4]
  refine zwp.gb (B := zb_before) (lo := 836) zb_before_at (m := 1) (j := 866) (ls' := zLw n c (some (zi k)) (some (zi v))) (st' := [zi k, zi k]) (h' := h2) rfl ?_
  refine zwp.br (c := decide (k = k)) (j := 869) (ls' := zLw n c (some (zi k)) (some (zi v))) (st' := []) (h' := h2) (j2 := 867) (l2 := zLw n c (some (zi k)) (some (zi v))) (s2 := []) (h2 := h2) (zsb_e (B := zb_before) (lo := 836) zb_before_at rfl rfl) (fun _ => ?_) (fun e9 => absurd rfl (of_decide_eq_false e9))
  refine zwp.gb (B := zb_before) (lo := 836) zb_before_at (m := 1) (j := 870) (ls' := zLw n c (some (zi k)) (some (zi v))) (st' := [zi k]) (h' := h2) rfl ?_
  refine zwp.br (c := decide (¬ k = 0)) (j := 880) (ls' := zLw n c (some (zi k)) (some (zi v))) (st' := []) (h' := h2) (j2 := 871) (l2 := zLw n c (some (zi k)) (some (zi v))) (s2 := []) (h2 := h2) (zsb_e (B := zb_before) (lo := 836) zb_before_at rfl rfl) (fun _ => ?_) (fun e9 => ?_)
  · refine zwp.gb (B := zb_before) (lo := 836) zb_before_at (m := 1) (j := 1406) (ls' := zLw n c (some (zi k)) (some (zi v))) (st' := []) (h' := h2) rfl ?_
    exact kk _ _ _ iv2
  · have e8 : k = 0 := Classical.not_not.mp (of_decide_eq_false e9)
    refine zwp.gb (B := zb_before) (lo := 836) zb_before_at (m := 6) (j := 877) (ls' := zLw n c (some (zi k)) (some (zi v))) (st' := [zi (lg_cmp (zL h2 90 0) v.toInt64)]) (h' := h2) rfl ?_
    rw [tL e8, lg_cmp_rf]
    refine zwp.gb (B := zb_before) (lo := 836) zb_before_at (m := 2) (j := 1406) (ls' := zLw n c (some (zi k)) (some (zi v))) (st' := []) (h' := h2) rfl ?_
    exact kk _ _ _ iv2
noncomputable def zb_strongest : List zA := [zE4 1536 (.aload_n 1) 1 1 0 0 0,
  zE 1537 (.aload_n 0) 1,
  zE4 1538 (.iload 4) 2 4 0 0 0,
  zEc 1540 (.iconst 1) 1 0 0 (1),
  zE 1541 (.iadd) 1,
  zE 1542 (.iaload) 1,
  zE4 1543 (.aload_n 3) 1 3 0 0 0,
  zE4 1544 (.invokestatic 206) 3 238 3 0 0,
  zE4 1547 (.istore 5) 2 5 0 0 0,
  zE4 1549 (.aload_n 2) 1 2 0 0 0,
  zE 1550 (.aload_n 0) 1,
  zE4 1551 (.iload 4) 2 4 0 0 0,
  zEc 1553 (.iconst 1) 1 0 0 (1),
  zE 1554 (.iadd) 1,
  zE 1555 (.iaload) 1,
  zE4 1556 (.invokevirtual 208) 3 239 2 0 11,
  zE4 1559 (.istore 6) 2 6 0 0 0,
  zE4 1561 (.aload_n 2) 1 2 0 0 0,
  zE4 1562 (.invokevirtual 122) 3 84 1 0 11,
  zE4 1565 (.iload 5) 2 5 0 0 0,
  zE4 1567 (.if_icmp .eq 5) 3 904 0 0 0,
  zEc 1570 (.iconst 0) 1 0 0 (0),
  zE4 1571 (.ireturn) 1 1 0 0 0,
  zE4 1572 (.iload 5) 2 5 0 0 0,
  zE4 1574 (.ifCond .ne 15) 3 915 0 0 0,
  zE4 1577 (.aload_n 3) 1 3 0 0 0,
  zEc 1578 (.iconst 0) 1 0 0 (0),
  zE 1579 (.laload) 1,
  zE4 1580 (.iload 6) 2 6 0 0 0,
  zE 1582 (.i2l) 1,
  zE 1583 (.lcmp) 1,
  zE4 1584 (.ifCond .eq 5) 3 915 0 0 0,
  zEc 1587 (.iconst 0) 1 0 0 (0),
  zE4 1588 (.ireturn) 1 1 0 0 0,
  zE4 1589 (.goto 766) 3 1406 0 0 0]
set_option maxRecDepth 1000000 in
theorem zb_strongest_at : (zm_L_law.1.drop 881).take 35 = zb_strongest := rfl
theorem w_strongest {X : Nat → Int32} {n c d : Nat} {h : zH} {Q : zO → zH → Prop} (iv : zIv X c h) (hc : 6 * c + 6 ≤ n) (hn : n ≤ 384) (kk : ∀ h2 a b, zIv X (c + 1) h2 → zwp (d + 103) zm_L_law 1406 (zLw n c a b) [] h2 Q) : zwp (d + 103) zm_L_law 881 (zLw n c none none) [] h Q := by
  obtain ⟨ρ, pp, tp, P, L, w, hR, hρ, hpt, h3, h4, hJ, hX⟩ := iv
  have hpp : ρ 0 3 = some (pp, 3, 0) ∧ zPlS ρ pp := ⟨h3, zSh_pl hρ (by omega)⟩
  obtain ⟨k, h1, v, h2, L2, eF, eG, t4, tL, w2, gd⟩ := c_strongest w (X (6 * c + 1))
  refine zwp.gb (B := zb_strongest) (lo := 881) zb_strongest_at (m := 1) (j := 882) (ls' := zLw n c (none) (none)) (st' := [zr ((0, 10, 0) : zF)]) (h' := h) rfl ?_
  refine zc_sx (B := zb_strongest) (lo := 881) (k := 1) zb_strongest_at rfl (fun _ => rfl) hX hc hn (by omega) ?_
  refine zwp.gb (B := zb_strongest) (lo := 881) zb_strongest_at (m := 1) (j := 888) (ls' := zLw n c (none) (none)) (st' := [zr ((90, 23, 1) : zF), zi (X (6 * c + 1)), zr ((0, 10, 0) : zF)]) (h' := h) rfl ?_
  refine zl_ci (s_L_strongest_ok 0 ρ hρ pp (X (6 * c + 1)) 90 1 hpp h (k, h1) hR eF) (by omega) (zsb_e (B := zb_strongest) (lo := 881) zb_strongest_at rfl rfl) rfl (fun hR1 hX1 => ?_)
  refine zwp.gb (B := zb_strongest) (lo := 881) zb_strongest_at (m := 2) (j := 891) (ls' := zLw n c (some (zi k)) (none)) (st' := [zr ((52, 11, 0) : zF)]) (h' := h1) rfl ?_
  refine zc_sx (B := zb_strongest) (lo := 881) (k := 1) zb_strongest_at rfl (fun _ => rfl) (hX1.trans hX) hc hn (by omega) ?_
  refine zl_ci (s_X11_strongest_ok 0 _ hρ (X (6 * c + 1)) h1 (v, h2) hR1 eG) (by omega) (zsb_e (B := zb_strongest) (lo := 881) zb_strongest_at rfl rfl) rfl (fun hR2 hX2 => ?_)
  have iv2 : zIv X (c + 1) h2 := ⟨ρ, pp, tp, P, L2, w2, hR2, hρ, hpt, h3, h4, hJ.nx gd, hX2.trans (hX1.trans hX)⟩
  refine zwp.gb (B := zb_strongest) (lo := 881) zb_strongest_at (m := 2) (j := 899) (ls' := zLw n c (some (zi k)) (some (zi v))) (st' := [zr ((52, 11, 0) : zF)]) (h' := h2) rfl ?_
  refine zl_cp (s_X11_thrown_ok 0 _ hρ h2 (zI h2 52 4) hR2 rfl) (by omega) (zsb_e (B := zb_strongest) (lo := 881) zb_strongest_at rfl rfl) rfl ?_
  rw [t4]
  refine zwp.gb (B := zb_strongest) (lo := 881) zb_strongest_at (m := 1) (j := 901) (ls' := zLw n c (some (zi k)) (some (zi v))) (st' := [zi k, zi k]) (h' := h2) rfl ?_
  refine zwp.br (c := decide (k = k)) (j := 904) (ls' := zLw n c (some (zi k)) (some (zi v))) (st' := []) (h' := h2) (j2 := 902) (l2 := zLw n c (some (zi k)) (some (zi v))) (s2 := []) (h2 := h2) (zsb_e (B := zb_strongest) (lo := 881) zb_strongest_at rfl rfl) (fun _ => ?_) (fun e9 => absurd rfl (of_decide_eq_false e9))
  refine zwp.gb (B := zb_strongest) (lo := 881) zb_strongest_at (m := 1) (j := 905) (ls' := zLw n c (some (zi k)) (some (zi v))) (st' := [zi k]) (h' := h2) rfl ?_
  refine zwp.br (c := decide (¬ k = 0)) (j := 915) (ls' := zLw n c (some (zi k)) (some (zi v))) (st' := []) (h' := h2) (j2 := 906) (l2 := zLw n c (some (zi k)) (some (zi v))) (s2 := []) (h2 := h2) (zsb_e (B := zb_strongest) (lo := 881) zb_strongest_at rfl rfl) (fun _ => ?_) (fun e9 => ?_)
  · refine zwp.gb (B := zb_strongest) (lo := 881) zb_strongest_at (m := 1) (j := 1406) (ls' := zLw n c (some (zi k)) (some (zi v))) (st' := []) (h' := h2) rfl ?_
    exact kk _ _ _ iv2
  · have e8 : k = 0 := Classical.not_not.mp (of_decide_eq_false e9)
    refine zwp.gb (B := zb_strongest) (lo := 881) zb_strongest_at (m := 6) (j := 912) (ls' := zLw n c (some (zi k)) (some (zi v))) (st' := [zi (lg_cmp (zL h2 90 0) v.toInt64)]) (h' := h2) rfl ?_
    rw [tL e8, lg_cmp_rf]
    refine zwp.gb (B := zb_strongest) (lo := 881) zb_strongest_at (m := 2) (j := 1406) (ls' := zLw n c (some (zi k)) (some (zi v))) (st' := []) (h' := h2) rfl ?_
    exact kk _ _ _ iv2
noncomputable def zb_span : List zA := [zE4 1592 (.aload_n 1) 1 1 0 0 0,
  zE 1593 (.aload_n 0) 1,
  zE4 1594 (.iload 4) 2 4 0 0 0,
  zEc 1596 (.iconst 1) 1 0 0 (1),
  zE 1597 (.iadd) 1,
  zE 1598 (.iaload) 1,
  zE4 1599 (.aload_n 3) 1 3 0 0 0,
  zE4 1600 (.invokestatic 209) 3 241 3 0 0,
  zE4 1603 (.istore 5) 2 5 0 0 0,
  zE4 1605 (.aload_n 2) 1 2 0 0 0,
  zE 1606 (.aload_n 0) 1,
  zE4 1607 (.iload 4) 2 4 0 0 0,
  zEc 1609 (.iconst 1) 1 0 0 (1),
  zE 1610 (.iadd) 1,
  zE 1611 (.iaload) 1,
  zE4 1612 (.invokevirtual 211) 3 242 2 0 11,
  zE4 1615 (.istore 6) 2 6 0 0 0,
  zE4 1617 (.aload_n 2) 1 2 0 0 0,
  zE4 1618 (.invokevirtual 122) 3 84 1 0 11,
  zE4 1621 (.iload 5) 2 5 0 0 0,
  zE4 1623 (.if_icmp .eq 5) 3 939 0 0 0,
  zEc 1626 (.iconst 0) 1 0 0 (0),
  zE4 1627 (.ireturn) 1 1 0 0 0,
  zE4 1628 (.iload 5) 2 5 0 0 0,
  zE4 1630 (.ifCond .ne 15) 3 950 0 0 0,
  zE4 1633 (.aload_n 3) 1 3 0 0 0,
  zEc 1634 (.iconst 0) 1 0 0 (0),
  zE 1635 (.laload) 1,
  zE4 1636 (.iload 6) 2 6 0 0 0,
  zE 1638 (.i2l) 1,
  zE 1639 (.lcmp) 1,
  zE4 1640 (.ifCond .eq 5) 3 950 0 0 0,
  zEc 1643 (.iconst 0) 1 0 0 (0),
  zE4 1644 (.ireturn) 1 1 0 0 0,
  zE4 1645 (.goto 710) 3 1406 0 0 0]
set_option maxRecDepth 1000000 in
theorem zb_span_at : (zm_L_law.1.drop 916).take 35 = zb_span := rfl
theorem w_span {X : Nat → Int32} {n c d : Nat} {h : zH} {Q : zO → zH → Prop} (iv : zIv X c h) (hc : 6 * c + 6 ≤ n) (hn : n ≤ 384) (kk : ∀ h2 a b, zIv X (c + 1) h2 → zwp (d + 103) zm_L_law 1406 (zLw n c a b) [] h2 Q) : zwp (d + 103) zm_L_law 916 (zLw n c none none) [] h Q := by
  obtain ⟨ρ, pp, tp, P, L, w, hR, hρ, hpt, h3, h4, hJ, hX⟩ := iv
  have hpp : ρ 0 3 = some (pp, 3, 0) ∧ zPlS ρ pp := ⟨h3, zSh_pl hρ (by omega)⟩
  obtain ⟨k, h1, v, h2, L2, eF, eG, t4, tL, w2, gd⟩ := c_span w (X (6 * c + 1))
  refine zwp.gb (B := zb_span) (lo := 916) zb_span_at (m := 1) (j := 917) (ls' := zLw n c (none) (none)) (st' := [zr ((0, 10, 0) : zF)]) (h' := h) rfl ?_
  refine zc_sx (B := zb_span) (lo := 916) (k := 1) zb_span_at rfl (fun _ => rfl) hX hc hn (by omega) ?_
  refine zwp.gb (B := zb_span) (lo := 916) zb_span_at (m := 1) (j := 923) (ls' := zLw n c (none) (none)) (st' := [zr ((90, 23, 1) : zF), zi (X (6 * c + 1)), zr ((0, 10, 0) : zF)]) (h' := h) rfl ?_
  refine zl_ci (s_L_span_ok 0 ρ hρ pp (X (6 * c + 1)) 90 1 hpp h (k, h1) hR eF) (by omega) (zsb_e (B := zb_span) (lo := 916) zb_span_at rfl rfl) rfl (fun hR1 hX1 => ?_)
  refine zwp.gb (B := zb_span) (lo := 916) zb_span_at (m := 2) (j := 926) (ls' := zLw n c (some (zi k)) (none)) (st' := [zr ((52, 11, 0) : zF)]) (h' := h1) rfl ?_
  refine zc_sx (B := zb_span) (lo := 916) (k := 1) zb_span_at rfl (fun _ => rfl) (hX1.trans hX) hc hn (by omega) ?_
  refine zl_ci (s_X11_span_ok 0 _ hρ (X (6 * c + 1)) h1 (v, h2) hR1 eG) (by omega) (zsb_e (B := zb_span) (lo := 916) zb_span_at rfl rfl) rfl (fun hR2 hX2 => ?_)
  have iv2 : zIv X (c + 1) h2 := ⟨ρ, pp, tp, P, L2, w2, hR2, hρ, hpt, h3, h4, hJ.nx gd, hX2.trans (hX1.trans hX)⟩
  refine zwp.gb (B := zb_span) (lo := 916) zb_span_at (m := 2) (j := 934) (ls' := zLw n c (some (zi k)) (some (zi v))) (st' := [zr ((52, 11, 0) : zF)]) (h' := h2) rfl ?_
  refine zl_cp (s_X11_thrown_ok 0 _ hρ h2 (zI h2 52 4) hR2 rfl) (by omega) (zsb_e (B := zb_span) (lo := 916) zb_span_at rfl rfl) rfl ?_
  rw [t4]
  refine zwp.gb (B := zb_span) (lo := 916) zb_span_at (m := 1) (j := 936) (ls' := zLw n c (some (zi k)) (some (zi v))) (st' := [zi k, zi k]) (h' := h2) rfl ?_
  refine zwp.br (c := decide (k = k)) (j := 939) (ls' := zLw n c (some (zi k)) (some (zi v))) (st' := []) (h' := h2) (j2 := 937) (l2 := zLw n c (some (zi k)) (some (zi v))) (s2 := []) (h2 := h2) (zsb_e (B := zb_span) (lo := 916) zb_span_at rfl rfl) (fun _ => ?_) (fun e9 => absurd rfl (of_decide_eq_false e9))
  refine zwp.gb (B := zb_span) (lo := 916) zb_span_at (m := 1) (j := 940) (ls' := zLw n c (some (zi k)) (some (zi v))) (st' := [zi k]) (h' := h2) rfl ?_
  refine zwp.br (c := decide (¬ k = 0)) (j := 950) (ls' := zLw n c (some (zi k)) (some (zi v))) (st' := []) (h' := h2) (j2 := 941) (l2 := zLw n c (some (zi k)) (some (zi v))) (s2 := []) (h2 := h2) (zsb_e (B := zb_span) (lo := 916) zb_span_at rfl rfl) (fun _ => ?_) (fun e9 => ?_)
  · refine zwp.gb (B := zb_span) (lo := 916) zb_span_at (m := 1) (j := 1406) (ls' := zLw n c (some (zi k)) (some (zi v))) (st' := []) (h' := h2) rfl ?_
    exact kk _ _ _ iv2
  · have e8 : k = 0 := Classical.not_not.mp (of_decide_eq_false e9)
    refine zwp.gb (B := zb_span) (lo := 916) zb_span_at (m := 6) (j := 947) (ls' := zLw n c (some (zi k)) (some (zi v))) (st' := [zi (lg_cmp (zL h2 90 0) v.toInt64)]) (h' := h2) rfl ?_
    rw [tL e8, lg_cmp_rf]
    refine zwp.gb (B := zb_span) (lo := 916) zb_span_at (m := 2) (j := 1406) (ls' := zLw n c (some (zi k)) (some (zi v))) (st' := []) (h' := h2) rfl ?_
    exact kk _ _ _ iv2
noncomputable def zb_mirrored : List zA := [zE4 1648 (.aload_n 1) 1 1 0 0 0,
  zE 1649 (.aload_n 0) 1,
  zE4 1650 (.iload 4) 2 4 0 0 0,
  zEc 1652 (.iconst 1) 1 0 0 (1),
  zE 1653 (.iadd) 1,
  zE 1654 (.iaload) 1,
  zE4 1655 (.aload_n 3) 1 3 0 0 0,
  zE4 1656 (.invokestatic 212) 3 246 3 0 0,
  zE4 1659 (.istore 5) 2 5 0 0 0,
  zE4 1661 (.aload_n 2) 1 2 0 0 0,
  zE 1662 (.aload_n 0) 1,
  zE4 1663 (.iload 4) 2 4 0 0 0,
  zEc 1665 (.iconst 1) 1 0 0 (1),
  zE 1666 (.iadd) 1,
  zE 1667 (.iaload) 1,
  zE4 1668 (.invokevirtual 214) 3 248 2 0 11,
  zE4 1671 (.istore 6) 2 6 0 0 0,
  zE4 1673 (.aload_n 2) 1 2 0 0 0,
  zE4 1674 (.invokevirtual 122) 3 84 1 0 11,
  zE4 1677 (.iload 5) 2 5 0 0 0,
  zE4 1679 (.if_icmp .eq 5) 3 974 0 0 0,
  zEc 1682 (.iconst 0) 1 0 0 (0),
  zE4 1683 (.ireturn) 1 1 0 0 0,
  zE4 1684 (.iload 5) 2 5 0 0 0,
  zE4 1686 (.ifCond .ne 15) 3 985 0 0 0,
  zE4 1689 (.aload_n 3) 1 3 0 0 0,
  zEc 1690 (.iconst 0) 1 0 0 (0),
  zE 1691 (.laload) 1,
  zE4 1692 (.iload 6) 2 6 0 0 0,
  zE 1694 (.i2l) 1,
  zE 1695 (.lcmp) 1,
  zE4 1696 (.ifCond .eq 5) 3 985 0 0 0,
  zEc 1699 (.iconst 0) 1 0 0 (0),
  zE4 1700 (.ireturn) 1 1 0 0 0,
  zE4 1701 (.goto 654) 3 1406 0 0 0]
set_option maxRecDepth 1000000 in
theorem zb_mirrored_at : (zm_L_law.1.drop 951).take 35 = zb_mirrored := rfl
theorem w_mirrored {X : Nat → Int32} {n c d : Nat} {h : zH} {Q : zO → zH → Prop} (iv : zIv X c h) (hc : 6 * c + 6 ≤ n) (hn : n ≤ 384) (kk : ∀ h2 a b, zIv X (c + 1) h2 → zwp (d + 103) zm_L_law 1406 (zLw n c a b) [] h2 Q) : zwp (d + 103) zm_L_law 951 (zLw n c none none) [] h Q := by
  obtain ⟨ρ, pp, tp, P, L, w, hR, hρ, hpt, h3, h4, hJ, hX⟩ := iv
  have hpp : ρ 0 3 = some (pp, 3, 0) ∧ zPlS ρ pp := ⟨h3, zSh_pl hρ (by omega)⟩
  obtain ⟨k, h1, v, h2, L2, eF, eG, t4, tL, w2, gd⟩ := c_mirrored w (X (6 * c + 1))
  refine zwp.gb (B := zb_mirrored) (lo := 951) zb_mirrored_at (m := 1) (j := 952) (ls' := zLw n c (none) (none)) (st' := [zr ((0, 10, 0) : zF)]) (h' := h) rfl ?_
  refine zc_sx (B := zb_mirrored) (lo := 951) (k := 1) zb_mirrored_at rfl (fun _ => rfl) hX hc hn (by omega) ?_
  refine zwp.gb (B := zb_mirrored) (lo := 951) zb_mirrored_at (m := 1) (j := 958) (ls' := zLw n c (none) (none)) (st' := [zr ((90, 23, 1) : zF), zi (X (6 * c + 1)), zr ((0, 10, 0) : zF)]) (h' := h) rfl ?_
  refine zl_ci (s_L_mirrored_ok 0 ρ hρ pp (X (6 * c + 1)) 90 1 hpp h (k, h1) hR eF) (by omega) (zsb_e (B := zb_mirrored) (lo := 951) zb_mirrored_at rfl rfl) rfl (fun hR1 hX1 => ?_)
  refine zwp.gb (B := zb_mirrored) (lo := 951) zb_mirrored_at (m := 2) (j := 961) (ls' := zLw n c (some (zi k)) (none)) (st' := [zr ((52, 11, 0) : zF)]) (h' := h1) rfl ?_
  refine zc_sx (B := zb_mirrored) (lo := 951) (k := 1) zb_mirrored_at rfl (fun _ => rfl) (hX1.trans hX) hc hn (by omega) ?_
  refine zl_ci (s_X11_mirrored_ok 0 _ hρ (X (6 * c + 1)) h1 (v, h2) hR1 eG) (by omega) (zsb_e (B := zb_mirrored) (lo := 951) zb_mirrored_at rfl rfl) rfl (fun hR2 hX2 => ?_)
  have iv2 : zIv X (c + 1) h2 := ⟨ρ, pp, tp, P, L2, w2, hR2, hρ, hpt, h3, h4, hJ.nx gd, hX2.trans (hX1.trans hX)⟩
  refine zwp.gb (B := zb_mirrored) (lo := 951) zb_mirrored_at (m := 2) (j := 969) (ls' := zLw n c (some (zi k)) (some (zi v))) (st' := [zr ((52, 11, 0) : zF)]) (h' := h2) rfl ?_
  refine zl_cp (s_X11_thrown_ok 0 _ hρ h2 (zI h2 52 4) hR2 rfl) (by omega) (zsb_e (B := zb_mirrored) (lo := 951) zb_mirrored_at rfl rfl) rfl ?_
  rw [t4]
  refine zwp.gb (B := zb_mirrored) (lo := 951) zb_mirrored_at (m := 1) (j := 971) (ls' := zLw n c (some (zi k)) (some (zi v))) (st' := [zi k, zi k]) (h' := h2) rfl ?_
  refine zwp.br (c := decide (k = k)) (j := 974) (ls' := zLw n c (some (zi k)) (some (zi v))) (st' := []) (h' := h2) (j2 := 972) (l2 := zLw n c (some (zi k)) (some (zi v))) (s2 := []) (h2 := h2) (zsb_e (B := zb_mirrored) (lo := 951) zb_mirrored_at rfl rfl) (fun _ => ?_) (fun e9 => absurd rfl (of_decide_eq_false e9))
  refine zwp.gb (B := zb_mirrored) (lo := 951) zb_mirrored_at (m := 1) (j := 975) (ls' := zLw n c (some (zi k)) (some (zi v))) (st' := [zi k]) (h' := h2) rfl ?_
  refine zwp.br (c := decide (¬ k = 0)) (j := 985) (ls' := zLw n c (some (zi k)) (some (zi v))) (st' := []) (h' := h2) (j2 := 976) (l2 := zLw n c (some (zi k)) (some (zi v))) (s2 := []) (h2 := h2) (zsb_e (B := zb_mirrored) (lo := 951) zb_mirrored_at rfl rfl) (fun _ => ?_) (fun e9 => ?_)
  · refine zwp.gb (B := zb_mirrored) (lo := 951) zb_mirrored_at (m := 1) (j := 1406) (ls' := zLw n c (some (zi k)) (some (zi v))) (st' := []) (h' := h2) rfl ?_
    exact kk _ _ _ iv2
  · have e8 : k = 0 := Classical.not_not.mp (of_decide_eq_false e9)
    refine zwp.gb (B := zb_mirrored) (lo := 951) zb_mirrored_at (m := 6) (j := 982) (ls' := zLw n c (some (zi k)) (some (zi v))) (st' := [zi (lg_cmp (zL h2 90 0) v.toInt64)]) (h' := h2) rfl ?_
    rw [tL e8, lg_cmp_rf]
    refine zwp.gb (B := zb_mirrored) (lo := 951) zb_mirrored_at (m := 2) (j := 1406) (ls' := zLw n c (some (zi k)) (some (zi v))) (st' := []) (h' := h2) rfl ?_
    exact kk _ _ _ iv2
noncomputable def zb_lost : List zA := [zE4 1704 (.aload_n 1) 1 1 0 0 0,
  zE 1705 (.aload_n 0) 1,
  zE4 1706 (.iload 4) 2 4 0 0 0,
  zEc 1708 (.iconst 1) 1 0 0 (1),
  zE 1709 (.iadd) 1,
  zE 1710 (.iaload) 1,
  zE 1711 (.aload_n 0) 1,
  zE4 1712 (.iload 4) 2 4 0 0 0,
  zEc 1714 (.iconst 2) 1 0 0 (2),
  zE 1715 (.iadd) 1,
  zE 1716 (.iaload) 1,
  zE4 1717 (.aload_n 3) 1 3 0 0 0,
  zE4 1718 (.invokestatic 215) 3 251 4 0 0,
  zE4 1721 (.istore 5) 2 5 0 0 0,
  zE4 1723 (.aload_n 2) 1 2 0 0 0,
  zE 1724 (.aload_n 0) 1,
  zE4 1725 (.iload 4) 2 4 0 0 0,
  zEc 1727 (.iconst 1) 1 0 0 (1),
  zE 1728 (.iadd) 1,
  zE 1729 (.iaload) 1,
  zE 1730 (.aload_n 0) 1,
  zE4 1731 (.iload 4) 2 4 0 0 0,
  zEc 1733 (.iconst 2) 1 0 0 (2),
  zE 1734 (.iadd) 1,
  zE 1735 (.iaload) 1,
  zE4 1736 (.invokevirtual 217) 3 253 3 0 11,
  zE4 1739 (.istore 6) 2 6 0 0 0,
  zE4 1741 (.aload_n 2) 1 2 0 0 0,
  zE4 1742 (.invokevirtual 122) 3 84 1 0 11,
  zE4 1745 (.iload 5) 2 5 0 0 0,
  zE4 1747 (.if_icmp .eq 5) 3 1019 0 0 0,
  zEc 1750 (.iconst 0) 1 0 0 (0),
  zE4 1751 (.ireturn) 1 1 0 0 0,
  zE4 1752 (.iload 5) 2 5 0 0 0,
  zE4 1754 (.ifCond .ne 15) 3 1030 0 0 0,
  zE4 1757 (.aload_n 3) 1 3 0 0 0,
  zEc 1758 (.iconst 0) 1 0 0 (0),
  zE 1759 (.laload) 1,
  zE4 1760 (.iload 6) 2 6 0 0 0,
  zE 1762 (.i2l) 1,
  zE 1763 (.lcmp) 1,
  zE4 1764 (.ifCond .eq 5) 3 1030 0 0 0,
  zEc 1767 (.iconst 0) 1 0 0 (0),
  zE4 1768 (.ireturn) 1 1 0 0 0,
  zE4 1769 (.goto 586) 3 1406 0 0 0]
set_option maxRecDepth 1000000 in
theorem zb_lost_at : (zm_L_law.1.drop 986).take 45 = zb_lost := rfl
theorem w_lost {X : Nat → Int32} {n c d : Nat} {h : zH} {Q : zO → zH → Prop} (iv : zIv X c h) (hc : 6 * c + 6 ≤ n) (hn : n ≤ 384) (kk : ∀ h2 a b, zIv X (c + 1) h2 → zwp (d + 103) zm_L_law 1406 (zLw n c a b) [] h2 Q) : zwp (d + 103) zm_L_law 986 (zLw n c none none) [] h Q := by
  obtain ⟨ρ, pp, tp, P, L, w, hR, hρ, hpt, h3, h4, hJ, hX⟩ := iv
  have hpp : ρ 0 3 = some (pp, 3, 0) ∧ zPlS ρ pp := ⟨h3, zSh_pl hρ (by omega)⟩
  obtain ⟨k, h1, v, h2, L2, eF, eG, t4, tL, w2, gd⟩ := c_lost w (X (6 * c + 1)) (X (6 * c + 2))
  refine zwp.gb (B := zb_lost) (lo := 986) zb_lost_at (m := 1) (j := 987) (ls' := zLw n c (none) (none)) (st' := [zr ((0, 10, 0) : zF)]) (h' := h) rfl ?_
  refine zc_sx (B := zb_lost) (lo := 986) (k := 1) zb_lost_at rfl (fun _ => rfl) hX hc hn (by omega) ?_
  refine zc_sx (B := zb_lost) (lo := 986) (k := 2) zb_lost_at rfl (fun _ => rfl) hX hc hn (by omega) ?_
  refine zwp.gb (B := zb_lost) (lo := 986) zb_lost_at (m := 1) (j := 998) (ls' := zLw n c (none) (none)) (st' := [zr ((90, 23, 1) : zF), zi (X (6 * c + 2)), zi (X (6 * c + 1)), zr ((0, 10, 0) : zF)]) (h' := h) rfl ?_
  refine zl_ci (s_L_lost_ok 0 ρ hρ pp (X (6 * c + 1)) (X (6 * c + 2)) 90 1 hpp h (k, h1) hR eF) (by omega) (zsb_e (B := zb_lost) (lo := 986) zb_lost_at rfl rfl) rfl (fun hR1 hX1 => ?_)
  refine zwp.gb (B := zb_lost) (lo := 986) zb_lost_at (m := 2) (j := 1001) (ls' := zLw n c (some (zi k)) (none)) (st' := [zr ((52, 11, 0) : zF)]) (h' := h1) rfl ?_
  refine zc_sx (B := zb_lost) (lo := 986) (k := 1) zb_lost_at rfl (fun _ => rfl) (hX1.trans hX) hc hn (by omega) ?_
  refine zc_sx (B := zb_lost) (lo := 986) (k := 2) zb_lost_at rfl (fun _ => rfl) (hX1.trans hX) hc hn (by omega) ?_
  refine zl_ci (s_X11_lost_ok 0 _ hρ (X (6 * c + 1)) (X (6 * c + 2)) h1 (v, h2) hR1 eG) (by omega) (zsb_e (B := zb_lost) (lo := 986) zb_lost_at rfl rfl) rfl (fun hR2 hX2 => ?_)
  have iv2 : zIv X (c + 1) h2 := ⟨ρ, pp, tp, P, L2, w2, hR2, hρ, hpt, h3, h4, hJ.nx gd, hX2.trans (hX1.trans hX)⟩
  refine zwp.gb (B := zb_lost) (lo := 986) zb_lost_at (m := 2) (j := 1014) (ls' := zLw n c (some (zi k)) (some (zi v))) (st' := [zr ((52, 11, 0) : zF)]) (h' := h2) rfl ?_
  refine zl_cp (s_X11_thrown_ok 0 _ hρ h2 (zI h2 52 4) hR2 rfl) (by omega) (zsb_e (B := zb_lost) (lo := 986) zb_lost_at rfl rfl) rfl ?_
  rw [t4]
  refine zwp.gb (B := zb_lost) (lo := 986) zb_lost_at (m := 1) (j := 1016) (ls' := zLw n c (some (zi k)) (some (zi v))) (st' := [zi k, zi k]) (h' := h2) rfl ?_
  refine zwp.br (c := decide (k = k)) (j := 1019) (ls' := zLw n c (some (zi k)) (some (zi v))) (st' := []) (h' := h2) (j2 := 1017) (l2 := zLw n c (some (zi k)) (some (zi v))) (s2 := []) (h2 := h2) (zsb_e (B := zb_lost) (lo := 986) zb_lost_at rfl rfl) (fun _ => ?_) (fun e9 => absurd rfl (of_decide_eq_false e9))
  refine zwp.gb (B := zb_lost) (lo := 986) zb_lost_at (m := 1) (j := 1020) (ls' := zLw n c (some (zi k)) (some (zi v))) (st' := [zi k]) (h' := h2) rfl ?_
  refine zwp.br (c := decide (¬ k = 0)) (j := 1030) (ls' := zLw n c (some (zi k)) (some (zi v))) (st' := []) (h' := h2) (j2 := 1021) (l2 := zLw n c (some (zi k)) (some (zi v))) (s2 := []) (h2 := h2) (zsb_e (B := zb_lost) (lo := 986) zb_lost_at rfl rfl) (fun _ => ?_) (fun e9 => ?_)
  · refine zwp.gb (B := zb_lost) (lo := 986) zb_lost_at (m := 1) (j := 1406) (ls' := zLw n c (some (zi k)) (some (zi v))) (st' := []) (h' := h2) rfl ?_
    exact kk _ _ _ iv2
  · have e8 : k = 0 := Classical.not_not.mp (of_decide_eq_false e9)
    refine zwp.gb (B := zb_lost) (lo := 986) zb_lost_at (m := 6) (j := 1027) (ls' := zLw n c (some (zi k)) (some (zi v))) (st' := [zi (lg_cmp (zL h2 90 0) v.toInt64)]) (h' := h2) rfl ?_
    rw [tL e8, lg_cmp_rf]
    refine zwp.gb (B := zb_lost) (lo := 986) zb_lost_at (m := 2) (j := 1406) (ls' := zLw n c (some (zi k)) (some (zi v))) (st' := []) (h' := h2) rfl ?_
    exact kk _ _ _ iv2
noncomputable def zb_pace : List zA := [zE4 1772 (.aload_n 1) 1 1 0 0 0,
  zE 1773 (.aload_n 0) 1,
  zE4 1774 (.iload 4) 2 4 0 0 0,
  zEc 1776 (.iconst 1) 1 0 0 (1),
  zE 1777 (.iadd) 1,
  zE 1778 (.iaload) 1,
  zE4 1779 (.aload_n 3) 1 3 0 0 0,
  zE4 1780 (.invokestatic 218) 3 255 3 0 0,
  zE4 1783 (.istore 5) 2 5 0 0 0,
  zE4 1785 (.aload_n 2) 1 2 0 0 0,
  zE 1786 (.aload_n 0) 1,
  zE4 1787 (.iload 4) 2 4 0 0 0,
  zEc 1789 (.iconst 1) 1 0 0 (1),
  zE 1790 (.iadd) 1,
  zE 1791 (.iaload) 1,
  zE4 1792 (.invokevirtual 220) 3 256 2 0 11,
  zE4 1795 (.istore 6) 2 6 0 0 0,
  zE4 1797 (.aload_n 2) 1 2 0 0 0,
  zE4 1798 (.invokevirtual 122) 3 84 1 0 11,
  zE4 1801 (.iload 5) 2 5 0 0 0,
  zE4 1803 (.if_icmp .eq 5) 3 1054 0 0 0,
  zEc 1806 (.iconst 0) 1 0 0 (0),
  zE4 1807 (.ireturn) 1 1 0 0 0,
  zE4 1808 (.iload 5) 2 5 0 0 0,
  zE4 1810 (.ifCond .ne 15) 3 1065 0 0 0,
  zE4 1813 (.aload_n 3) 1 3 0 0 0,
  zEc 1814 (.iconst 0) 1 0 0 (0),
  zE 1815 (.laload) 1,
  zE4 1816 (.iload 6) 2 6 0 0 0,
  zE 1818 (.i2l) 1,
  zE 1819 (.lcmp) 1,
  zE4 1820 (.ifCond .eq 5) 3 1065 0 0 0,
  zEc 1823 (.iconst 0) 1 0 0 (0),
  zE4 1824 (.ireturn) 1 1 0 0 0,
  zE4 1825 (.goto 530) 3 1406 0 0 0]
set_option maxRecDepth 1000000 in
theorem zb_pace_at : (zm_L_law.1.drop 1031).take 35 = zb_pace := rfl
theorem w_pace {X : Nat → Int32} {n c d : Nat} {h : zH} {Q : zO → zH → Prop} (iv : zIv X c h) (hc : 6 * c + 6 ≤ n) (hn : n ≤ 384) (kk : ∀ h2 a b, zIv X (c + 1) h2 → zwp (d + 103) zm_L_law 1406 (zLw n c a b) [] h2 Q) : zwp (d + 103) zm_L_law 1031 (zLw n c none none) [] h Q := by
  obtain ⟨ρ, pp, tp, P, L, w, hR, hρ, hpt, h3, h4, hJ, hX⟩ := iv
  have hpp : ρ 0 3 = some (pp, 3, 0) ∧ zPlS ρ pp := ⟨h3, zSh_pl hρ (by omega)⟩
  obtain ⟨k, h1, v, h2, L2, eF, eG, t4, tL, w2, gd⟩ := c_pace w (X (6 * c + 1))
  refine zwp.gb (B := zb_pace) (lo := 1031) zb_pace_at (m := 1) (j := 1032) (ls' := zLw n c (none) (none)) (st' := [zr ((0, 10, 0) : zF)]) (h' := h) rfl ?_
  refine zc_sx (B := zb_pace) (lo := 1031) (k := 1) zb_pace_at rfl (fun _ => rfl) hX hc hn (by omega) ?_
  refine zwp.gb (B := zb_pace) (lo := 1031) zb_pace_at (m := 1) (j := 1038) (ls' := zLw n c (none) (none)) (st' := [zr ((90, 23, 1) : zF), zi (X (6 * c + 1)), zr ((0, 10, 0) : zF)]) (h' := h) rfl ?_
  refine zl_ci (s_L_pace_ok 0 ρ hρ pp (X (6 * c + 1)) 90 1 hpp h (k, h1) hR eF) (by omega) (zsb_e (B := zb_pace) (lo := 1031) zb_pace_at rfl rfl) rfl (fun hR1 hX1 => ?_)
  refine zwp.gb (B := zb_pace) (lo := 1031) zb_pace_at (m := 2) (j := 1041) (ls' := zLw n c (some (zi k)) (none)) (st' := [zr ((52, 11, 0) : zF)]) (h' := h1) rfl ?_
  refine zc_sx (B := zb_pace) (lo := 1031) (k := 1) zb_pace_at rfl (fun _ => rfl) (hX1.trans hX) hc hn (by omega) ?_
  refine zl_ci (s_X11_pace_ok 0 _ hρ (X (6 * c + 1)) h1 (v, h2) hR1 eG) (by omega) (zsb_e (B := zb_pace) (lo := 1031) zb_pace_at rfl rfl) rfl (fun hR2 hX2 => ?_)
  have iv2 : zIv X (c + 1) h2 := ⟨ρ, pp, tp, P, L2, w2, hR2, hρ, hpt, h3, h4, hJ.nx gd, hX2.trans (hX1.trans hX)⟩
  refine zwp.gb (B := zb_pace) (lo := 1031) zb_pace_at (m := 2) (j := 1049) (ls' := zLw n c (some (zi k)) (some (zi v))) (st' := [zr ((52, 11, 0) : zF)]) (h' := h2) rfl ?_
  refine zl_cp (s_X11_thrown_ok 0 _ hρ h2 (zI h2 52 4) hR2 rfl) (by omega) (zsb_e (B := zb_pace) (lo := 1031) zb_pace_at rfl rfl) rfl ?_
  rw [t4]
  refine zwp.gb (B := zb_pace) (lo := 1031) zb_pace_at (m := 1) (j := 1051) (ls' := zLw n c (some (zi k)) (some (zi v))) (st' := [zi k, zi k]) (h' := h2) rfl ?_
  refine zwp.br (c := decide (k = k)) (j := 1054) (ls' := zLw n c (some (zi k)) (some (zi v))) (st' := []) (h' := h2) (j2 := 1052) (l2 := zLw n c (some (zi k)) (some (zi v))) (s2 := []) (h2 := h2) (zsb_e (B := zb_pace) (lo := 1031) zb_pace_at rfl rfl) (fun _ => ?_) (fun e9 => absurd rfl (of_decide_eq_false e9))
  refine zwp.gb (B := zb_pace) (lo := 1031) zb_pace_at (m := 1) (j := 1055) (ls' := zLw n c (some (zi k)) (some (zi v))) (st' := [zi k]) (h' := h2) rfl ?_
  refine zwp.br (c := decide (¬ k = 0)) (j := 1065) (ls' := zLw n c (some (zi k)) (some (zi v))) (st' := []) (h' := h2) (j2 := 1056) (l2 := zLw n c (some (zi k)) (some (zi v))) (s2 := []) (h2 := h2) (zsb_e (B := zb_pace) (lo := 1031) zb_pace_at rfl rfl) (fun _ => ?_) (fun e9 => ?_)
  · refine zwp.gb (B := zb_pace) (lo := 1031) zb_pace_at (m := 1) (j := 1406) (ls' := zLw n c (some (zi k)) (some (zi v))) (st' := []) (h' := h2) rfl ?_
    exact kk _ _ _ iv2
  · have e8 : k = 0 := Classical.not_not.mp (of_decide_eq_false e9)
    refine zwp.gb (B := zb_pace) (lo := 1031) zb_pace_at (m := 6) (j := 1062) (ls' := zLw n c (some (zi k)) (some (zi v))) (st' := [zi (lg_cmp (zL h2 90 0) v.toInt64)]) (h' := h2) rfl ?_
    rw [tL e8, lg_cmp_rf]
    refine zwp.gb (B := zb_pace) (lo := 1031) zb_pace_at (m := 2) (j := 1406) (ls' := zLw n c (some (zi k)) (some (zi v))) (st' := []) (h' := h2) rfl ?_
    exact kk _ _ _ iv2
noncomputable def zb_both : List zA := [zE4 1828 (.aload_n 1) 1 1 0 0 0,
  zE 1829 (.aload_n 0) 1,
  zE4 1830 (.iload 4) 2 4 0 0 0,
  zEc 1832 (.iconst 1) 1 0 0 (1),
  zE 1833 (.iadd) 1,
  zE 1834 (.iaload) 1,
  zE 1835 (.aload_n 0) 1,
  zE4 1836 (.iload 4) 2 4 0 0 0,
  zEc 1838 (.iconst 2) 1 0 0 (2),
  zE 1839 (.iadd) 1,
  zE 1840 (.iaload) 1,
  zE4 1841 (.aload_n 3) 1 3 0 0 0,
  zE4 1842 (.invokestatic 221) 3 258 4 0 0,
  zE4 1845 (.istore 5) 2 5 0 0 0,
  zE4 1847 (.aload_n 2) 1 2 0 0 0,
  zE 1848 (.aload_n 0) 1,
  zE4 1849 (.iload 4) 2 4 0 0 0,
  zEc 1851 (.iconst 1) 1 0 0 (1),
  zE 1852 (.iadd) 1,
  zE 1853 (.iaload) 1,
  zE 1854 (.aload_n 0) 1,
  zE4 1855 (.iload 4) 2 4 0 0 0,
  zEc 1857 (.iconst 2) 1 0 0 (2),
  zE 1858 (.iadd) 1,
  zE 1859 (.iaload) 1,
  zE4 1860 (.invokevirtual 223) 3 259 3 0 11,
  zE4 1863 (.istore 6) 2 6 0 0 0,
  zE4 1865 (.aload_n 2) 1 2 0 0 0,
  zE4 1866 (.invokevirtual 122) 3 84 1 0 11,
  zE4 1869 (.iload 5) 2 5 0 0 0,
  zE4 1871 (.if_icmp .eq 5) 3 1099 0 0 0,
  zEc 1874 (.iconst 0) 1 0 0 (0),
  zE4 1875 (.ireturn) 1 1 0 0 0,
  zE4 1876 (.iload 5) 2 5 0 0 0,
  zE4 1878 (.ifCond .ne 15) 3 1110 0 0 0,
  zE4 1881 (.aload_n 3) 1 3 0 0 0,
  zEc 1882 (.iconst 0) 1 0 0 (0),
  zE 1883 (.laload) 1,
  zE4 1884 (.iload 6) 2 6 0 0 0,
  zE 1886 (.i2l) 1,
  zE 1887 (.lcmp) 1,
  zE4 1888 (.ifCond .eq 5) 3 1110 0 0 0,
  zEc 1891 (.iconst 0) 1 0 0 (0),
  zE4 1892 (.ireturn) 1 1 0 0 0,
  zE4 1893 (.goto 462) 3 1406 0 0 0]
set_option maxRecDepth 1000000 in
theorem zb_both_at : (zm_L_law.1.drop 1066).take 45 = zb_both := rfl
theorem w_both {X : Nat → Int32} {n c d : Nat} {h : zH} {Q : zO → zH → Prop} (iv : zIv X c h) (hc : 6 * c + 6 ≤ n) (hn : n ≤ 384) (kk : ∀ h2 a b, zIv X (c + 1) h2 → zwp (d + 103) zm_L_law 1406 (zLw n c a b) [] h2 Q) : zwp (d + 103) zm_L_law 1066 (zLw n c none none) [] h Q := by
  obtain ⟨ρ, pp, tp, P, L, w, hR, hρ, hpt, h3, h4, hJ, hX⟩ := iv
  have hpp : ρ 0 3 = some (pp, 3, 0) ∧ zPlS ρ pp := ⟨h3, zSh_pl hρ (by omega)⟩
  obtain ⟨k, h1, v, h2, L2, eF, eG, t4, tL, w2, gd⟩ := c_both w (X (6 * c + 1)) (X (6 * c + 2))
  refine zwp.gb (B := zb_both) (lo := 1066) zb_both_at (m := 1) (j := 1067) (ls' := zLw n c (none) (none)) (st' := [zr ((0, 10, 0) : zF)]) (h' := h) rfl ?_
  refine zc_sx (B := zb_both) (lo := 1066) (k := 1) zb_both_at rfl (fun _ => rfl) hX hc hn (by omega) ?_
  refine zc_sx (B := zb_both) (lo := 1066) (k := 2) zb_both_at rfl (fun _ => rfl) hX hc hn (by omega) ?_
  refine zwp.gb (B := zb_both) (lo := 1066) zb_both_at (m := 1) (j := 1078) (ls' := zLw n c (none) (none)) (st' := [zr ((90, 23, 1) : zF), zi (X (6 * c + 2)), zi (X (6 * c + 1)), zr ((0, 10, 0) : zF)]) (h' := h) rfl ?_
  refine zl_ci (s_L_both_ok 0 ρ hρ pp (X (6 * c + 1)) (X (6 * c + 2)) 90 1 hpp h (k, h1) hR eF) (by omega) (zsb_e (B := zb_both) (lo := 1066) zb_both_at rfl rfl) rfl (fun hR1 hX1 => ?_)
  refine zwp.gb (B := zb_both) (lo := 1066) zb_both_at (m := 2) (j := 1081) (ls' := zLw n c (some (zi k)) (none)) (st' := [zr ((52, 11, 0) : zF)]) (h' := h1) rfl ?_
  refine zc_sx (B := zb_both) (lo := 1066) (k := 1) zb_both_at rfl (fun _ => rfl) (hX1.trans hX) hc hn (by omega) ?_
  refine zc_sx (B := zb_both) (lo := 1066) (k := 2) zb_both_at rfl (fun _ => rfl) (hX1.trans hX) hc hn (by omega) ?_
  refine zl_ci (s_X11_both_ok 0 _ hρ (X (6 * c + 1)) (X (6 * c + 2)) h1 (v, h2) hR1 eG) (by omega) (zsb_e (B := zb_both) (lo := 1066) zb_both_at rfl rfl) rfl (fun hR2 hX2 => ?_)
  have iv2 : zIv X (c + 1) h2 := ⟨ρ, pp, tp, P, L2, w2, hR2, hρ, hpt, h3, h4, hJ.nx gd, hX2.trans (hX1.trans hX)⟩
  refine zwp.gb (B := zb_both) (lo := 1066) zb_both_at (m := 2) (j := 1094) (ls' := zLw n c (some (zi k)) (some (zi v))) (st' := [zr ((52, 11, 0) : zF)]) (h' := h2) rfl ?_
  refine zl_cp (s_X11_thrown_ok 0 _ hρ h2 (zI h2 52 4) hR2 rfl) (by omega) (zsb_e (B := zb_both) (lo := 1066) zb_both_at rfl rfl) rfl ?_
  rw [t4]
  refine zwp.gb (B := zb_both) (lo := 1066) zb_both_at (m := 1) (j := 1096) (ls' := zLw n c (some (zi k)) (some (zi v))) (st' := [zi k, zi k]) (h' := h2) rfl ?_
  refine zwp.br (c := decide (k = k)) (j := 1099) (ls' := zLw n c (some (zi k)) (some (zi v))) (st' := []) (h' := h2) (j2 := 1097) (l2 := zLw n c (some (zi k)) (some (zi v))) (s2 := []) (h2 := h2) (zsb_e (B := zb_both) (lo := 1066) zb_both_at rfl rfl) (fun _ => ?_) (fun e9 => absurd rfl (of_decide_eq_false e9))
  refine zwp.gb (B := zb_both) (lo := 1066) zb_both_at (m := 1) (j := 1100) (ls' := zLw n c (some (zi k)) (some (zi v))) (st' := [zi k]) (h' := h2) rfl ?_
  refine zwp.br (c := decide (¬ k = 0)) (j := 1110) (ls' := zLw n c (some (zi k)) (some (zi v))) (st' := []) (h' := h2) (j2 := 1101) (l2 := zLw n c (some (zi k)) (some (zi v))) (s2 := []) (h2 := h2) (zsb_e (B := zb_both) (lo := 1066) zb_both_at rfl rfl) (fun _ => ?_) (fun e9 => ?_)
  · refine zwp.gb (B := zb_both) (lo := 1066) zb_both_at (m := 1) (j := 1406) (ls' := zLw n c (some (zi k)) (some (zi v))) (st' := []) (h' := h2) rfl ?_
    exact kk _ _ _ iv2
  · have e8 : k = 0 := Classical.not_not.mp (of_decide_eq_false e9)
    refine zwp.gb (B := zb_both) (lo := 1066) zb_both_at (m := 6) (j := 1107) (ls' := zLw n c (some (zi k)) (some (zi v))) (st' := [zi (lg_cmp (zL h2 90 0) v.toInt64)]) (h' := h2) rfl ?_
    rw [tL e8, lg_cmp_rf]
    refine zwp.gb (B := zb_both) (lo := 1066) zb_both_at (m := 2) (j := 1406) (ls' := zLw n c (some (zi k)) (some (zi v))) (st' := []) (h' := h2) rfl ?_
    exact kk _ _ _ iv2
