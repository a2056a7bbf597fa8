/-! ===== the law, case by case, 2 ===== -/
noncomputable def zb_days : List zA := [zE4 678 (.aload_n 1) 1 1 0 0 0,
  zE 679 (.aload_n 0) 1,
  zE4 680 (.iload 4) 2 4 0 0 0,
  zEc 682 (.iconst 1) 1 0 0 (1),
  zE 683 (.iadd) 1,
  zE 684 (.iaload) 1,
  zE4 685 (.invokevirtual 146) 3 145 2 0 10,
  zE4 688 (.aload_n 2) 1 2 0 0 0,
  zE 689 (.aload_n 0) 1,
  zE4 690 (.iload 4) 2 4 0 0 0,
  zEc 692 (.iconst 1) 1 0 0 (1),
  zE 693 (.iadd) 1,
  zE 694 (.iaload) 1,
  zE4 695 (.invokevirtual 149) 3 163 2 0 11,
  zE4 698 (.if_icmp .eq 1657) 3 1406 0 0 0,
  zEc 701 (.iconst 0) 1 0 0 (0),
  zE4 702 (.ireturn) 1 1 0 0 0]
set_option maxRecDepth 1000000 in
theorem zb_days_at : (zm_L_law.1.drop 329).take 17 = zb_days := rfl
theorem w_days {X : Nat → Int32} {n c d : Nat} {h : zH} {Q : zO → zH → Prop} (iv : zIv X c h) (hc : 6 * c + 6 ≤ n) (hn : n ≤ 384) (kk : ∀ h2 a b, zIv X (c + 1) h2 → zwp (d + 103) zm_L_law 1406 (zLw n c a b) [] h2 Q) : zwp (d + 103) zm_L_law 329 (zLw n c none none) [] h Q := by
  obtain ⟨ρ, pp, tp, P, L, w, hR, hρ, hpt, h3, h4, hJ, hX⟩ := iv
  have hpp : ρ 0 3 = some (pp, 3, 0) ∧ zPlS ρ pp := ⟨h3, zSh_pl hρ (by omega)⟩
  obtain ⟨v, h1, h2, L2, eF, eG, w2, gd⟩ := c_days w (X (6 * c + 1))
  refine zwp.gb (B := zb_days) (lo := 329) zb_days_at (m := 1) (j := 330) (ls' := zLw n c (none) (none)) (st' := [zr ((0, 10, 0) : zF)]) (h' := h) rfl ?_
  refine zc_sx (B := zb_days) (lo := 329) (k := 1) zb_days_at rfl (fun _ => rfl) hX hc hn (by omega) ?_
  refine zl_ci (s_X10_days_ok 0 ρ hρ pp (X (6 * c + 1)) hpp h (v, h1) hR eF) (by omega) (zsb_e (B := zb_days) (lo := 329) zb_days_at rfl rfl) rfl (fun hR1 hX1 => ?_)
  refine zwp.gb (B := zb_days) (lo := 329) zb_days_at (m := 1) (j := 337) (ls' := zLw n c (none) (none)) (st' := [zr ((52, 11, 0) : zF), zi v]) (h' := h1) rfl ?_
  refine zc_sx (B := zb_days) (lo := 329) (k := 1) zb_days_at rfl (fun _ => rfl) (hX1.trans hX) hc hn (by omega) ?_
  refine zl_ci (s_X11_days_ok 0 ρ hρ (X (6 * c + 1)) h1 (v, h2) hR1 eG) (by omega) (zsb_e (B := zb_days) (lo := 329) zb_days_at rfl rfl) rfl (fun hR2 hX2 => ?_)
  have iv2 : zIv X (c + 1) h2 := ⟨ρ, pp, tp, P, L2, w2, hR2, hρ, hpt, h3, h4, hJ.nx gd, hX2.trans (hX1.trans hX)⟩
  refine zwp.br (c := decide (v = v)) (j := 1406) (ls' := zLw n c (none) (none)) (st' := []) (h' := h2) (j2 := 344) (l2 := zLw n c (none) (none)) (s2 := []) (h2 := h2) (zsb_e (B := zb_days) (lo := 329) zb_days_at rfl rfl) (fun _ => kk _ _ _ iv2) (fun e9 => absurd rfl (of_decide_eq_false e9))
noncomputable def zb_sell : List zA := [zE4 703 (.aload_n 1) 1 1 0 0 0,
  zE 704 (.aload_n 0) 1,
  zE4 705 (.iload 4) 2 4 0 0 0,
  zEc 707 (.iconst 1) 1 0 0 (1),
  zE 708 (.iadd) 1,
  zE 709 (.iaload) 1,
  zE4 710 (.aload_n 3) 1 3 0 0 0,
  zE4 711 (.invokestatic 150) 3 165 3 0 0,
  zE4 714 (.istore 5) 2 5 0 0 0,
  zE4 716 (.aload_n 2) 1 2 0 0 0,
  zE 717 (.aload_n 0) 1,
  zE4 718 (.iload 4) 2 4 0 0 0,
  zEc 720 (.iconst 1) 1 0 0 (1),
  zE 721 (.iadd) 1,
  zE 722 (.iaload) 1,
  zE4 723 (.invokevirtual 152) 3 166 2 0 11,
  zE4 726 (.istore 6) 2 6 0 0 0,
  zE4 728 (.aload_n 2) 1 2 0 0 0,
  zE4 729 (.invokevirtual 122) 3 84 1 0 11,
  zE4 732 (.iload 5) 2 5 0 0 0,
  zE4 734 (.if_icmp .eq 5) 3 369 0 0 0,
  zEc 737 (.iconst 0) 1 0 0 (0),
  zE4 738 (.ireturn) 1 1 0 0 0,
  zE4 739 (.iload 5) 2 5 0 0 0,
  zE4 741 (.ifCond .ne 15) 3 380 0 0 0,
  zE4 744 (.aload_n 3) 1 3 0 0 0,
  zEc 745 (.iconst 0) 1 0 0 (0),
  zE 746 (.laload) 1,
  zE4 747 (.iload 6) 2 6 0 0 0,
  zE 749 (.i2l) 1,
  zE 750 (.lcmp) 1,
  zE4 751 (.ifCond .eq 5) 3 380 0 0 0,
  zEc 754 (.iconst 0) 1 0 0 (0),
  zE4 755 (.ireturn) 1 1 0 0 0,
  zE4 756 (.goto 1599) 3 1406 0 0 0]
set_option maxRecDepth 1000000 in
theorem zb_sell_at : (zm_L_law.1.drop 346).take 35 = zb_sell := rfl
theorem w_sell {X : Nat → Int32} {n c d : Nat} {h : zH} {Q : zO → zH → Prop} (iv : zIv X c h) (hc : 6 * c + 6 ≤ n) (hn : n ≤ 384) (kk : ∀ h2 a b, zIv X (c + 1) h2 → zwp (d + 103) zm_L_law 1406 (zLw n c a b) [] h2 Q) : zwp (d + 103) zm_L_law 346 (zLw n c none none) [] h Q := by
  obtain ⟨ρ, pp, tp, P, L, w, hR, hρ, hpt, h3, h4, hJ, hX⟩ := iv
  have hpp : ρ 0 3 = some (pp, 3, 0) ∧ zPlS ρ pp := ⟨h3, zSh_pl hρ (by omega)⟩
  obtain ⟨k, h1, v, h2, L2, eF, eG, t4, tL, w2, gd⟩ := c_sell w (X (6 * c + 1))
  refine zwp.gb (B := zb_sell) (lo := 346) zb_sell_at (m := 1) (j := 347) (ls' := zLw n c (none) (none)) (st' := [zr ((0, 10, 0) : zF)]) (h' := h) rfl ?_
  refine zc_sx (B := zb_sell) (lo := 346) (k := 1) zb_sell_at rfl (fun _ => rfl) hX hc hn (by omega) ?_
  refine zwp.gb (B := zb_sell) (lo := 346) zb_sell_at (m := 1) (j := 353) (ls' := zLw n c (none) (none)) (st' := [zr ((90, 23, 1) : zF), zi (X (6 * c + 1)), zr ((0, 10, 0) : zF)]) (h' := h) rfl ?_
  refine zl_ci (s_L_sell_ok 0 ρ hρ pp (X (6 * c + 1)) 90 1 hpp h (k, h1) hR eF) (by omega) (zsb_e (B := zb_sell) (lo := 346) zb_sell_at rfl rfl) rfl (fun hR1 hX1 => ?_)
  refine zwp.gb (B := zb_sell) (lo := 346) zb_sell_at (m := 2) (j := 356) (ls' := zLw n c (some (zi k)) (none)) (st' := [zr ((52, 11, 0) : zF)]) (h' := h1) rfl ?_
  refine zc_sx (B := zb_sell) (lo := 346) (k := 1) zb_sell_at rfl (fun _ => rfl) (hX1.trans hX) hc hn (by omega) ?_
  refine zl_ci (s_X11_sell_ok 0 _ hρ (X (6 * c + 1)) h1 (v, h2) hR1 eG) (by omega) (zsb_e (B := zb_sell) (lo := 346) zb_sell_at rfl rfl) rfl (fun hR2 hX2 => ?_)
  have iv2 : zIv X (c + 1) h2 := ⟨ρ, pp, tp, P, L2, w2, hR2, hρ, hpt, h3, h4, hJ.nx gd, hX2.trans (hX1.trans hX)⟩
  refine zwp.gb (B := zb_sell) (lo := 346) zb_sell_at (m := 2) (j := 364) (ls' := zLw n c (some (zi k)) (some (zi v))) (st' := [zr ((52, 11, 0) : zF)]) (h' := h2) rfl ?_
  refine zl_cp (s_X11_thrown_ok 0 _ hρ h2 (zI h2 52 4) hR2 rfl) (by omega) (zsb_e (B := zb_sell) (lo := 346) zb_sell_at rfl rfl) rfl ?_
  rw [t4]
  refine zwp.gb (B := zb_sell) (lo := 346) zb_sell_at (m := 1) (j := 366) (ls' := zLw n c (some (zi k)) (some (zi v))) (st' := [zi k, zi k]) (h' := h2) rfl ?_
  refine zwp.br (c := decide (k = k)) (j := 369) (ls' := zLw n c (some (zi k)) (some (zi v))) (st' := []) (h' := h2) (j2 := 367) (l2 := zLw n c (some (zi k)) (some (zi v))) (s2 := []) (h2 := h2) (zsb_e (B := zb_sell) (lo := 346) zb_sell_at rfl rfl) (fun _ => ?_) (fun e9 => absurd rfl (of_decide_eq_false e9))
  refine zwp.gb (B := zb_sell) (lo := 346) zb_sell_at (m := 1) (j := 370) (ls' := zLw n c (some (zi k)) (some (zi v))) (st' := [zi k]) (h' := h2) rfl ?_
  refine zwp.br (c := decide (¬ k = 0)) (j := 380) (ls' := zLw n c (some (zi k)) (some (zi v))) (st' := []) (h' := h2) (j2 := 371) (l2 := zLw n c (some (zi k)) (some (zi v))) (s2 := []) (h2 := h2) (zsb_e (B := zb_sell) (lo := 346) zb_sell_at rfl rfl) (fun _ => ?_) (fun e9 => ?_)
  · refine zwp.gb (B := zb_sell) (lo := 346) zb_sell_at (m := 1) (j := 1406) (ls' := zLw n c (some (zi k)) (some (zi v))) (st' := []) (h' := h2) rfl ?_
    exact kk _ _ _ iv2
  · have e8 : k = 0 := Classical.not_not.mp (of_decide_eq_false e9)
    refine zwp.gb (B := zb_sell) (lo := 346) zb_sell_at (m := 6) (j := 377) (ls' := zLw n c (some (zi k)) (some (zi v))) (st' := [zi (lg_cmp (zL h2 90 0) v.toInt64)]) (h' := h2) rfl ?_
    rw [tL e8, lg_cmp_rf]
    refine zwp.gb (B := zb_sell) (lo := 346) zb_sell_at (m := 2) (j := 1406) (ls' := zLw n c (some (zi k)) (some (zi v))) (st' := []) (h' := h2) rfl ?_
    exact kk _ _ _ iv2
noncomputable def zb_shore : List zA := [zE4 759 (.aload_n 1) 1 1 0 0 0,
  zE 760 (.aload_n 0) 1,
  zE4 761 (.iload 4) 2 4 0 0 0,
  zEc 763 (.iconst 1) 1 0 0 (1),
  zE 764 (.iadd) 1,
  zE 765 (.iaload) 1,
  zE 766 (.aload_n 0) 1,
  zE4 767 (.iload 4) 2 4 0 0 0,
  zEc 769 (.iconst 2) 1 0 0 (2),
  zE 770 (.iadd) 1,
  zE 771 (.iaload) 1,
  zE4 772 (.aload_n 3) 1 3 0 0 0,
  zE4 773 (.invokestatic 153) 3 169 4 0 0,
  zE4 776 (.istore 5) 2 5 0 0 0,
  zE4 778 (.aload_n 2) 1 2 0 0 0,
  zE 779 (.aload_n 0) 1,
  zE4 780 (.iload 4) 2 4 0 0 0,
  zEc 782 (.iconst 1) 1 0 0 (1),
  zE 783 (.iadd) 1,
  zE 784 (.iaload) 1,
  zE 785 (.aload_n 0) 1,
  zE4 786 (.iload 4) 2 4 0 0 0,
  zEc 788 (.iconst 2) 1 0 0 (2),
  zE 789 (.iadd) 1,
  zE 790 (.iaload) 1,
  zE4 791 (.invokevirtual 155) 3 170 3 0 11,
  zE4 794 (.istore 6) 2 6 0 0 0,
  zE4 796 (.aload_n 2) 1 2 0 0 0,
  zE4 797 (.invokevirtual 122) 3 84 1 0 11,
  zE4 800 (.iload 5) 2 5 0 0 0,
  zE4 802 (.if_icmp .eq 5) 3 414 0 0 0,
  zEc 805 (.iconst 0) 1 0 0 (0),
  zE4 806 (.ireturn) 1 1 0 0 0,
  zE4 807 (.iload 5) 2 5 0 0 0,
  zE4 809 (.ifCond .ne 15) 3 425 0 0 0,
  zE4 812 (.aload_n 3) 1 3 0 0 0,
  zEc 813 (.iconst 0) 1 0 0 (0),
  zE 814 (.laload) 1,
  zE4 815 (.iload 6) 2 6 0 0 0,
  zE 817 (.i2l) 1,
  zE 818 (.lcmp) 1,
  zE4 819 (.ifCond .eq 5) 3 425 0 0 0,
  zEc 822 (.iconst 0) 1 0 0 (0),
  zE4 823 (.ireturn) 1 1 0 0 0,
  zE4 824 (.goto 1531) 3 1406 0 0 0]
set_option maxRecDepth 1000000 in
theorem zb_shore_at : (zm_L_law.1.drop 381).take 45 = zb_shore := rfl
theorem w_shore {X : Nat → Int32} {n c d : Nat} {h : zH} {Q : zO → zH → Prop} (iv : zIv X c h) (hc : 6 * c + 6 ≤ n) (hn : n ≤ 384) (kk : ∀ h2 a b, zIv X (c + 1) h2 → zwp (d + 103) zm_L_law 1406 (zLw n c a b) [] h2 Q) : zwp (d + 103) zm_L_law 381 (zLw n c none none) [] h Q := by
  obtain ⟨ρ, pp, tp, P, L, w, hR, hρ, hpt, h3, h4, hJ, hX⟩ := iv
  have hpp : ρ 0 3 = some (pp, 3, 0) ∧ zPlS ρ pp := ⟨h3, zSh_pl hρ (by omega)⟩
  obtain ⟨k, h1, v, h2, L2, eF, eG, t4, tL, w2, gd⟩ := c_shore w (X (6 * c + 1)) (X (6 * c + 2))
  refine zwp.gb (B := zb_shore) (lo := 381) zb_shore_at (m := 1) (j := 382) (ls' := zLw n c (none) (none)) (st' := [zr ((0, 10, 0) : zF)]) (h' := h) rfl ?_
  refine zc_sx (B := zb_shore) (lo := 381) (k := 1) zb_shore_at rfl (fun _ => rfl) hX hc hn (by omega) ?_
  refine zc_sx (B := zb_shore) (lo := 381) (k := 2) zb_shore_at rfl (fun _ => rfl) hX hc hn (by omega) ?_
  refine zwp.gb (B := zb_shore) (lo := 381) zb_shore_at (m := 1) (j := 393) (ls' := zLw n c (none) (none)) (st' := [zr ((90, 23, 1) : zF), zi (X (6 * c + 2)), zi (X (6 * c + 1)), zr ((0, 10, 0) : zF)]) (h' := h) rfl ?_
  refine zl_ci (s_L_shore_ok 0 ρ hρ pp (X (6 * c + 1)) (X (6 * c + 2)) 90 1 hpp h (k, h1) hR eF) (by omega) (zsb_e (B := zb_shore) (lo := 381) zb_shore_at rfl rfl) rfl (fun hR1 hX1 => ?_)
  refine zwp.gb (B := zb_shore) (lo := 381) zb_shore_at (m := 2) (j := 396) (ls' := zLw n c (some (zi k)) (none)) (st' := [zr ((52, 11, 0) : zF)]) (h' := h1) rfl ?_
  refine zc_sx (B := zb_shore) (lo := 381) (k := 1) zb_shore_at rfl (fun _ => rfl) (hX1.trans hX) hc hn (by omega) ?_
  refine zc_sx (B := zb_shore) (lo := 381) (k := 2) zb_shore_at rfl (fun _ => rfl) (hX1.trans hX) hc hn (by omega) ?_
  refine zl_ci (s_X11_shore_ok 0 _ hρ (X (6 * c + 1)) (X (6 * c + 2)) h1 (v, h2) hR1 eG) (by omega) (zsb_e (B := zb_shore) (lo := 381) zb_shore_at rfl rfl) rfl (fun hR2 hX2 => ?_)
  have iv2 : zIv X (c + 1) h2 := ⟨ρ, pp, tp, P, L2, w2, hR2, hρ, hpt, h3, h4, hJ.nx gd, hX2.trans (hX1.trans hX)⟩
  refine zwp.gb (B := zb_shore) (lo := 381) zb_shore_at (m := 2) (j := 409) (ls' := zLw n c (some (zi k)) (some (zi v))) (st' := [zr ((52, 11, 0) : zF)]) (h' := h2) rfl ?_
  refine zl_cp (s_X11_thrown_ok 0 _ hρ h2 (zI h2 52 4) hR2 rfl) (by omega) (zsb_e (B := zb_shore) (lo := 381) zb_shore_at rfl rfl) rfl ?_
  rw [t4]
  refine zwp.gb (B := zb_shore) (lo := 381) zb_shore_at (m := 1) (j := 411) (ls' := zLw n c (some (zi k)) (some (zi v))) (st' := [zi k, zi k]) (h' := h2) rfl ?_
  refine zwp.br (c := decide (k = k)) (j := 414) (ls' := zLw n c (some (zi k)) (some (zi v))) (st' := []) (h' := h2) (j2 := 412) (l2 := zLw n c (some (zi k)) (some (zi v))) (s2 := []) (h2 := h2) (zsb_e (B := zb_shore) (lo := 381) zb_shore_at rfl rfl) (fun _ => ?_) (fun e9 => absurd rfl (of_decide_eq_false e9))
  refine zwp.gb (B := zb_shore) (lo := 381) zb_shore_at (m := 1) (j := 415) (ls' := zLw n c (some (zi k)) (some (zi v))) (st' := [zi k]) (h' := h2) rfl ?_
  refine zwp.br (c := decide (¬ k = 0)) (j := 425) (ls' := zLw n c (some (zi k)) (some (zi v))) (st' := []) (h' := h2) (j2 := 416) (l2 := zLw n c (some (zi k)) (some (zi v))) (s2 := []) (h2 := h2) (zsb_e (B := zb_shore) (lo := 381) zb_shore_at rfl rfl) (fun _ => ?_) (fun e9 => ?_)
  · refine zwp.gb (B := zb_shore) (lo := 381) zb_shore_at (m := 1) (j := 1406) (ls' := zLw n c (some (zi k)) (some (zi v))) (st' := []) (h' := h2) rfl ?_
    exact kk _ _ _ iv2
  · have e8 : k = 0 := Classical.not_not.mp (of_decide_eq_false e9)
    refine zwp.gb (B := zb_shore) (lo := 381) zb_shore_at (m := 6) (j := 422) (ls' := zLw n c (some (zi k)) (some (zi v))) (st' := [zi (lg_cmp (zL h2 90 0) v.toInt64)]) (h' := h2) rfl ?_
    rw [tL e8, lg_cmp_rf]
    refine zwp.gb (B := zb_shore) (lo := 381) zb_shore_at (m := 2) (j := 1406) (ls' := zLw n c (some (zi k)) (some (zi v))) (st' := []) (h' := h2) rfl ?_
    exact kk _ _ _ iv2
noncomputable def zb_unpick : List zA := [zE4 827 (.aload_n 1) 1 1 0 0 0,
  zE4 828 (.invokevirtual 156) 3 171 1 0 10,
  zE4 831 (.aload_n 2) 1 2 0 0 0,
  zE4 832 (.invokevirtual 159) 3 172 1 0 11,
  zE4 835 (.if_icmp .eq 1520) 3 1406 0 0 0,
  zEc 838 (.iconst 0) 1 0 0 (0),
  zE4 839 (.ireturn) 1 1 0 0 0]
set_option maxRecDepth 1000000 in
theorem zb_unpick_at : (zm_L_law.1.drop 426).take 7 = zb_unpick := rfl
theorem w_unpick {X : Nat → Int32} {n c d : Nat} {h : zH} {Q : zO → zH → Prop} (iv : zIv X c h) (hc : 6 * c + 6 ≤ n) (hn : n ≤ 384) (kk : ∀ h2 a b, zIv X (c + 1) h2 → zwp (d + 103) zm_L_law 1406 (zLw n c a b) [] h2 Q) : zwp (d + 103) zm_L_law 426 (zLw n c none none) [] h Q := by
  obtain ⟨ρ, pp, tp, P, L, w, hR, hρ, hpt, h3, h4, hJ, hX⟩ := iv
  have hpp : ρ 0 3 = some (pp, 3, 0) ∧ zPlS ρ pp := ⟨h3, zSh_pl hρ (by omega)⟩
  obtain ⟨v, h1, h2, L2, eF, eG, w2, gd⟩ := c_unpick w 
  refine zwp.gb (B := zb_unpick) (lo := 426) zb_unpick_at (m := 1) (j := 427) (ls' := zLw n c (none) (none)) (st' := [zr ((0, 10, 0) : zF)]) (h' := h) rfl ?_
  refine zl_ci (s_X10_unpick_ok 0 ρ hρ pp  hpp h (v, h1) hR eF) (by omega) (zsb_e (B := zb_unpick) (lo := 426) zb_unpick_at rfl rfl) rfl (fun hR1 hX1 => ?_)
  refine zwp.gb (B := zb_unpick) (lo := 426) zb_unpick_at (m := 1) (j := 429) (ls' := zLw n c (none) (none)) (st' := [zr ((52, 11, 0) : zF), zi v]) (h' := h1) rfl ?_
  refine zl_ci (s_X11_unpick_ok 0 ρ hρ  h1 (v, h2) hR1 eG) (by omega) (zsb_e (B := zb_unpick) (lo := 426) zb_unpick_at rfl rfl) rfl (fun hR2 hX2 => ?_)
  have iv2 : zIv X (c + 1) h2 := ⟨ρ, pp, tp, P, L2, w2, hR2, hρ, hpt, h3, h4, hJ.nx gd, hX2.trans (hX1.trans hX)⟩
  refine zwp.br (c := decide (v = v)) (j := 1406) (ls' := zLw n c (none) (none)) (st' := []) (h' := h2) (j2 := 431) (l2 := zLw n c (none) (none)) (s2 := []) (h2 := h2) (zsb_e (B := zb_unpick) (lo := 426) zb_unpick_at rfl rfl) (fun _ => kk _ _ _ iv2) (fun e9 => absurd rfl (of_decide_eq_false e9))
noncomputable def zb_teach : List zA := [zE4 840 (.aload_n 1) 1 1 0 0 0,
  zE 841 (.aload_n 0) 1,
  zE4 842 (.iload 4) 2 4 0 0 0,
  zEc 844 (.iconst 1) 1 0 0 (1),
  zE 845 (.iadd) 1,
  zE 846 (.iaload) 1,
  zE 847 (.aload_n 0) 1,
  zE4 848 (.iload 4) 2 4 0 0 0,
  zEc 850 (.iconst 2) 1 0 0 (2),
  zE 851 (.iadd) 1,
  zE 852 (.iaload) 1,
  zE4 853 (.aload_n 3) 1 3 0 0 0,
  zE4 854 (.invokestatic 160) 3 174 4 0 0,
  zE4 857 (.istore 5) 2 5 0 0 0,
  zE4 859 (.aload_n 2) 1 2 0 0 0,
  zE 860 (.aload_n 0) 1,
  zE4 861 (.iload 4) 2 4 0 0 0,
  zEc 863 (.iconst 1) 1 0 0 (1),
  zE 864 (.iadd) 1,
  zE 865 (.iaload) 1,
  zE 866 (.aload_n 0) 1,
  zE4 867 (.iload 4) 2 4 0 0 0,
  zEc 869 (.iconst 2) 1 0 0 (2),
  zE 870 (.iadd) 1,
  zE 871 (.iaload) 1,
  zE4 872 (.invokevirtual 162) 3 175 3 0 11,
  zE4 875 (.istore 6) 2 6 0 0 0,
  zE4 877 (.aload_n 2) 1 2 0 0 0,
  zE4 878 (.invokevirtual 122) 3 84 1 0 11,
  zE4 881 (.iload 5) 2 5 0 0 0,
  zE4 883 (.if_icmp .eq 5) 3 466 0 0 0,
  zEc 886 (.iconst 0) 1 0 0 (0),
  zE4 887 (.ireturn) 1 1 0 0 0,
  zE4 888 (.iload 5) 2 5 0 0 0,
  zE4 890 (.ifCond .ne 15) 3 477 0 0 0,
  zE4 893 (.aload_n 3) 1 3 0 0 0,
  zEc 894 (.iconst 0) 1 0 0 (0),
  zE 895 (.laload) 1,
  zE4 896 (.iload 6) 2 6 0 0 0,
  zE 898 (.i2l) 1,
  zE 899 (.lcmp) 1,
  zE4 900 (.ifCond .eq 5) 3 477 0 0 0,
  zEc 903 (.iconst 0) 1 0 0 (0),
  zE4 904 (.ireturn) 1 1 0 0 0,
  zE4 905 (.goto 1450) 3 1406 0 0 0]
set_option maxRecDepth 1000000 in
theorem zb_teach_at : (zm_L_law.1.drop 433).take 45 = zb_teach := rfl
theorem w_teach {X : Nat → Int32} {n c d : Nat} {h : zH} {Q : zO → zH → Prop} (iv : zIv X c h) (hc : 6 * c + 6 ≤ n) (hn : n ≤ 384) (kk : ∀ h2 a b, zIv X (c + 1) h2 → zwp (d + 103) zm_L_law 1406 (zLw n c a b) [] h2 Q) : zwp (d + 103) zm_L_law 433 (zLw n c none none) [] h Q := by
  obtain ⟨ρ, pp, tp, P, L, w, hR, hρ, hpt, h3, h4, hJ, hX⟩ := iv
  have hpp : ρ 0 3 = some (pp, 3, 0) ∧ zPlS ρ pp := ⟨h3, zSh_pl hρ (by omega)⟩
  obtain ⟨k, h1, v, h2, L2, eF, eG, t4, tL, w2, gd⟩ := c_teach w (X (6 * c + 1)) (X (6 * c + 2))
  refine zwp.gb (B := zb_teach) (lo := 433) zb_teach_at (m := 1) (j := 434) (ls' := zLw n c (none) (none)) (st' := [zr ((0, 10, 0) : zF)]) (h' := h) rfl ?_
  refine zc_sx (B := zb_teach) (lo := 433) (k := 1) zb_teach_at rfl (fun _ => rfl) hX hc hn (by omega) ?_
  refine zc_sx (B := zb_teach) (lo := 433) (k := 2) zb_teach_at rfl (fun _ => rfl) hX hc hn (by omega) ?_
  refine zwp.gb (B := zb_teach) (lo := 433) zb_teach_at (m := 1) (j := 445) (ls' := zLw n c (none) (none)) (st' := [zr ((90, 23, 1) : zF), zi (X (6 * c + 2)), zi (X (6 * c + 1)), zr ((0, 10, 0) : zF)]) (h' := h) rfl ?_
  refine zl_ci (s_L_teach_ok 0 ρ hρ pp (X (6 * c + 1)) (X (6 * c + 2)) 90 1 hpp h (k, h1) hR eF) (by omega) (zsb_e (B := zb_teach) (lo := 433) zb_teach_at rfl rfl) rfl (fun hR1 hX1 => ?_)
  refine zwp.gb (B := zb_teach) (lo := 433) zb_teach_at (m := 2) (j := 448) (ls' := zLw n c (some (zi k)) (none)) (st' := [zr ((52, 11, 0) : zF)]) (h' := h1) rfl ?_
  refine zc_sx (B := zb_teach) (lo := 433) (k := 1) zb_teach_at rfl (fun _ => rfl) (hX1.trans hX) hc hn (by omega) ?_
  refine zc_sx (B := zb_teach) (lo := 433) (k := 2) zb_teach_at rfl (fun _ => rfl) (hX1.trans hX) hc hn (by omega) ?_
  refine zl_ci (s_X11_teach_ok 0 _ hρ (X (6 * c + 1)) (X (6 * c + 2)) h1 (v, h2) hR1 eG) (by omega) (zsb_e (B := zb_teach) (lo := 433) zb_teach_at rfl rfl) rfl (fun hR2 hX2 => ?_)
  have iv2 : zIv X (c + 1) h2 := ⟨ρ, pp, tp, P, L2, w2, hR2, hρ, hpt, h3, h4, hJ.nx gd, hX2.trans (hX1.trans hX)⟩
  refine zwp.gb (B := zb_teach) (lo := 433) zb_teach_at (m := 2) (j := 461) (ls' := zLw n c (some (zi k)) (some (zi v))) (st' := [zr ((52, 11, 0) : zF)]) (h' := h2) rfl ?_
  refine zl_cp (s_X11_thrown_ok 0 _ hρ h2 (zI h2 52 4) hR2 rfl) (by omega) (zsb_e (B := zb_teach) (lo := 433) zb_teach_at rfl rfl) rfl ?_
  rw [t4]
  refine zwp.gb (B := zb_teach) (lo := 433) zb_teach_at (m := 1) (j := 463) (ls' := zLw n c (some (zi k)) (some (zi v))) (st' := [zi k, zi k]) (h' := h2) rfl ?_
  refine zwp.br (c := decide (k = k)) (j := 466) (ls' := zLw n c (some (zi k)) (some (zi v))) (st' := []) (h' := h2) (j2 := 464) (l2 := zLw n c (some (zi k)) (some (zi v))) (s2 := []) (h2 := h2) (zsb_e (B := zb_teach) (lo := 433) zb_teach_at rfl rfl) (fun _ => ?_) (fun e9 => absurd rfl (of_decide_eq_false e9))
  refine zwp.gb (B := zb_teach) (lo := 433) zb_teach_at (m := 1) (j := 467) (ls' := zLw n c (some (zi k)) (some (zi v))) (st' := [zi k]) (h' := h2) rfl ?_
  refine zwp.br (c := decide (¬ k = 0)) (j := 477) (ls' := zLw n c (some (zi k)) (some (zi v))) (st' := []) (h' := h2) (j2 := 468) (l2 := zLw n c (some (zi k)) (some (zi v))) (s2 := []) (h2 := h2) (zsb_e (B := zb_teach) (lo := 433) zb_teach_at rfl rfl) (fun _ => ?_) (fun e9 => ?_)
  · refine zwp.gb (B := zb_teach) (lo := 433) zb_teach_at (m := 1) (j := 1406) (ls' := zLw n c (some (zi k)) (some (zi v))) (st' := []) (h' := h2) rfl ?_
    exact kk _ _ _ iv2
  · have e8 : k = 0 := Classical.not_not.mp (of_decide_eq_false e9)
    refine zwp.gb (B := zb_teach) (lo := 433) zb_teach_at (m := 6) (j := 474) (ls' := zLw n c (some (zi k)) (some (zi v))) (st' := [zi (lg_cmp (zL h2 90 0) v.toInt64)]) (h' := h2) rfl ?_
    rw [tL e8, lg_cmp_rf]
    refine zwp.gb (B := zb_teach) (lo := 433) zb_teach_at (m := 2) (j := 1406) (ls' := zLw n c (some (zi k)) (some (zi v))) (st' := []) (h' := h2) rfl ?_
    exact kk _ _ _ iv2
noncomputable def zb_undo : List zA := [zE4 908 (.aload_n 1) 1 1 0 0 0,
  zE4 909 (.invokevirtual 163) 3 178 1 0 10,
  zE4 912 (.aload_n 2) 1 2 0 0 0,
  zE4 913 (.invokevirtual 166) 3 180 1 0 11,
  zE4 916 (.if_icmp .eq 1439) 3 1406 0 0 0,
  zEc 919 (.iconst 0) 1 0 0 (0),
  zE4 920 (.ireturn) 1 1 0 0 0]
set_option maxRecDepth 1000000 in
theorem zb_undo_at : (zm_L_law.1.drop 478).take 7 = zb_undo := rfl
theorem w_undo {X : Nat → Int32} {n c d : Nat} {h : zH} {Q : zO → zH → Prop} (iv : zIv X c h) (hc : 6 * c + 6 ≤ n) (hn : n ≤ 384) (kk : ∀ h2 a b, zIv X (c + 1) h2 → zwp (d + 103) zm_L_law 1406 (zLw n c a b) [] h2 Q) : zwp (d + 103) zm_L_law 478 (zLw n c none none) [] h Q := by
  obtain ⟨ρ, pp, tp, P, L, w, hR, hρ, hpt, h3, h4, hJ, hX⟩ := iv
  have hpp : ρ 0 3 = some (pp, 3, 0) ∧ zPlS ρ pp := ⟨h3, zSh_pl hρ (by omega)⟩
  obtain ⟨v, h1, h2, L2, eF, eG, w2, gd⟩ := c_undo w 
  refine zwp.gb (B := zb_undo) (lo := 478) zb_undo_at (m := 1) (j := 479) (ls' := zLw n c (none) (none)) (st' := [zr ((0, 10, 0) : zF)]) (h' := h) rfl ?_
  refine zl_ci (s_X10_undo_ok 0 ρ hρ pp  hpp h (v, h1) hR eF) (by omega) (zsb_e (B := zb_undo) (lo := 478) zb_undo_at rfl rfl) rfl (fun hR1 hX1 => ?_)
  refine zwp.gb (B := zb_undo) (lo := 478) zb_undo_at (m := 1) (j := 481) (ls' := zLw n c (none) (none)) (st' := [zr ((52, 11, 0) : zF), zi v]) (h' := h1) rfl ?_
  refine zl_ci (s_X11_undo_ok 0 ρ hρ  h1 (v, h2) hR1 eG) (by omega) (zsb_e (B := zb_undo) (lo := 478) zb_undo_at rfl rfl) rfl (fun hR2 hX2 => ?_)
  have iv2 : zIv X (c + 1) h2 := ⟨ρ, pp, tp, P, L2, w2, hR2, hρ, hpt, h3, h4, hJ.nx gd, hX2.trans (hX1.trans hX)⟩
  refine zwp.br (c := decide (v = v)) (j := 1406) (ls' := zLw n c (none) (none)) (st' := []) (h' := h2) (j2 := 483) (l2 := zLw n c (none) (none)) (s2 := []) (h2 := h2) (zsb_e (B := zb_undo) (lo := 478) zb_undo_at rfl rfl) (fun _ => kk _ _ _ iv2) (fun e9 => absurd rfl (of_decide_eq_false e9))
noncomputable def zb_then : List zA := [zE4 921 (.aload_n 1) 1 1 0 0 0,
  zE 922 (.aload_n 0) 1,
  zE4 923 (.iload 4) 2 4 0 0 0,
  zEc 925 (.iconst 1) 1 0 0 (1),
  zE 926 (.iadd) 1,
  zE 927 (.iaload) 1,
  zE 928 (.aload_n 0) 1,
  zE4 929 (.iload 4) 2 4 0 0 0,
  zEc 931 (.iconst 2) 1 0 0 (2),
  zE 932 (.iadd) 1,
  zE 933 (.iaload) 1,
  zE4 934 (.aload_n 3) 1 3 0 0 0,
  zE4 935 (.invokestatic 167) 3 185 4 0 0,
  zE4 938 (.istore 5) 2 5 0 0 0,
  zE4 940 (.aload_n 2) 1 2 0 0 0,
  zE 941 (.aload_n 0) 1,
  zE4 942 (.iload 4) 2 4 0 0 0,
  zEc 944 (.iconst 1) 1 0 0 (1),
  zE 945 (.iadd) 1,
  zE 946 (.iaload) 1,
  zE 947 (.aload_n 0) 1,
  zE4 948 (.iload 4) 2 4 0 0 0,
  zEc 950 (.iconst 2) 1 0 0 (2),
  zE 951 (.iadd) 1,
  zE 952 (.iaload) 1,
  zE4 953 (.invokevirtual 169) 3 186 3 0 11,
  zE4 956 (.istore 6) 2 6 0 0 0,
  zE4 958 (.aload_n 2) 1 2 0 0 0,
  zE4 959 (.invokevirtual 122) 3 84 1 0 11,
  zE4 962 (.iload 5) 2 5 0 0 0,
  zE4 964 (.if_icmp .eq 5) 3 518 0 0 0,
  zEc 967 (.iconst 0) 1 0 0 (0),
  zE4 968 (.ireturn) 1 1 0 0 0,
  zE4 969 (.iload 5) 2 5 0 0 0,
  zE4 971 (.ifCond .ne 15) 3 529 0 0 0,
  zE4 974 (.aload_n 3) 1 3 0 0 0,
  zEc 975 (.iconst 0) 1 0 0 (0),
  zE 976 (.laload) 1,
  zE4 977 (.iload 6) 2 6 0 0 0,
  zE 979 (.i2l) 1,
  zE 980 (.lcmp) 1,
  zE4 981 (.ifCond .eq 5) 3 529 0 0 0,
  zEc 984 (.iconst 0) 1 0 0 (0),
  zE4 985 (.ireturn) 1 1 0 0 0,
  zE4 986 (.goto 1369) 3 1406 0 0 0]
set_option maxRecDepth 1000000 in
theorem zb_then_at : (zm_L_law.1.drop 485).take 45 = zb_then := rfl
theorem w_then {X : Nat → Int32} {n c d : Nat} {h : zH} {Q : zO → zH → Prop} (iv : zIv X c h) (hc : 6 * c + 6 ≤ n) (hn : n ≤ 384) (kk : ∀ h2 a b, zIv X (c + 1) h2 → zwp (d + 103) zm_L_law 1406 (zLw n c a b) [] h2 Q) : zwp (d + 103) zm_L_law 485 (zLw n c none none) [] h Q := by
  obtain ⟨ρ, pp, tp, P, L, w, hR, hρ, hpt, h3, h4, hJ, hX⟩ := iv
  have hpp : ρ 0 3 = some (pp, 3, 0) ∧ zPlS ρ pp := ⟨h3, zSh_pl hρ (by omega)⟩
  obtain ⟨k, h1, v, h2, L2, eF, eG, t4, tL, w2, gd⟩ := c_then w (X (6 * c + 1)) (X (6 * c + 2))
  refine zwp.gb (B := zb_then) (lo := 485) zb_then_at (m := 1) (j := 486) (ls' := zLw n c (none) (none)) (st' := [zr ((0, 10, 0) : zF)]) (h' := h) rfl ?_
  refine zc_sx (B := zb_then) (lo := 485) (k := 1) zb_then_at rfl (fun _ => rfl) hX hc hn (by omega) ?_
  refine zc_sx (B := zb_then) (lo := 485) (k := 2) zb_then_at rfl (fun _ => rfl) hX hc hn (by omega) ?_
  refine zwp.gb (B := zb_then) (lo := 485) zb_then_at (m := 1) (j := 497) (ls' := zLw n c (none) (none)) (st' := [zr ((90, 23, 1) : zF), zi (X (6 * c + 2)), zi (X (6 * c + 1)), zr ((0, 10, 0) : zF)]) (h' := h) rfl ?_
  refine zl_ci (s_L_then_ok 0 ρ hρ pp (X (6 * c + 1)) (X (6 * c + 2)) 90 1 hpp h (k, h1) hR eF) (by omega) (zsb_e (B := zb_then) (lo := 485) zb_then_at rfl rfl) rfl (fun hR1 hX1 => ?_)
  refine zwp.gb (B := zb_then) (lo := 485) zb_then_at (m := 2) (j := 500) (ls' := zLw n c (some (zi k)) (none)) (st' := [zr ((52, 11, 0) : zF)]) (h' := h1) rfl ?_
  refine zc_sx (B := zb_then) (lo := 485) (k := 1) zb_then_at rfl (fun _ => rfl) (hX1.trans hX) hc hn (by omega) ?_
  refine zc_sx (B := zb_then) (lo := 485) (k := 2) zb_then_at rfl (fun _ => rfl) (hX1.trans hX) hc hn (by omega) ?_
  refine zl_ci (s_X11_then_ok 0 _ hρ (X (6 * c + 1)) (X (6 * c + 2)) h1 (v, h2) hR1 eG) (by omega) (zsb_e (B := zb_then) (lo := 485) zb_then_at rfl rfl) rfl (fun hR2 hX2 => ?_)
  have iv2 : zIv X (c + 1) h2 := ⟨ρ, pp, tp, P, L2, w2, hR2, hρ, hpt, h3, h4, hJ.nx gd, hX2.trans (hX1.trans hX)⟩
  refine zwp.gb (B := zb_then) (lo := 485) zb_then_at (m := 2) (j := 513) (ls' := zLw n c (some (zi k)) (some (zi v))) (st' := [zr ((52, 11, 0) : zF)]) (h' := h2) rfl ?_
  refine zl_cp (s_X11_thrown_ok 0 _ hρ h2 (zI h2 52 4) hR2 rfl) (by omega) (zsb_e (B := zb_then) (lo := 485) zb_then_at rfl rfl) rfl ?_
  rw [t4]
  refine zwp.gb (B := zb_then) (lo := 485) zb_then_at (m := 1) (j := 515) (ls' := zLw n c (some (zi k)) (some (zi v))) (st' := [zi k, zi k]) (h' := h2) rfl ?_
  refine zwp.br (c := decide (k = k)) (j := 518) (ls' := zLw n c (some (zi k)) (some (zi v))) (st' := []) (h' := h2) (j2 := 516) (l2 := zLw n c (some (zi k)) (some (zi v))) (s2 := []) (h2 := h2) (zsb_e (B := zb_then) (lo := 485) zb_then_at rfl rfl) (fun _ => ?_) (fun e9 => absurd rfl (of_decide_eq_false e9))
  refine zwp.gb (B := zb_then) (lo := 485) zb_then_at (m := 1) (j := 519) (ls' := zLw n c (some (zi k)) (some (zi v))) (st' := [zi k]) (h' := h2) rfl ?_
  refine zwp.br (c := decide (¬ k = 0)) (j := 529) (ls' := zLw n c (some (zi k)) (some (zi v))) (st' := []) (h' := h2) (j2 := 520) (l2 := zLw n c (some (zi k)) (some (zi v))) (s2 := []) (h2 := h2) (zsb_e (B := zb_then) (lo := 485) zb_then_at rfl rfl) (fun _ => ?_) (fun e9 => ?_)
  · refine zwp.gb (B := zb_then) (lo := 485) zb_then_at (m := 1) (j := 1406) (ls' := zLw n c (some (zi k)) (some (zi v))) (st' := []) (h' := h2) rfl ?_
    exact kk _ _ _ iv2
  · have e8 : k = 0 := Classical.not_not.mp (of_decide_eq_false e9)
    refine zwp.gb (B := zb_then) (lo := 485) zb_then_at (m := 6) (j := 526) (ls' := zLw n c (some (zi k)) (some (zi v))) (st' := [zi (lg_cmp (zL h2 90 0) v.toInt64)]) (h' := h2) rfl ?_
    rw [tL e8, lg_cmp_rf]
    refine zwp.gb (B := zb_then) (lo := 485) zb_then_at (m := 2) (j := 1406) (ls' := zLw n c (some (zi k)) (some (zi v))) (st' := []) (h' := h2) rfl ?_
    exact kk _ _ _ iv2
noncomputable def zb_later : List zA := [zE4 989 (.aload_n 1) 1 1 0 0 0,
  zE 990 (.aload_n 0) 1,
  zE4 991 (.iload 4) 2 4 0 0 0,
  zEc 993 (.iconst 1) 1 0 0 (1),
  zE 994 (.iadd) 1,
  zE 995 (.iaload) 1,
  zE 996 (.aload_n 0) 1,
  zE4 997 (.iload 4) 2 4 0 0 0,
  zEc 999 (.iconst 2) 1 0 0 (2),
  zE 1000 (.iadd) 1,
  zE 1001 (.iaload) 1,
  zE4 1002 (.aload_n 3) 1 3 0 0 0,
  zE4 1003 (.invokestatic 170) 3 188 4 0 0,
  zE4 1006 (.istore 5) 2 5 0 0 0,
  zE4 1008 (.aload_n 2) 1 2 0 0 0,
  zE 1009 (.aload_n 0) 1,
  zE4 1010 (.iload 4) 2 4 0 0 0,
  zEc 1012 (.iconst 1) 1 0 0 (1),
  zE 1013 (.iadd) 1,
  zE 1014 (.iaload) 1,
  zE 1015 (.aload_n 0) 1,
  zE4 1016 (.iload 4) 2 4 0 0 0,
  zEc 1018 (.iconst 2) 1 0 0 (2),
  zE 1019 (.iadd) 1,
  zE 1020 (.iaload) 1,
  zE4 1021 (.invokevirtual 172) 3 189 3 0 11,
  zE4 1024 (.istore 6) 2 6 0 0 0,
  zE4 1026 (.aload_n 2) 1 2 0 0 0,
  zE4 1027 (.invokevirtual 122) 3 84 1 0 11,
  zE4 1030 (.iload 5) 2 5 0 0 0,
  zE4 1032 (.if_icmp .eq 5) 3 563 0 0 0,
  zEc 1035 (.iconst 0) 1 0 0 (0),
  zE4 1036 (.ireturn) 1 1 0 0 0,
  zE4 1037 (.iload 5) 2 5 0 0 0,
  zE4 1039 (.ifCond .ne 15) 3 574 0 0 0,
  zE4 1042 (.aload_n 3) 1 3 0 0 0,
  zEc 1043 (.iconst 0) 1 0 0 (0),
  zE 1044 (.laload) 1,
  zE4 1045 (.iload 6) 2 6 0 0 0,
  zE 1047 (.i2l) 1,
  zE 1048 (.lcmp) 1,
  zE4 1049 (.ifCond .eq 5) 3 574 0 0 0,
  zEc 1052 (.iconst 0) 1 0 0 (0),
  zE4 1053 (.ireturn) 1 1 0 0 0,
  zE4 1054 (.goto 1301) 3 1406 0 0 0]
set_option maxRecDepth 1000000 in
theorem zb_later_at : (zm_L_law.1.drop 530).take 45 = zb_later := rfl
theorem w_later {X : Nat → Int32} {n c d : Nat} {h : zH} {Q : zO → zH → Prop} (iv : zIv X c h) (hc : 6 * c + 6 ≤ n) (hn : n ≤ 384) (kk : ∀ h2 a b, zIv X (c + 1) h2 → zwp (d + 103) zm_L_law 1406 (zLw n c a b) [] h2 Q) : zwp (d + 103) zm_L_law 530 (zLw n c none none) [] h Q := by
  obtain ⟨ρ, pp, tp, P, L, w, hR, hρ, hpt, h3, h4, hJ, hX⟩ := iv
  have hpp : ρ 0 3 = some (pp, 3, 0) ∧ zPlS ρ pp := ⟨h3, zSh_pl hρ (by omega)⟩
  obtain ⟨k, h1, v, h2, L2, eF, eG, t4, tL, w2, gd⟩ := c_later w (X (6 * c + 1)) (X (6 * c + 2))
  refine zwp.gb (B := zb_later) (lo := 530) zb_later_at (m := 1) (j := 531) (ls' := zLw n c (none) (none)) (st' := [zr ((0, 10, 0) : zF)]) (h' := h) rfl ?_
  refine zc_sx (B := zb_later) (lo := 530) (k := 1) zb_later_at rfl (fun _ => rfl) hX hc hn (by omega) ?_
  refine zc_sx (B := zb_later) (lo := 530) (k := 2) zb_later_at rfl (fun _ => rfl) hX hc hn (by omega) ?_
  refine zwp.gb (B := zb_later) (lo := 530) zb_later_at (m := 1) (j := 542) (ls' := zLw n c (none) (none)) (st' := [zr ((90, 23, 1) : zF), zi (X (6 * c + 2)), zi (X (6 * c + 1)), zr ((0, 10, 0) : zF)]) (h' := h) rfl ?_
  refine zl_ci (s_L_later_ok 0 ρ hρ pp (X (6 * c + 1)) (X (6 * c + 2)) 90 1 hpp h (k, h1) hR eF) (by omega) (zsb_e (B := zb_later) (lo := 530) zb_later_at rfl rfl) rfl (fun hR1 hX1 => ?_)
  refine zwp.gb (B := zb_later) (lo := 530) zb_later_at (m := 2) (j := 545) (ls' := zLw n c (some (zi k)) (none)) (st' := [zr ((52, 11, 0) : zF)]) (h' := h1) rfl ?_
  refine zc_sx (B := zb_later) (lo := 530) (k := 1) zb_later_at rfl (fun _ => rfl) (hX1.trans hX) hc hn (by omega) ?_
  refine zc_sx (B := zb_later) (lo := 530) (k := 2) zb_later_at rfl (fun _ => rfl) (hX1.trans hX) hc hn (by omega) ?_
  refine zl_ci (s_X11_later_ok 0 _ hρ (X (6 * c + 1)) (X (6 * c + 2)) h1 (v, h2) hR1 eG) (by omega) (zsb_e (B := zb_later) (lo := 530) zb_later_at rfl rfl) rfl (fun hR2 hX2 => ?_)
  have iv2 : zIv X (c + 1) h2 := ⟨ρ, pp, tp, P, L2, w2, hR2, hρ, hpt, h3, h4, hJ.nx gd, hX2.trans (hX1.trans hX)⟩
  refine zwp.gb (B := zb_later) (lo := 530) zb_later_at (m := 2) (j := 558) (ls' := zLw n c (some (zi k)) (some (zi v))) (st' := [zr ((52, 11, 0) : zF)]) (h' := h2) rfl ?_
  refine zl_cp (s_X11_thrown_ok 0 _ hρ h2 (zI h2 52 4) hR2 rfl) (by omega) (zsb_e (B := zb_later) (lo := 530) zb_later_at rfl rfl) rfl ?_
  rw [t4]
  refine zwp.gb (B := zb_later) (lo := 530) zb_later_at (m := 1) (j := 560) (ls' := zLw n c (some (zi k)) (some (zi v))) (st' := [zi k, zi k]) (h' := h2) rfl ?_
  refine zwp.br (c := decide (k = k)) (j := 563) (ls' := zLw n c (some (zi k)) (some (zi v))) (st' := []) (h' := h2) (j2 := 561) (l2 := zLw n c (some (zi k)) (some (zi v))) (s2 := []) (h2 := h2) (zsb_e (B := zb_later) (lo := 530) zb_later_at rfl rfl) (fun _ => ?_) (fun e9 => absurd rfl (of_decide_eq_false e9))
  refine zwp.gb (B := zb_later) (lo := 530) zb_later_at (m := 1) (j := 564) (ls' := zLw n c (some (zi k)) (some (zi v))) (st' := [zi k]) (h' := h2) rfl ?_
  refine zwp.br (c := decide (¬ k = 0)) (j := 574) (ls' := zLw n c (some (zi k)) (some (zi v))) (st' := []) (h' := h2) (j2 := 565) (l2 := zLw n c (some (zi k)) (some (zi v))) (s2 := []) (h2 := h2) (zsb_e (B := zb_later) (lo := 530) zb_later_at rfl rfl) (fun _ => ?_) (fun e9 => ?_)
  · refine zwp.gb (B := zb_later) (lo := 530) zb_later_at (m := 1) (j := 1406) (ls' := zLw n c (some (zi k)) (some (zi v))) (st' := []) (h' := h2) rfl ?_
    exact kk _ _ _ iv2
  · have e8 : k = 0 := Classical.not_not.mp (of_decide_eq_false e9)
    refine zwp.gb (B := zb_later) (lo := 530) zb_later_at (m := 6) (j := 571) (ls' := zLw n c (some (zi k)) (some (zi v))) (st' := [zi (lg_cmp (zL h2 90 0) v.toInt64)]) (h' := h2) rfl ?_
    rw [tL e8, lg_cmp_rf]
    refine zwp.gb (B := zb_later) (lo := 530) zb_later_at (m := 2) (j := 1406) (ls' := zLw n c (some (zi k)) (some (zi v))) (st' := []) (h' := h2) rfl ?_
    exact kk _ _ _ iv2
