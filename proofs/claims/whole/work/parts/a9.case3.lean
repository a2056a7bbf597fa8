/-! ===== the law, case by case, 3 ===== -/
noncomputable def zb_gone : List zA := [zE4 1057 (.aload_n 1) 1 1 0 0 0,
  zE 1058 (.aload_n 0) 1,
  zE4 1059 (.iload 4) 2 4 0 0 0,
  zEc 1061 (.iconst 1) 1 0 0 (1),
  zE 1062 (.iadd) 1,
  zE 1063 (.iaload) 1,
  zE4 1064 (.aload_n 3) 1 3 0 0 0,
  zE4 1065 (.invokestatic 173) 3 195 3 0 0,
  zE4 1068 (.istore 5) 2 5 0 0 0,
  zE4 1070 (.aload_n 2) 1 2 0 0 0,
  zE 1071 (.aload_n 0) 1,
  zE4 1072 (.iload 4) 2 4 0 0 0,
  zEc 1074 (.iconst 1) 1 0 0 (1),
  zE 1075 (.iadd) 1,
  zE 1076 (.iaload) 1,
  zE4 1077 (.invokevirtual 175) 3 197 2 0 11,
  zE4 1080 (.istore 6) 2 6 0 0 0,
  zE4 1082 (.aload_n 2) 1 2 0 0 0,
  zE4 1083 (.invokevirtual 122) 3 84 1 0 11,
  zE4 1086 (.iload 5) 2 5 0 0 0,
  zE4 1088 (.if_icmp .eq 5) 3 598 0 0 0,
  zEc 1091 (.iconst 0) 1 0 0 (0),
  zE4 1092 (.ireturn) 1 1 0 0 0,
  zE4 1093 (.iload 5) 2 5 0 0 0,
  zE4 1095 (.ifCond .ne 15) 3 609 0 0 0,
  zE4 1098 (.aload_n 3) 1 3 0 0 0,
  zEc 1099 (.iconst 0) 1 0 0 (0),
  zE 1100 (.laload) 1,
  zE4 1101 (.iload 6) 2 6 0 0 0,
  zE 1103 (.i2l) 1,
  zE 1104 (.lcmp) 1,
  zE4 1105 (.ifCond .eq 5) 3 609 0 0 0,
  zEc 1108 (.iconst 0) 1 0 0 (0),
  zE4 1109 (.ireturn) 1 1 0 0 0,
  zE4 1110 (.goto 1245) 3 1406 0 0 0]
set_option maxRecDepth 1000000 in
theorem zb_gone_at : (zm_L_law.1.drop 575).take 35 = zb_gone := rfl
theorem w_gone {X : Nat → Int32} {n c d : Nat} {h : zH} {Q : zO → zH → Prop} (iv : zIv X c h) (hc : 6 * c + 6 ≤ n) (hn : n ≤ 384) (kk : ∀ h2 a b, zIv X (c + 1) h2 → zwp (d + 103) zm_L_law 1406 (zLw n c a b) [] h2 Q) : zwp (d + 103) zm_L_law 575 (zLw n c none none) [] h Q := by
  obtain ⟨ρ, pp, tp, P, L, w, hR, hρ, hpt, h3, h4, hJ, hX⟩ := iv
  have hpp : ρ 0 3 = some (pp, 3, 0) ∧ zPlS ρ pp := ⟨h3, zSh_pl hρ (by omega)⟩
  obtain ⟨k, h1, v, h2, L2, eF, eG, t4, tL, w2, gd⟩ := c_gone w (X (6 * c + 1))
  refine zwp.gb (B := zb_gone) (lo := 575) zb_gone_at (m := 1) (j := 576) (ls' := zLw n c (none) (none)) (st' := [zr ((0, 10, 0) : zF)]) (h' := h) rfl ?_
  refine zc_sx (B := zb_gone) (lo := 575) (k := 1) zb_gone_at rfl (fun _ => rfl) hX hc hn (by omega) ?_
  refine zwp.gb (B := zb_gone) (lo := 575) zb_gone_at (m := 1) (j := 582) (ls' := zLw n c (none) (none)) (st' := [zr ((90, 23, 1) : zF), zi (X (6 * c + 1)), zr ((0, 10, 0) : zF)]) (h' := h) rfl ?_
  refine zl_ci (s_L_gone_ok 0 ρ hρ pp (X (6 * c + 1)) 90 1 hpp h (k, h1) hR eF) (by omega) (zsb_e (B := zb_gone) (lo := 575) zb_gone_at rfl rfl) rfl (fun hR1 hX1 => ?_)
  refine zwp.gb (B := zb_gone) (lo := 575) zb_gone_at (m := 2) (j := 585) (ls' := zLw n c (some (zi k)) (none)) (st' := [zr ((52, 11, 0) : zF)]) (h' := h1) rfl ?_
  refine zc_sx (B := zb_gone) (lo := 575) (k := 1) zb_gone_at rfl (fun _ => rfl) (hX1.trans hX) hc hn (by omega) ?_
  refine zl_ci (s_X11_gone_ok 0 _ hρ (X (6 * c + 1)) h1 (v, h2) hR1 eG) (by omega) (zsb_e (B := zb_gone) (lo := 575) zb_gone_at rfl rfl) rfl (fun hR2 hX2 => ?_)
  have iv2 : zIv X (c + 1) h2 := ⟨ρ, pp, tp, P, L2, w2, hR2, hρ, hpt, h3, h4, hJ.nx gd, hX2.trans (hX1.trans hX)⟩
  refine zwp.gb (B := zb_gone) (lo := 575) zb_gone_at (m := 2) (j := 593) (ls' := zLw n c (some (zi k)) (some (zi v))) (st' := [zr ((52, 11, 0) : zF)]) (h' := h2) rfl ?_
  refine zl_cp (s_X11_thrown_ok 0 _ hρ h2 (zI h2 52 4) hR2 rfl) (by omega) (zsb_e (B := zb_gone) (lo := 575) zb_gone_at rfl rfl) rfl ?_
  rw [t4]
  refine zwp.gb (B := zb_gone) (lo := 575) zb_gone_at (m := 1) (j := 595) (ls' := zLw n c (some (zi k)) (some (zi v))) (st' := [zi k, zi k]) (h' := h2) rfl ?_
  refine zwp.br (c := decide (k = k)) (j := 598) (ls' := zLw n c (some (zi k)) (some (zi v))) (st' := []) (h' := h2) (j2 := 596) (l2 := zLw n c (some (zi k)) (some (zi v))) (s2 := []) (h2 := h2) (zsb_e (B := zb_gone) (lo := 575) zb_gone_at rfl rfl) (fun _ => ?_) (fun e9 => absurd rfl (of_decide_eq_false e9))
  refine zwp.gb (B := zb_gone) (lo := 575) zb_gone_at (m := 1) (j := 599) (ls' := zLw n c (some (zi k)) (some (zi v))) (st' := [zi k]) (h' := h2) rfl ?_
  refine zwp.br (c := decide (¬ k = 0)) (j := 609) (ls' := zLw n c (some (zi k)) (some (zi v))) (st' := []) (h' := h2) (j2 := 600) (l2 := zLw n c (some (zi k)) (some (zi v))) (s2 := []) (h2 := h2) (zsb_e (B := zb_gone) (lo := 575) zb_gone_at rfl rfl) (fun _ => ?_) (fun e9 => ?_)
  · refine zwp.gb (B := zb_gone) (lo := 575) zb_gone_at (m := 1) (j := 1406) (ls' := zLw n c (some (zi k)) (some (zi v))) (st' := []) (h' := h2) rfl ?_
    exact kk _ _ _ iv2
  · have e8 : k = 0 := Classical.not_not.mp (of_decide_eq_false e9)
    refine zwp.gb (B := zb_gone) (lo := 575) zb_gone_at (m := 6) (j := 606) (ls' := zLw n c (some (zi k)) (some (zi v))) (st' := [zi (lg_cmp (zL h2 90 0) v.toInt64)]) (h' := h2) rfl ?_
    rw [tL e8, lg_cmp_rf]
    refine zwp.gb (B := zb_gone) (lo := 575) zb_gone_at (m := 2) (j := 1406) (ls' := zLw n c (some (zi k)) (some (zi v))) (st' := []) (h' := h2) rfl ?_
    exact kk _ _ _ iv2
noncomputable def zb_done : List zA := [zE4 1113 (.aload_n 1) 1 1 0 0 0,
  zE 1114 (.aload_n 0) 1,
  zE4 1115 (.iload 4) 2 4 0 0 0,
  zEc 1117 (.iconst 1) 1 0 0 (1),
  zE 1118 (.iadd) 1,
  zE 1119 (.iaload) 1,
  zE 1120 (.aload_n 0) 1,
  zE4 1121 (.iload 4) 2 4 0 0 0,
  zEc 1123 (.iconst 2) 1 0 0 (2),
  zE 1124 (.iadd) 1,
  zE 1125 (.iaload) 1,
  zE4 1126 (.aload_n 3) 1 3 0 0 0,
  zE4 1127 (.invokestatic 176) 3 199 4 0 0,
  zE4 1130 (.istore 5) 2 5 0 0 0,
  zE4 1132 (.aload_n 2) 1 2 0 0 0,
  zE 1133 (.aload_n 0) 1,
  zE4 1134 (.iload 4) 2 4 0 0 0,
  zEc 1136 (.iconst 1) 1 0 0 (1),
  zE 1137 (.iadd) 1,
  zE 1138 (.iaload) 1,
  zE 1139 (.aload_n 0) 1,
  zE4 1140 (.iload 4) 2 4 0 0 0,
  zEc 1142 (.iconst 2) 1 0 0 (2),
  zE 1143 (.iadd) 1,
  zE 1144 (.iaload) 1,
  zE4 1145 (.invokevirtual 178) 3 201 3 0 11,
  zE4 1148 (.istore 6) 2 6 0 0 0,
  zE4 1150 (.aload_n 2) 1 2 0 0 0,
  zE4 1151 (.invokevirtual 122) 3 84 1 0 11,
  zE4 1154 (.iload 5) 2 5 0 0 0,
  zE4 1156 (.if_icmp .eq 5) 3 643 0 0 0,
  zEc 1159 (.iconst 0) 1 0 0 (0),
  zE4 1160 (.ireturn) 1 1 0 0 0,
  zE4 1161 (.iload 5) 2 5 0 0 0,
  zE4 1163 (.ifCond .ne 15) 3 654 0 0 0,
  zE4 1166 (.aload_n 3) 1 3 0 0 0,
  zEc 1167 (.iconst 0) 1 0 0 (0),
  zE 1168 (.laload) 1,
  zE4 1169 (.iload 6) 2 6 0 0 0,
  zE 1171 (.i2l) 1,
  zE 1172 (.lcmp) 1,
  zE4 1173 (.ifCond .eq 5) 3 654 0 0 0,
  zEc 1176 (.iconst 0) 1 0 0 (0),
  zE4 1177 (.ireturn) 1 1 0 0 0,
  zE4 1178 (.goto 1177) 3 1406 0 0 0]
set_option maxRecDepth 1000000 in
theorem zb_done_at : (zm_L_law.1.drop 610).take 45 = zb_done := rfl
theorem w_done {X : Nat → Int32} {n c d : Nat} {h : zH} {Q : zO → zH → Prop} (iv : zIv X c h) (hc : 6 * c + 6 ≤ n) (hn : n ≤ 384) (kk : ∀ h2 a b, zIv X (c + 1) h2 → zwp (d + 103) zm_L_law 1406 (zLw n c a b) [] h2 Q) : zwp (d + 103) zm_L_law 610 (zLw n c none none) [] h Q := by
  obtain ⟨ρ, pp, tp, P, L, w, hR, hρ, hpt, h3, h4, hJ, hX⟩ := iv
  have hpp : ρ 0 3 = some (pp, 3, 0) ∧ zPlS ρ pp := ⟨h3, zSh_pl hρ (by omega)⟩
  obtain ⟨k, h1, v, h2, L2, eF, eG, t4, tL, w2, gd⟩ := c_done w (X (6 * c + 1)) (X (6 * c + 2))
  refine zwp.gb (B := zb_done) (lo := 610) zb_done_at (m := 1) (j := 611) (ls' := zLw n c (none) (none)) (st' := [zr ((0, 10, 0) : zF)]) (h' := h) rfl ?_
  refine zc_sx (B := zb_done) (lo := 610) (k := 1) zb_done_at rfl (fun _ => rfl) hX hc hn (by omega) ?_
  refine zc_sx (B := zb_done) (lo := 610) (k := 2) zb_done_at rfl (fun _ => rfl) hX hc hn (by omega) ?_
  refine zwp.gb (B := zb_done) (lo := 610) zb_done_at (m := 1) (j := 622) (ls' := zLw n c (none) (none)) (st' := [zr ((90, 23, 1) : zF), zi (X (6 * c + 2)), zi (X (6 * c + 1)), zr ((0, 10, 0) : zF)]) (h' := h) rfl ?_
  refine zl_ci (s_L_done_ok 0 ρ hρ pp (X (6 * c + 1)) (X (6 * c + 2)) 90 1 hpp h (k, h1) hR eF) (by omega) (zsb_e (B := zb_done) (lo := 610) zb_done_at rfl rfl) rfl (fun hR1 hX1 => ?_)
  refine zwp.gb (B := zb_done) (lo := 610) zb_done_at (m := 2) (j := 625) (ls' := zLw n c (some (zi k)) (none)) (st' := [zr ((52, 11, 0) : zF)]) (h' := h1) rfl ?_
  refine zc_sx (B := zb_done) (lo := 610) (k := 1) zb_done_at rfl (fun _ => rfl) (hX1.trans hX) hc hn (by omega) ?_
  refine zc_sx (B := zb_done) (lo := 610) (k := 2) zb_done_at rfl (fun _ => rfl) (hX1.trans hX) hc hn (by omega) ?_
  refine zl_ci (s_X11_done_ok 0 _ hρ (X (6 * c + 1)) (X (6 * c + 2)) h1 (v, h2) hR1 eG) (by omega) (zsb_e (B := zb_done) (lo := 610) zb_done_at rfl rfl) rfl (fun hR2 hX2 => ?_)
  have iv2 : zIv X (c + 1) h2 := ⟨ρ, pp, tp, P, L2, w2, hR2, hρ, hpt, h3, h4, hJ.nx gd, hX2.trans (hX1.trans hX)⟩
  refine zwp.gb (B := zb_done) (lo := 610) zb_done_at (m := 2) (j := 638) (ls' := zLw n c (some (zi k)) (some (zi v))) (st' := [zr ((52, 11, 0) : zF)]) (h' := h2) rfl ?_
  refine zl_cp (s_X11_thrown_ok 0 _ hρ h2 (zI h2 52 4) hR2 rfl) (by omega) (zsb_e (B := zb_done) (lo := 610) zb_done_at rfl rfl) rfl ?_
  rw [t4]
  refine zwp.gb (B := zb_done) (lo := 610) zb_done_at (m := 1) (j := 640) (ls' := zLw n c (some (zi k)) (some (zi v))) (st' := [zi k, zi k]) (h' := h2) rfl ?_
  refine zwp.br (c := decide (k = k)) (j := 643) (ls' := zLw n c (some (zi k)) (some (zi v))) (st' := []) (h' := h2) (j2 := 641) (l2 := zLw n c (some (zi k)) (some (zi v))) (s2 := []) (h2 := h2) (zsb_e (B := zb_done) (lo := 610) zb_done_at rfl rfl) (fun _ => ?_) (fun e9 => absurd rfl (of_decide_eq_false e9))
  refine zwp.gb (B := zb_done) (lo := 610) zb_done_at (m := 1) (j := 644) (ls' := zLw n c (some (zi k)) (some (zi v))) (st' := [zi k]) (h' := h2) rfl ?_
  refine zwp.br (c := decide (¬ k = 0)) (j := 654) (ls' := zLw n c (some (zi k)) (some (zi v))) (st' := []) (h' := h2) (j2 := 645) (l2 := zLw n c (some (zi k)) (some (zi v))) (s2 := []) (h2 := h2) (zsb_e (B := zb_done) (lo := 610) zb_done_at rfl rfl) (fun _ => ?_) (fun e9 => ?_)
  · refine zwp.gb (B := zb_done) (lo := 610) zb_done_at (m := 1) (j := 1406) (ls' := zLw n c (some (zi k)) (some (zi v))) (st' := []) (h' := h2) rfl ?_
    exact kk _ _ _ iv2
  · have e8 : k = 0 := Classical.not_not.mp (of_decide_eq_false e9)
    refine zwp.gb (B := zb_done) (lo := 610) zb_done_at (m := 6) (j := 651) (ls' := zLw n c (some (zi k)) (some (zi v))) (st' := [zi (lg_cmp (zL h2 90 0) v.toInt64)]) (h' := h2) rfl ?_
    rw [tL e8, lg_cmp_rf]
    refine zwp.gb (B := zb_done) (lo := 610) zb_done_at (m := 2) (j := 1406) (ls' := zLw n c (some (zi k)) (some (zi v))) (st' := []) (h' := h2) rfl ?_
    exact kk _ _ _ iv2
noncomputable def zb_widest : List zA := [zE4 1181 (.aload_n 1) 1 1 0 0 0,
  zE4 1182 (.invokevirtual 179) 3 203 1 0 10,
  zE4 1185 (.aload_n 2) 1 2 0 0 0,
  zE4 1186 (.invokevirtual 182) 3 205 1 0 11,
  zE4 1189 (.if_icmp .eq 1166) 3 1406 0 0 0,
  zEc 1192 (.iconst 0) 1 0 0 (0),
  zE4 1193 (.ireturn) 1 1 0 0 0]
set_option maxRecDepth 1000000 in
theorem zb_widest_at : (zm_L_law.1.drop 655).take 7 = zb_widest := rfl
theorem w_widest {X : Nat → Int32} {n c d : Nat} {h : zH} {Q : zO → zH → Prop} (iv : zIv X c h) (hc : 6 * c + 6 ≤ n) (hn : n ≤ 384) (kk : ∀ h2 a b, zIv X (c + 1) h2 → zwp (d + 103) zm_L_law 1406 (zLw n c a b) [] h2 Q) : zwp (d + 103) zm_L_law 655 (zLw n c none none) [] h Q := by
  obtain ⟨ρ, pp, tp, P, L, w, hR, hρ, hpt, h3, h4, hJ, hX⟩ := iv
  have hpp : ρ 0 3 = some (pp, 3, 0) ∧ zPlS ρ pp := ⟨h3, zSh_pl hρ (by omega)⟩
  obtain ⟨v, h1, h2, L2, eF, eG, w2, gd⟩ := c_widest w 
  refine zwp.gb (B := zb_widest) (lo := 655) zb_widest_at (m := 1) (j := 656) (ls' := zLw n c (none) (none)) (st' := [zr ((0, 10, 0) : zF)]) (h' := h) rfl ?_
  refine zl_ci (s_X10_widest_ok 0 ρ hρ pp  hpp h (v, h1) hR eF) (by omega) (zsb_e (B := zb_widest) (lo := 655) zb_widest_at rfl rfl) rfl (fun hR1 hX1 => ?_)
  refine zwp.gb (B := zb_widest) (lo := 655) zb_widest_at (m := 1) (j := 658) (ls' := zLw n c (none) (none)) (st' := [zr ((52, 11, 0) : zF), zi v]) (h' := h1) rfl ?_
  refine zl_ci (s_X11_widest_ok 0 ρ hρ  h1 (v, h2) hR1 eG) (by omega) (zsb_e (B := zb_widest) (lo := 655) zb_widest_at rfl rfl) rfl (fun hR2 hX2 => ?_)
  have iv2 : zIv X (c + 1) h2 := ⟨ρ, pp, tp, P, L2, w2, hR2, hρ, hpt, h3, h4, hJ.nx gd, hX2.trans (hX1.trans hX)⟩
  refine zwp.br (c := decide (v = v)) (j := 1406) (ls' := zLw n c (none) (none)) (st' := []) (h' := h2) (j2 := 660) (l2 := zLw n c (none) (none)) (s2 := []) (h2 := h2) (zsb_e (B := zb_widest) (lo := 655) zb_widest_at rfl rfl) (fun _ => kk _ _ _ iv2) (fun e9 => absurd rfl (of_decide_eq_false e9))
noncomputable def zb_fall : List zA := [zE4 1194 (.aload_n 1) 1 1 0 0 0,
  zE 1195 (.aload_n 0) 1,
  zE4 1196 (.iload 4) 2 4 0 0 0,
  zEc 1198 (.iconst 1) 1 0 0 (1),
  zE 1199 (.iadd) 1,
  zE 1200 (.iaload) 1,
  zE4 1201 (.aload_n 3) 1 3 0 0 0,
  zE4 1202 (.invokestatic 183) 3 209 3 0 0,
  zE4 1205 (.istore 5) 2 5 0 0 0,
  zE4 1207 (.aload_n 2) 1 2 0 0 0,
  zE 1208 (.aload_n 0) 1,
  zE4 1209 (.iload 4) 2 4 0 0 0,
  zEc 1211 (.iconst 1) 1 0 0 (1),
  zE 1212 (.iadd) 1,
  zE 1213 (.iaload) 1,
  zE4 1214 (.invokevirtual 185) 3 210 2 0 11,
  zE4 1217 (.istore 6) 2 6 0 0 0,
  zE4 1219 (.aload_n 2) 1 2 0 0 0,
  zE4 1220 (.invokevirtual 122) 3 84 1 0 11,
  zE4 1223 (.iload 5) 2 5 0 0 0,
  zE4 1225 (.if_icmp .eq 5) 3 685 0 0 0,
  zEc 1228 (.iconst 0) 1 0 0 (0),
  zE4 1229 (.ireturn) 1 1 0 0 0,
  zE4 1230 (.iload 5) 2 5 0 0 0,
  zE4 1232 (.ifCond .ne 15) 3 696 0 0 0,
  zE4 1235 (.aload_n 3) 1 3 0 0 0,
  zEc 1236 (.iconst 0) 1 0 0 (0),
  zE 1237 (.laload) 1,
  zE4 1238 (.iload 6) 2 6 0 0 0,
  zE 1240 (.i2l) 1,
  zE 1241 (.lcmp) 1,
  zE4 1242 (.ifCond .eq 5) 3 696 0 0 0,
  zEc 1245 (.iconst 0) 1 0 0 (0),
  zE4 1246 (.ireturn) 1 1 0 0 0,
  zE4 1247 (.goto 1108) 3 1406 0 0 0]
set_option maxRecDepth 1000000 in
theorem zb_fall_at : (zm_L_law.1.drop 662).take 35 = zb_fall := rfl
theorem w_fall {X : Nat → Int32} {n c d : Nat} {h : zH} {Q : zO → zH → Prop} (iv : zIv X c h) (hc : 6 * c + 6 ≤ n) (hn : n ≤ 384) (kk : ∀ h2 a b, zIv X (c + 1) h2 → zwp (d + 103) zm_L_law 1406 (zLw n c a b) [] h2 Q) : zwp (d + 103) zm_L_law 662 (zLw n c none none) [] h Q := by
  obtain ⟨ρ, pp, tp, P, L, w, hR, hρ, hpt, h3, h4, hJ, hX⟩ := iv
  have hpp : ρ 0 3 = some (pp, 3, 0) ∧ zPlS ρ pp := ⟨h3, zSh_pl hρ (by omega)⟩
  obtain ⟨k, h1, v, h2, L2, eF, eG, t4, tL, w2, gd⟩ := c_fall w (X (6 * c + 1))
  refine zwp.gb (B := zb_fall) (lo := 662) zb_fall_at (m := 1) (j := 663) (ls' := zLw n c (none) (none)) (st' := [zr ((0, 10, 0) : zF)]) (h' := h) rfl ?_
  refine zc_sx (B := zb_fall) (lo := 662) (k := 1) zb_fall_at rfl (fun _ => rfl) hX hc hn (by omega) ?_
  refine zwp.gb (B := zb_fall) (lo := 662) zb_fall_at (m := 1) (j := 669) (ls' := zLw n c (none) (none)) (st' := [zr ((90, 23, 1) : zF), zi (X (6 * c + 1)), zr ((0, 10, 0) : zF)]) (h' := h) rfl ?_
  refine zl_ci (s_L_fall_ok 0 ρ hρ pp (X (6 * c + 1)) 90 1 hpp h (k, h1) hR eF) (by omega) (zsb_e (B := zb_fall) (lo := 662) zb_fall_at rfl rfl) rfl (fun hR1 hX1 => ?_)
  refine zwp.gb (B := zb_fall) (lo := 662) zb_fall_at (m := 2) (j := 672) (ls' := zLw n c (some (zi k)) (none)) (st' := [zr ((52, 11, 0) : zF)]) (h' := h1) rfl ?_
  refine zc_sx (B := zb_fall) (lo := 662) (k := 1) zb_fall_at rfl (fun _ => rfl) (hX1.trans hX) hc hn (by omega) ?_
  refine zl_ci (s_X11_fall_ok 0 _ hρ (X (6 * c + 1)) h1 (v, h2) hR1 eG) (by omega) (zsb_e (B := zb_fall) (lo := 662) zb_fall_at rfl rfl) rfl (fun hR2 hX2 => ?_)
  have iv2 : zIv X (c + 1) h2 := ⟨ρ, pp, tp, P, L2, w2, hR2, hρ, hpt, h3, h4, hJ.nx gd, hX2.trans (hX1.trans hX)⟩
  refine zwp.gb (B := zb_fall) (lo := 662) zb_fall_at (m := 2) (j := 680) (ls' := zLw n c (some (zi k)) (some (zi v))) (st' := [zr ((52, 11, 0) : zF)]) (h' := h2) rfl ?_
  refine zl_cp (s_X11_thrown_ok 0 _ hρ h2 (zI h2 52 4) hR2 rfl) (by omega) (zsb_e (B := zb_fall) (lo := 662) zb_fall_at rfl rfl) rfl ?_
  rw [t4]
  refine zwp.gb (B := zb_fall) (lo := 662) zb_fall_at (m := 1) (j := 682) (ls' := zLw n c (some (zi k)) (some (zi v))) (st' := [zi k, zi k]) (h' := h2) rfl ?_
  refine zwp.br (c := decide (k = k)) (j := 685) (ls' := zLw n c (some (zi k)) (some (zi v))) (st' := []) (h' := h2) (j2 := 683) (l2 := zLw n c (some (zi k)) (some (zi v))) (s2 := []) (h2 := h2) (zsb_e (B := zb_fall) (lo := 662) zb_fall_at rfl rfl) (fun _ => ?_) (fun e9 => absurd rfl (of_decide_eq_false e9))
  refine zwp.gb (B := zb_fall) (lo := 662) zb_fall_at (m := 1) (j := 686) (ls' := zLw n c (some (zi k)) (some (zi v))) (st' := [zi k]) (h' := h2) rfl ?_
  refine zwp.br (c := decide (¬ k = 0)) (j := 696) (ls' := zLw n c (some (zi k)) (some (zi v))) (st' := []) (h' := h2) (j2 := 687) (l2 := zLw n c (some (zi k)) (some (zi v))) (s2 := []) (h2 := h2) (zsb_e (B := zb_fall) (lo := 662) zb_fall_at rfl rfl) (fun _ => ?_) (fun e9 => ?_)
  · refine zwp.gb (B := zb_fall) (lo := 662) zb_fall_at (m := 1) (j := 1406) (ls' := zLw n c (some (zi k)) (some (zi v))) (st' := []) (h' := h2) rfl ?_
    exact kk _ _ _ iv2
  · have e8 : k = 0 := Classical.not_not.mp (of_decide_eq_false e9)
    refine zwp.gb (B := zb_fall) (lo := 662) zb_fall_at (m := 6) (j := 693) (ls' := zLw n c (some (zi k)) (some (zi v))) (st' := [zi (lg_cmp (zL h2 90 0) v.toInt64)]) (h' := h2) rfl ?_
    rw [tL e8, lg_cmp_rf]
    refine zwp.gb (B := zb_fall) (lo := 662) zb_fall_at (m := 2) (j := 1406) (ls' := zLw n c (some (zi k)) (some (zi v))) (st' := []) (h' := h2) rfl ?_
    exact kk _ _ _ iv2
noncomputable def zb_toTell : List zA := [zE4 1250 (.aload_n 1) 1 1 0 0 0,
  zE4 1251 (.invokevirtual 186) 3 212 1 0 10,
  zE4 1254 (.aload_n 2) 1 2 0 0 0,
  zE4 1255 (.invokevirtual 189) 3 213 1 0 11,
  zE4 1258 (.if_icmp .eq 1097) 3 1406 0 0 0,
  zEc 1261 (.iconst 0) 1 0 0 (0),
  zE4 1262 (.ireturn) 1 1 0 0 0]
set_option maxRecDepth 1000000 in
theorem zb_toTell_at : (zm_L_law.1.drop 697).take 7 = zb_toTell := rfl
theorem w_toTell {X : Nat → Int32} {n c d : Nat} {h : zH} {Q : zO → zH → Prop} (iv : zIv X c h) (hc : 6 * c + 6 ≤ n) (hn : n ≤ 384) (kk : ∀ h2 a b, zIv X (c + 1) h2 → zwp (d + 103) zm_L_law 1406 (zLw n c a b) [] h2 Q) : zwp (d + 103) zm_L_law 697 (zLw n c none none) [] h Q := by
  obtain ⟨ρ, pp, tp, P, L, w, hR, hρ, hpt, h3, h4, hJ, hX⟩ := iv
  have hpp : ρ 0 3 = some (pp, 3, 0) ∧ zPlS ρ pp := ⟨h3, zSh_pl hρ (by omega)⟩
  obtain ⟨v, h1, h2, L2, eF, eG, w2, gd⟩ := c_toTell w 
  refine zwp.gb (B := zb_toTell) (lo := 697) zb_toTell_at (m := 1) (j := 698) (ls' := zLw n c (none) (none)) (st' := [zr ((0, 10, 0) : zF)]) (h' := h) rfl ?_
  obtain ⟨u, e1, e2⟩ := zbind eF
  cases e2
  refine zl_cp (s_X10_toTell_ok 0 ρ hρ pp hpp h v hR e1) (by omega) (zsb_e (B := zb_toTell) (lo := 697) zb_toTell_at rfl rfl) rfl ?_
  refine zwp.gb (B := zb_toTell) (lo := 697) zb_toTell_at (m := 1) (j := 700) (ls' := zLw n c (none) (none)) (st' := [zr ((52, 11, 0) : zF), zi v]) (h' := h) rfl ?_
  refine zl_ci (s_X11_toTell_ok 0 ρ hρ  h (v, h2) hR eG) (by omega) (zsb_e (B := zb_toTell) (lo := 697) zb_toTell_at rfl rfl) rfl (fun hR2 hX2 => ?_)
  have iv2 : zIv X (c + 1) h2 := ⟨ρ, pp, tp, P, L2, w2, hR2, hρ, hpt, h3, h4, hJ.nx gd, hX2.trans hX⟩
  refine zwp.br (c := decide (v = v)) (j := 1406) (ls' := zLw n c (none) (none)) (st' := []) (h' := h2) (j2 := 702) (l2 := zLw n c (none) (none)) (s2 := []) (h2 := h2) (zsb_e (B := zb_toTell) (lo := 697) zb_toTell_at rfl rfl) (fun _ => kk _ _ _ iv2) (fun e9 => absurd rfl (of_decide_eq_false e9))
noncomputable def zb_missed : List zA := [zE4 1263 (.aload_n 1) 1 1 0 0 0,
  zE4 1264 (.invokevirtual 190) 3 215 1 0 10,
  zE4 1267 (.aload_n 2) 1 2 0 0 0,
  zE4 1268 (.invokevirtual 193) 3 216 1 0 11,
  zE4 1271 (.if_icmp .eq 1084) 3 1406 0 0 0,
  zEc 1274 (.iconst 0) 1 0 0 (0),
  zE4 1275 (.ireturn) 1 1 0 0 0]
set_option maxRecDepth 1000000 in
theorem zb_missed_at : (zm_L_law.1.drop 704).take 7 = zb_missed := rfl
theorem w_missed {X : Nat → Int32} {n c d : Nat} {h : zH} {Q : zO → zH → Prop} (iv : zIv X c h) (hc : 6 * c + 6 ≤ n) (hn : n ≤ 384) (kk : ∀ h2 a b, zIv X (c + 1) h2 → zwp (d + 103) zm_L_law 1406 (zLw n c a b) [] h2 Q) : zwp (d + 103) zm_L_law 704 (zLw n c none none) [] h Q := by
  obtain ⟨ρ, pp, tp, P, L, w, hR, hρ, hpt, h3, h4, hJ, hX⟩ := iv
  have hpp : ρ 0 3 = some (pp, 3, 0) ∧ zPlS ρ pp := ⟨h3, zSh_pl hρ (by omega)⟩
  obtain ⟨v, h1, h2, L2, eF, eG, w2, gd⟩ := c_missed w 
  refine zwp.gb (B := zb_missed) (lo := 704) zb_missed_at (m := 1) (j := 705) (ls' := zLw n c (none) (none)) (st' := [zr ((0, 10, 0) : zF)]) (h' := h) rfl ?_
  obtain ⟨u, e1, e2⟩ := zbind eF
  cases e2
  refine zl_cp (s_X10_missed_ok 0 ρ hρ pp hpp h v hR e1) (by omega) (zsb_e (B := zb_missed) (lo := 704) zb_missed_at rfl rfl) rfl ?_
  refine zwp.gb (B := zb_missed) (lo := 704) zb_missed_at (m := 1) (j := 707) (ls' := zLw n c (none) (none)) (st' := [zr ((52, 11, 0) : zF), zi v]) (h' := h) rfl ?_
  refine zl_ci (s_X11_missed_ok 0 ρ hρ  h (v, h2) hR eG) (by omega) (zsb_e (B := zb_missed) (lo := 704) zb_missed_at rfl rfl) rfl (fun hR2 hX2 => ?_)
  have iv2 : zIv X (c + 1) h2 := ⟨ρ, pp, tp, P, L2, w2, hR2, hρ, hpt, h3, h4, hJ.nx gd, hX2.trans hX⟩
  refine zwp.br (c := decide (v = v)) (j := 1406) (ls' := zLw n c (none) (none)) (st' := []) (h' := h2) (j2 := 709) (l2 := zLw n c (none) (none)) (s2 := []) (h2 := h2) (zsb_e (B := zb_missed) (lo := 704) zb_missed_at rfl rfl) (fun _ => kk _ _ _ iv2) (fun e9 => absurd rfl (of_decide_eq_false e9))
noncomputable def zb_between : List zA := [zE4 1276 (.aload_n 1) 1 1 0 0 0,
  zE 1277 (.aload_n 0) 1,
  zE4 1278 (.iload 4) 2 4 0 0 0,
  zEc 1280 (.iconst 1) 1 0 0 (1),
  zE 1281 (.iadd) 1,
  zE 1282 (.iaload) 1,
  zE 1283 (.aload_n 0) 1,
  zE4 1284 (.iload 4) 2 4 0 0 0,
  zEc 1286 (.iconst 2) 1 0 0 (2),
  zE 1287 (.iadd) 1,
  zE 1288 (.iaload) 1,
  zE4 1289 (.aload_n 3) 1 3 0 0 0,
  zE4 1290 (.invokestatic 194) 3 218 4 0 0,
  zE4 1293 (.istore 5) 2 5 0 0 0,
  zE4 1295 (.aload_n 2) 1 2 0 0 0,
  zE 1296 (.aload_n 0) 1,
  zE4 1297 (.iload 4) 2 4 0 0 0,
  zEc 1299 (.iconst 1) 1 0 0 (1),
  zE 1300 (.iadd) 1,
  zE 1301 (.iaload) 1,
  zE 1302 (.aload_n 0) 1,
  zE4 1303 (.iload 4) 2 4 0 0 0,
  zEc 1305 (.iconst 2) 1 0 0 (2),
  zE 1306 (.iadd) 1,
  zE 1307 (.iaload) 1,
  zE4 1308 (.invokevirtual 196) 3 220 3 0 11,
  zE4 1311 (.istore 6) 2 6 0 0 0,
  zE4 1313 (.aload_n 2) 1 2 0 0 0,
  zE4 1314 (.invokevirtual 122) 3 84 1 0 11,
  zE4 1317 (.iload 5) 2 5 0 0 0,
  zE4 1319 (.if_icmp .eq 5) 3 744 0 0 0,
  zEc 1322 (.iconst 0) 1 0 0 (0),
  zE4 1323 (.ireturn) 1 1 0 0 0,
  zE4 1324 (.iload 5) 2 5 0 0 0,
  zE4 1326 (.ifCond .ne 15) 3 755 0 0 0,
  zE4 1329 (.aload_n 3) 1 3 0 0 0,
  zEc 1330 (.iconst 0) 1 0 0 (0),
  zE 1331 (.laload) 1,
  zE4 1332 (.iload 6) 2 6 0 0 0,
  zE 1334 (.i2l) 1,
  zE 1335 (.lcmp) 1,
  zE4 1336 (.ifCond .eq 5) 3 755 0 0 0,
  zEc 1339 (.iconst 0) 1 0 0 (0),
  zE4 1340 (.ireturn) 1 1 0 0 0,
  zE4 1341 (.goto 1014) 3 1406 0 0 0]
set_option maxRecDepth 1000000 in
theorem zb_between_at : (zm_L_law.1.drop 711).take 45 = zb_between := rfl
theorem w_between {X : Nat → Int32} {n c d : Nat} {h : zH} {Q : zO → zH → Prop} (iv : zIv X c h) (hc : 6 * c + 6 ≤ n) (hn : n ≤ 384) (kk : ∀ h2 a b, zIv X (c + 1) h2 → zwp (d + 103) zm_L_law 1406 (zLw n c a b) [] h2 Q) : zwp (d + 103) zm_L_law 711 (zLw n c none none) [] h Q := by
  obtain ⟨ρ, pp, tp, P, L, w, hR, hρ, hpt, h3, h4, hJ, hX⟩ := iv
  have hpp : ρ 0 3 = some (pp, 3, 0) ∧ zPlS ρ pp := ⟨h3, zSh_pl hρ (by omega)⟩
  obtain ⟨k, h1, v, h2, L2, eF, eG, t4, tL, w2, gd⟩ := c_between w (X (6 * c + 1)) (X (6 * c + 2))
  refine zwp.gb (B := zb_between) (lo := 711) zb_between_at (m := 1) (j := 712) (ls' := zLw n c (none) (none)) (st' := [zr ((0, 10, 0) : zF)]) (h' := h) rfl ?_
  refine zc_sx (B := zb_between) (lo := 711) (k := 1) zb_between_at rfl (fun _ => rfl) hX hc hn (by omega) ?_
  refine zc_sx (B := zb_between) (lo := 711) (k := 2) zb_between_at rfl (fun _ => rfl) hX hc hn (by omega) ?_
  refine zwp.gb (B := zb_between) (lo := 711) zb_between_at (m := 1) (j := 723) (ls' := zLw n c (none) (none)) (st' := [zr ((90, 23, 1) : zF), zi (X (6 * c + 2)), zi (X (6 * c + 1)), zr ((0, 10, 0) : zF)]) (h' := h) rfl ?_
  refine zl_ci (s_L_between_ok 0 ρ hρ pp (X (6 * c + 1)) (X (6 * c + 2)) 90 1 hpp h (k, h1) hR eF) (by omega) (zsb_e (B := zb_between) (lo := 711) zb_between_at rfl rfl) rfl (fun hR1 hX1 => ?_)
  refine zwp.gb (B := zb_between) (lo := 711) zb_between_at (m := 2) (j := 726) (ls' := zLw n c (some (zi k)) (none)) (st' := [zr ((52, 11, 0) : zF)]) (h' := h1) rfl ?_
  refine zc_sx (B := zb_between) (lo := 711) (k := 1) zb_between_at rfl (fun _ => rfl) (hX1.trans hX) hc hn (by omega) ?_
  refine zc_sx (B := zb_between) (lo := 711) (k := 2) zb_between_at rfl (fun _ => rfl) (hX1.trans hX) hc hn (by omega) ?_
  refine zl_ci (s_X11_between_ok 0 _ hρ (X (6 * c + 1)) (X (6 * c + 2)) h1 (v, h2) hR1 eG) (by omega) (zsb_e (B := zb_between) (lo := 711) zb_between_at rfl rfl) rfl (fun hR2 hX2 => ?_)
  have iv2 : zIv X (c + 1) h2 := ⟨ρ, pp, tp, P, L2, w2, hR2, hρ, hpt, h3, h4, hJ.nx gd, hX2.trans (hX1.trans hX)⟩
  refine zwp.gb (B := zb_between) (lo := 711) zb_between_at (m := 2) (j := 739) (ls' := zLw n c (some (zi k)) (some (zi v))) (st' := [zr ((52, 11, 0) : zF)]) (h' := h2) rfl ?_
  refine zl_cp (s_X11_thrown_ok 0 _ hρ h2 (zI h2 52 4) hR2 rfl) (by omega) (zsb_e (B := zb_between) (lo := 711) zb_between_at rfl rfl) rfl ?_
  rw [t4]
  refine zwp.gb (B := zb_between) (lo := 711) zb_between_at (m := 1) (j := 741) (ls' := zLw n c (some (zi k)) (some (zi v))) (st' := [zi k, zi k]) (h' := h2) rfl ?_
  refine zwp.br (c := decide (k = k)) (j := 744) (ls' := zLw n c (some (zi k)) (some (zi v))) (st' := []) (h' := h2) (j2 := 742) (l2 := zLw n c (some (zi k)) (some (zi v))) (s2 := []) (h2 := h2) (zsb_e (B := zb_between) (lo := 711) zb_between_at rfl rfl) (fun _ => ?_) (fun e9 => absurd rfl (of_decide_eq_false e9))
  refine zwp.gb (B := zb_between) (lo := 711) zb_between_at (m := 1) (j := 745) (ls' := zLw n c (some (zi k)) (some (zi v))) (st' := [zi k]) (h' := h2) rfl ?_
  refine zwp.br (c := decide (¬ k = 0)) (j := 755) (ls' := zLw n c (some (zi k)) (some (zi v))) (st' := []) (h' := h2) (j2 := 746) (l2 := zLw n c (some (zi k)) (some (zi v))) (s2 := []) (h2 := h2) (zsb_e (B := zb_between) (lo := 711) zb_between_at rfl rfl) (fun _ => ?_) (fun e9 => ?_)
  · refine zwp.gb (B := zb_between) (lo := 711) zb_between_at (m := 1) (j := 1406) (ls' := zLw n c (some (zi k)) (some (zi v))) (st' := []) (h' := h2) rfl ?_
    exact kk _ _ _ iv2
  · have e8 : k = 0 := Classical.not_not.mp (of_decide_eq_false e9)
    refine zwp.gb (B := zb_between) (lo := 711) zb_between_at (m := 6) (j := 752) (ls' := zLw n c (some (zi k)) (some (zi v))) (st' := [zi (lg_cmp (zL h2 90 0) v.toInt64)]) (h' := h2) rfl ?_
    rw [tL e8, lg_cmp_rf]
    refine zwp.gb (B := zb_between) (lo := 711) zb_between_at (m := 2) (j := 1406) (ls' := zLw n c (some (zi k)) (some (zi v))) (st' := []) (h' := h2) rfl ?_
    exact kk _ _ _ iv2
noncomputable def zb_order : List zA := [zE4 1344 (.aload_n 1) 1 1 0 0 0,
  zE 1345 (.aload_n 0) 1,
  zE4 1346 (.iload 4) 2 4 0 0 0,
  zEc 1348 (.iconst 1) 1 0 0 (1),
  zE 1349 (.iadd) 1,
  zE 1350 (.iaload) 1,
  zE4 1351 (.aload_n 3) 1 3 0 0 0,
  zE4 1352 (.invokestatic 197) 3 224 3 0 0,
  zE4 1355 (.istore 5) 2 5 0 0 0,
  zE4 1357 (.aload_n 2) 1 2 0 0 0,
  zE 1358 (.aload_n 0) 1,
  zE4 1359 (.iload 4) 2 4 0 0 0,
  zEc 1361 (.iconst 1) 1 0 0 (1),
  zE 1362 (.iadd) 1,
  zE 1363 (.iaload) 1,
  zE4 1364 (.invokevirtual 199) 3 226 2 0 11,
  zE4 1367 (.istore 6) 2 6 0 0 0,
  zE4 1369 (.aload_n 2) 1 2 0 0 0,
  zE4 1370 (.invokevirtual 122) 3 84 1 0 11,
  zE4 1373 (.iload 5) 2 5 0 0 0,
  zE4 1375 (.if_icmp .eq 5) 3 779 0 0 0,
  zEc 1378 (.iconst 0) 1 0 0 (0),
  zE4 1379 (.ireturn) 1 1 0 0 0,
  zE4 1380 (.iload 5) 2 5 0 0 0,
  zE4 1382 (.ifCond .ne 15) 3 790 0 0 0,
  zE4 1385 (.aload_n 3) 1 3 0 0 0,
  zEc 1386 (.iconst 0) 1 0 0 (0),
  zE 1387 (.laload) 1,
  zE4 1388 (.iload 6) 2 6 0 0 0,
  zE 1390 (.i2l) 1,
  zE 1391 (.lcmp) 1,
  zE4 1392 (.ifCond .eq 5) 3 790 0 0 0,
  zEc 1395 (.iconst 0) 1 0 0 (0),
  zE4 1396 (.ireturn) 1 1 0 0 0,
  zE4 1397 (.goto 958) 3 1406 0 0 0]
set_option maxRecDepth 1000000 in
theorem zb_order_at : (zm_L_law.1.drop 756).take 35 = zb_order := rfl
theorem w_order {X : Nat → Int32} {n c d : Nat} {h : zH} {Q : zO → zH → Prop} (iv : zIv X c h) (hc : 6 * c + 6 ≤ n) (hn : n ≤ 384) (kk : ∀ h2 a b, zIv X (c + 1) h2 → zwp (d + 103) zm_L_law 1406 (zLw n c a b) [] h2 Q) : zwp (d + 103) zm_L_law 756 (zLw n c none none) [] h Q := by
  obtain ⟨ρ, pp, tp, P, L, w, hR, hρ, hpt, h3, h4, hJ, hX⟩ := iv
  have hpp : ρ 0 3 = some (pp, 3, 0) ∧ zPlS ρ pp := ⟨h3, zSh_pl hρ (by omega)⟩
  obtain ⟨k, h1, v, h2, L2, eF, eG, t4, tL, w2, gd⟩ := c_order w (X (6 * c + 1))
  refine zwp.gb (B := zb_order) (lo := 756) zb_order_at (m := 1) (j := 757) (ls' := zLw n c (none) (none)) (st' := [zr ((0, 10, 0) : zF)]) (h' := h) rfl ?_
  refine zc_sx (B := zb_order) (lo := 756) (k := 1) zb_order_at rfl (fun _ => rfl) hX hc hn (by omega) ?_
  refine zwp.gb (B := zb_order) (lo := 756) zb_order_at (m := 1) (j := 763) (ls' := zLw n c (none) (none)) (st' := [zr ((90, 23, 1) : zF), zi (X (6 * c + 1)), zr ((0, 10, 0) : zF)]) (h' := h) rfl ?_
  refine zl_ci (s_L_order_ok 0 ρ hρ pp (X (6 * c + 1)) 90 1 hpp h (k, h1) hR eF) (by omega) (zsb_e (B := zb_order) (lo := 756) zb_order_at rfl rfl) rfl (fun hR1 hX1 => ?_)
  refine zwp.gb (B := zb_order) (lo := 756) zb_order_at (m := 2) (j := 766) (ls' := zLw n c (some (zi k)) (none)) (st' := [zr ((52, 11, 0) : zF)]) (h' := h1) rfl ?_
  refine zc_sx (B := zb_order) (lo := 756) (k := 1) zb_order_at rfl (fun _ => rfl) (hX1.trans hX) hc hn (by omega) ?_
  refine zl_ci (s_X11_order_ok 0 _ hρ (X (6 * c + 1)) h1 (v, h2) hR1 eG) (by omega) (zsb_e (B := zb_order) (lo := 756) zb_order_at rfl rfl) rfl (fun hR2 hX2 => ?_)
  have iv2 : zIv X (c + 1) h2 := ⟨ρ, pp, tp, P, L2, w2, hR2, hρ, hpt, h3, h4, hJ.nx gd, hX2.trans (hX1.trans hX)⟩
  refine zwp.gb (B := zb_order) (lo := 756) zb_order_at (m := 2) (j := 774) (ls' := zLw n c (some (zi k)) (some (zi v))) (st' := [zr ((52, 11, 0) : zF)]) (h' := h2) rfl ?_
  refine zl_cp (s_X11_thrown_ok 0 _ hρ h2 (zI h2 52 4) hR2 rfl) (by omega) (zsb_e (B := zb_order) (lo := 756) zb_order_at rfl rfl) rfl ?_
  rw [t4]
  refine zwp.gb (B := zb_order) (lo := 756) zb_order_at (m := 1) (j := 776) (ls' := zLw n c (some (zi k)) (some (zi v))) (st' := [zi k, zi k]) (h' := h2) rfl ?_
  refine zwp.br (c := decide (k = k)) (j := 779) (ls' := zLw n c (some (zi k)) (some (zi v))) (st' := []) (h' := h2) (j2 := 777) (l2 := zLw n c (some (zi k)) (some (zi v))) (s2 := []) (h2 := h2) (zsb_e (B := zb_order) (lo := 756) zb_order_at rfl rfl) (fun _ => ?_) (fun e9 => absurd rfl (of_decide_eq_false e9))
  refine zwp.gb (B := zb_order) (lo := 756) zb_order_at (m := 1) (j := 780) (ls' := zLw n c (some (zi k)) (some (zi v))) (st' := [zi k]) (h' := h2) rfl ?_
  refine zwp.br (c := decide (¬ k = 0)) (j := 790) (ls' := zLw n c (some (zi k)) (some (zi v))) (st' := []) (h' := h2) (j2 := 781) (l2 := zLw n c (some (zi k)) (some (zi v))) (s2 := []) (h2 := h2) (zsb_e (B := zb_order) (lo := 756) zb_order_at rfl rfl) (fun _ => ?_) (fun e9 => ?_)
  · refine zwp.gb (B := zb_order) (lo := 756) zb_order_at (m := 1) (j := 1406) (ls' := zLw n c (some (zi k)) (some (zi v))) (st' := []) (h' := h2) rfl ?_
    exact kk _ _ _ iv2
  · have e8 : k = 0 := Classical.not_not.mp (of_decide_eq_false e9)
    refine zwp.gb (B := zb_order) (lo := 756) zb_order_at (m := 6) (j := 787) (ls' := zLw n c (some (zi k)) (some (zi v))) (st' := [zi (lg_cmp (zL h2 90 0) v.toInt64)]) (h' := h2) rfl ?_
    rw [tL e8, lg_cmp_rf]
    refine zwp.gb (B := zb_order) (lo := 756) zb_order_at (m := 2) (j := 1406) (ls' := zLw n c (some (zi k)) (some (zi v))) (st' := []) (h' := h2) rfl ?_
    exact kk _ _ _ iv2
