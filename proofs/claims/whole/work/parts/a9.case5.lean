/-! ===== the law, case by case, 5 ===== -/
noncomputable def zb_see : List zA := [zE4 1896 (.aload_n 1) 1 1 0 0 0,
  zE 1897 (.aload_n 0) 1,
  zE4 1898 (.iload 4) 2 4 0 0 0,
  zEc 1900 (.iconst 1) 1 0 0 (1),
  zE 1901 (.iadd) 1,
  zE 1902 (.iaload) 1,
  zE 1903 (.aload_n 0) 1,
  zE4 1904 (.iload 4) 2 4 0 0 0,
  zEc 1906 (.iconst 2) 1 0 0 (2),
  zE 1907 (.iadd) 1,
  zE 1908 (.iaload) 1,
  zE 1909 (.aload_n 0) 1,
  zE4 1910 (.iload 4) 2 4 0 0 0,
  zEc 1912 (.iconst 3) 1 0 0 (3),
  zE 1913 (.iadd) 1,
  zE 1914 (.iaload) 1,
  zE4 1915 (.ifCond .eq 7) 3 1130 0 0 0,
  zEc 1918 (.iconst 1) 1 0 0 (1),
  zE4 1919 (.goto 4) 3 1131 0 0 0,
  zEc 1922 (.iconst 0) 1 0 0 (0),
  zE4 1923 (.aload_n 3) 1 3 0 0 0,
  zE4 1924 (.invokestatic 224) 3 262 5 0 0,
  zE4 1927 (.istore 5) 2 5 0 0 0,
  zE4 1929 (.aload_n 2) 1 2 0 0 0,
  zE 1930 (.aload_n 0) 1,
  zE4 1931 (.iload 4) 2 4 0 0 0,
  zEc 1933 (.iconst 1) 1 0 0 (1),
  zE 1934 (.iadd) 1,
  zE 1935 (.iaload) 1,
  zE 1936 (.aload_n 0) 1,
  zE4 1937 (.iload 4) 2 4 0 0 0,
  zEc 1939 (.iconst 2) 1 0 0 (2),
  zE 1940 (.iadd) 1,
  zE 1941 (.iaload) 1,
  zE 1942 (.aload_n 0) 1,
  zE4 1943 (.iload 4) 2 4 0 0 0,
  zEc 1945 (.iconst 3) 1 0 0 (3),
  zE 1946 (.iadd) 1,
  zE 1947 (.iaload) 1,
  zE4 1948 (.ifCond .eq 7) 3 1153 0 0 0,
  zEc 1951 (.iconst 1) 1 0 0 (1),
  zE4 1952 (.goto 4) 3 1154 0 0 0,
  zEc 1955 (.iconst 0) 1 0 0 (0),
  zE4 1956 (.invokevirtual 227) 3 263 4 0 11,
  zE4 1959 (.istore 6) 2 6 0 0 0,
  zE4 1961 (.aload_n 2) 1 2 0 0 0,
  zE4 1962 (.invokevirtual 122) 3 84 1 0 11,
  zE4 1965 (.iload 5) 2 5 0 0 0,
  zE4 1967 (.if_icmp .eq 5) 3 1162 0 0 0,
  zEc 1970 (.iconst 0) 1 0 0 (0),
  zE4 1971 (.ireturn) 1 1 0 0 0,
  zE4 1972 (.iload 5) 2 5 0 0 0,
  zE4 1974 (.ifCond .ne 15) 3 1173 0 0 0,
  zE4 1977 (.aload_n 3) 1 3 0 0 0,
  zEc 1978 (.iconst 0) 1 0 0 (0),
  zE 1979 (.laload) 1,
  zE4 1980 (.iload 6) 2 6 0 0 0,
  zE 1982 (.i2l) 1,
  zE 1983 (.lcmp) 1,
  zE4 1984 (.ifCond .eq 5) 3 1173 0 0 0,
  zEc 1987 (.iconst 0) 1 0 0 (0),
  zE4 1988 (.ireturn) 1 1 0 0 0,
  zE4 1989 (.goto 366) 3 1406 0 0 0]
set_option maxRecDepth 1000000 in
theorem zb_see_at : (zm_L_law.1.drop 1111).take 63 = zb_see := rfl
theorem w_see {X : Nat → Int32} {n c d : Nat} {h : zH} {Q : zO → zH → Prop} (iv : zIv X c h) (hc : 6 * c + 6 ≤ n) (hn : n ≤ 384) (kk : ∀ h2 a b, zIv X (c + 1) h2 → zwp (d + 103) zm_L_law 1406 (zLw n c a b) [] h2 Q) : zwp (d + 103) zm_L_law 1111 (zLw n c none none) [] h Q := by
  obtain ⟨ρ, pp, tp, P, L, w, hR, hρ, hpt, h3, h4, hJ, hX⟩ := iv
  have hpp : ρ 0 3 = some (pp, 3, 0) ∧ zPlS ρ pp := ⟨h3, zSh_pl hρ (by omega)⟩
  obtain ⟨k, h1, v, h2, L2, eF, eG, t4, tL, w2, gd⟩ := c_see w (X (6 * c + 1)) (X (6 * c + 2)) (if X (6 * c + 3) = 0 then 0 else 1)
  refine zwp.gb (B := zb_see) (lo := 1111) zb_see_at (m := 1) (j := 1112) (ls' := zLw n c (none) (none)) (st' := [zr ((0, 10, 0) : zF)]) (h' := h) rfl ?_
  refine zc_sx (B := zb_see) (lo := 1111) (k := 1) zb_see_at rfl (fun _ => rfl) hX hc hn (by omega) ?_
  refine zc_sx (B := zb_see) (lo := 1111) (k := 2) zb_see_at rfl (fun _ => rfl) hX hc hn (by omega) ?_
  refine zc_sx (B := zb_see) (lo := 1111) (k := 3) zb_see_at rfl (fun _ => rfl) hX hc hn (by omega) ?_
  refine zl_b3 (x := X (6 * c + 3)) (st := [zi (X (6 * c + 2)), zi (X (6 * c + 1)), zr ((0, 10, 0) : zF)]) (ls := zLw n c (none) (none)) (h := h) (j := 1131) (zsb_e (B := zb_see) (lo := 1111) zb_see_at rfl rfl) (fun w => zwp.gb (B := zb_see) (lo := 1111) zb_see_at (m := 1) (j := 1131) (ls' := zLw n c (none) (none)) (st' := [zi 0, zi (X (6 * c + 2)), zi (X (6 * c + 1)), zr ((0, 10, 0) : zF)]) (h' := h) rfl w) (fun w => zwp.gb (B := zb_see) (lo := 1111) zb_see_at (m := 2) (j := 1131) (ls' := zLw n c (none) (none)) (st' := [zi 1, zi (X (6 * c + 2)), zi (X (6 * c + 1)), zr ((0, 10, 0) : zF)]) (h' := h) rfl w) ?_
  refine zwp.gb (B := zb_see) (lo := 1111) zb_see_at (m := 1) (j := 1132) (ls' := zLw n c (none) (none)) (st' := [zr ((90, 23, 1) : zF), zi (if X (6 * c + 3) = 0 then 0 else 1), zi (X (6 * c + 2)), zi (X (6 * c + 1)), zr ((0, 10, 0) : zF)]) (h' := h) rfl ?_
  refine zl_ci (s_L_see_ok 0 ρ hρ pp (X (6 * c + 1)) (X (6 * c + 2)) (if X (6 * c + 3) = 0 then 0 else 1) 90 1 hpp h (k, h1) hR eF) (by omega) (zsb_e (B := zb_see) (lo := 1111) zb_see_at rfl rfl) rfl (fun hR1 hX1 => ?_)
  refine zwp.gb (B := zb_see) (lo := 1111) zb_see_at (m := 2) (j := 1135) (ls' := zLw n c (some (zi k)) (none)) (st' := [zr ((52, 11, 0) : zF)]) (h' := h1) rfl ?_
  refine zc_sx (B := zb_see) (lo := 1111) (k := 1) zb_see_at rfl (fun _ => rfl) (hX1.trans hX) hc hn (by omega) ?_
  refine zc_sx (B := zb_see) (lo := 1111) (k := 2) zb_see_at rfl (fun _ => rfl) (hX1.trans hX) hc hn (by omega) ?_
  refine zc_sx (B := zb_see) (lo := 1111) (k := 3) zb_see_at rfl (fun _ => rfl) (hX1.trans hX) hc hn (by omega) ?_
  refine zl_b3 (x := X (6 * c + 3)) (st := [zi (X (6 * c + 2)), zi (X (6 * c + 1)), zr ((52, 11, 0) : zF)]) (ls := zLw n c (some (zi k)) (none)) (h := h1) (j := 1154) (zsb_e (B := zb_see) (lo := 1111) zb_see_at rfl rfl) (fun w => zwp.gb (B := zb_see) (lo := 1111) zb_see_at (m := 1) (j := 1154) (ls' := zLw n c (some (zi k)) (none)) (st' := [zi 0, zi (X (6 * c + 2)), zi (X (6 * c + 1)), zr ((52, 11, 0) : zF)]) (h' := h1) rfl w) (fun w => zwp.gb (B := zb_see) (lo := 1111) zb_see_at (m := 2) (j := 1154) (ls' := zLw n c (some (zi k)) (none)) (st' := [zi 1, zi (X (6 * c + 2)), zi (X (6 * c + 1)), zr ((52, 11, 0) : zF)]) (h' := h1) rfl w) ?_
  refine zl_ci (s_X11_see_ok 0 _ hρ (X (6 * c + 1)) (X (6 * c + 2)) (if X (6 * c + 3) = 0 then 0 else 1) h1 (v, h2) hR1 eG) (by omega) (zsb_e (B := zb_see) (lo := 1111) zb_see_at rfl rfl) rfl (fun hR2 hX2 => ?_)
  have iv2 : zIv X (c + 1) h2 := ⟨ρ, pp, tp, P, L2, w2, hR2, hρ, hpt, h3, h4, hJ.nx gd, hX2.trans (hX1.trans hX)⟩
  refine zwp.gb (B := zb_see) (lo := 1111) zb_see_at (m := 2) (j := 1157) (ls' := zLw n c (some (zi k)) (some (zi v))) (st' := [zr ((52, 11, 0) : zF)]) (h' := h2) rfl ?_
  refine zl_cp (s_X11_thrown_ok 0 _ hρ h2 (zI h2 52 4) hR2 rfl) (by omega) (zsb_e (B := zb_see) (lo := 1111) zb_see_at rfl rfl) rfl ?_
  rw [t4]
  refine zwp.gb (B := zb_see) (lo := 1111) zb_see_at (m := 1) (j := 1159) (ls' := zLw n c (some (zi k)) (some (zi v))) (st' := [zi k, zi k]) (h' := h2) rfl ?_
  refine zwp.br (c := decide (k = k)) (j := 1162) (ls' := zLw n c (some (zi k)) (some (zi v))) (st' := []) (h' := h2) (j2 := 1160) (l2 := zLw n c (some (zi k)) (some (zi v))) (s2 := []) (h2 := h2) (zsb_e (B := zb_see) (lo := 1111) zb_see_at rfl rfl) (fun _ => ?_) (fun e9 => absurd rfl (of_decide_eq_false e9))
  refine zwp.gb (B := zb_see) (lo := 1111) zb_see_at (m := 1) (j := 1163) (ls' := zLw n c (some (zi k)) (some (zi v))) (st' := [zi k]) (h' := h2) rfl ?_
  refine zwp.br (c := decide (¬ k = 0)) (j := 1173) (ls' := zLw n c (some (zi k)) (some (zi v))) (st' := []) (h' := h2) (j2 := 1164) (l2 := zLw n c (some (zi k)) (some (zi v))) (s2 := []) (h2 := h2) (zsb_e (B := zb_see) (lo := 1111) zb_see_at rfl rfl) (fun _ => ?_) (fun e9 => ?_)
  · refine zwp.gb (B := zb_see) (lo := 1111) zb_see_at (m := 1) (j := 1406) (ls' := zLw n c (some (zi k)) (some (zi v))) (st' := []) (h' := h2) rfl ?_
    exact kk _ _ _ iv2
  · have e8 : k = 0 := Classical.not_not.mp (of_decide_eq_false e9)
    refine zwp.gb (B := zb_see) (lo := 1111) zb_see_at (m := 6) (j := 1170) (ls' := zLw n c (some (zi k)) (some (zi v))) (st' := [zi (lg_cmp (zL h2 90 0) v.toInt64)]) (h' := h2) rfl ?_
    rw [tL e8, lg_cmp_rf]
    refine zwp.gb (B := zb_see) (lo := 1111) zb_see_at (m := 2) (j := 1406) (ls' := zLw n c (some (zi k)) (some (zi v))) (st' := []) (h' := h2) rfl ?_
    exact kk _ _ _ iv2
noncomputable def zb_strong : List zA := [zE4 1992 (.aload_n 1) 1 1 0 0 0,
  zE 1993 (.aload_n 0) 1,
  zE4 1994 (.iload 4) 2 4 0 0 0,
  zEc 1996 (.iconst 1) 1 0 0 (1),
  zE 1997 (.iadd) 1,
  zE 1998 (.iaload) 1,
  zE4 1999 (.aload_n 3) 1 3 0 0 0,
  zE4 2000 (.invokestatic 228) 3 269 3 0 0,
  zE4 2003 (.istore 5) 2 5 0 0 0,
  zE4 2005 (.aload_n 2) 1 2 0 0 0,
  zE 2006 (.aload_n 0) 1,
  zE4 2007 (.iload 4) 2 4 0 0 0,
  zEc 2009 (.iconst 1) 1 0 0 (1),
  zE 2010 (.iadd) 1,
  zE 2011 (.iaload) 1,
  zE4 2012 (.invokevirtual 230) 3 272 2 0 11,
  zE4 2015 (.istore 6) 2 6 0 0 0,
  zE4 2017 (.aload_n 2) 1 2 0 0 0,
  zE4 2018 (.invokevirtual 122) 3 84 1 0 11,
  zE4 2021 (.iload 5) 2 5 0 0 0,
  zE4 2023 (.if_icmp .eq 5) 3 1197 0 0 0,
  zEc 2026 (.iconst 0) 1 0 0 (0),
  zE4 2027 (.ireturn) 1 1 0 0 0,
  zE4 2028 (.iload 5) 2 5 0 0 0,
  zE4 2030 (.ifCond .ne 15) 3 1208 0 0 0,
  zE4 2033 (.aload_n 3) 1 3 0 0 0,
  zEc 2034 (.iconst 0) 1 0 0 (0),
  zE 2035 (.laload) 1,
  zE4 2036 (.iload 6) 2 6 0 0 0,
  zE 2038 (.i2l) 1,
  zE 2039 (.lcmp) 1,
  zE4 2040 (.ifCond .eq 5) 3 1208 0 0 0,
  zEc 2043 (.iconst 0) 1 0 0 (0),
  zE4 2044 (.ireturn) 1 1 0 0 0,
  zE4 2045 (.goto 310) 3 1406 0 0 0]
set_option maxRecDepth 1000000 in
theorem zb_strong_at : (zm_L_law.1.drop 1174).take 35 = zb_strong := rfl
theorem w_strong {X : Nat → Int32} {n c d : Nat} {h : zH} {Q : zO → zH → Prop} (iv : zIv X c h) (hc : 6 * c + 6 ≤ n) (hn : n ≤ 384) (kk : ∀ h2 a b, zIv X (c + 1) h2 → zwp (d + 103) zm_L_law 1406 (zLw n c a b) [] h2 Q) : zwp (d + 103) zm_L_law 1174 (zLw n c none none) [] h Q := by
  obtain ⟨ρ, pp, tp, P, L, w, hR, hρ, hpt, h3, h4, hJ, hX⟩ := iv
  have hpp : ρ 0 3 = some (pp, 3, 0) ∧ zPlS ρ pp := ⟨h3, zSh_pl hρ (by omega)⟩
  obtain ⟨k, h1, v, h2, L2, eF, eG, t4, tL, w2, gd⟩ := c_strong w (X (6 * c + 1))
  refine zwp.gb (B := zb_strong) (lo := 1174) zb_strong_at (m := 1) (j := 1175) (ls' := zLw n c (none) (none)) (st' := [zr ((0, 10, 0) : zF)]) (h' := h) rfl ?_
  refine zc_sx (B := zb_strong) (lo := 1174) (k := 1) zb_strong_at rfl (fun _ => rfl) hX hc hn (by omega) ?_
  refine zwp.gb (B := zb_strong) (lo := 1174) zb_strong_at (m := 1) (j := 1181) (ls' := zLw n c (none) (none)) (st' := [zr ((90, 23, 1) : zF), zi (X (6 * c + 1)), zr ((0, 10, 0) : zF)]) (h' := h) rfl ?_
  refine zl_ci (s_L_strong_ok 0 ρ hρ pp (X (6 * c + 1)) 90 1 hpp h (k, h1) hR eF) (by omega) (zsb_e (B := zb_strong) (lo := 1174) zb_strong_at rfl rfl) rfl (fun hR1 hX1 => ?_)
  refine zwp.gb (B := zb_strong) (lo := 1174) zb_strong_at (m := 2) (j := 1184) (ls' := zLw n c (some (zi k)) (none)) (st' := [zr ((52, 11, 0) : zF)]) (h' := h1) rfl ?_
  refine zc_sx (B := zb_strong) (lo := 1174) (k := 1) zb_strong_at rfl (fun _ => rfl) (hX1.trans hX) hc hn (by omega) ?_
  refine zl_ci (s_X11_strong_ok 0 _ hρ (X (6 * c + 1)) h1 (v, h2) hR1 eG) (by omega) (zsb_e (B := zb_strong) (lo := 1174) zb_strong_at rfl rfl) rfl (fun hR2 hX2 => ?_)
  have iv2 : zIv X (c + 1) h2 := ⟨ρ, pp, tp, P, L2, w2, hR2, hρ, hpt, h3, h4, hJ.nx gd, hX2.trans (hX1.trans hX)⟩
  refine zwp.gb (B := zb_strong) (lo := 1174) zb_strong_at (m := 2) (j := 1192) (ls' := zLw n c (some (zi k)) (some (zi v))) (st' := [zr ((52, 11, 0) : zF)]) (h' := h2) rfl ?_
  refine zl_cp (s_X11_thrown_ok 0 _ hρ h2 (zI h2 52 4) hR2 rfl) (by omega) (zsb_e (B := zb_strong) (lo := 1174) zb_strong_at rfl rfl) rfl ?_
  rw [t4]
  refine zwp.gb (B := zb_strong) (lo := 1174) zb_strong_at (m := 1) (j := 1194) (ls' := zLw n c (some (zi k)) (some (zi v))) (st' := [zi k, zi k]) (h' := h2) rfl ?_
  refine zwp.br (c := decide (k = k)) (j := 1197) (ls' := zLw n c (some (zi k)) (some (zi v))) (st' := []) (h' := h2) (j2 := 1195) (l2 := zLw n c (some (zi k)) (some (zi v))) (s2 := []) (h2 := h2) (zsb_e (B := zb_strong) (lo := 1174) zb_strong_at rfl rfl) (fun _ => ?_) (fun e9 => absurd rfl (of_decide_eq_false e9))
  refine zwp.gb (B := zb_strong) (lo := 1174) zb_strong_at (m := 1) (j := 1198) (ls' := zLw n c (some (zi k)) (some (zi v))) (st' := [zi k]) (h' := h2) rfl ?_
  refine zwp.br (c := decide (¬ k = 0)) (j := 1208) (ls' := zLw n c (some (zi k)) (some (zi v))) (st' := []) (h' := h2) (j2 := 1199) (l2 := zLw n c (some (zi k)) (some (zi v))) (s2 := []) (h2 := h2) (zsb_e (B := zb_strong) (lo := 1174) zb_strong_at rfl rfl) (fun _ => ?_) (fun e9 => ?_)
  · refine zwp.gb (B := zb_strong) (lo := 1174) zb_strong_at (m := 1) (j := 1406) (ls' := zLw n c (some (zi k)) (some (zi v))) (st' := []) (h' := h2) rfl ?_
    exact kk _ _ _ iv2
  · have e8 : k = 0 := Classical.not_not.mp (of_decide_eq_false e9)
    refine zwp.gb (B := zb_strong) (lo := 1174) zb_strong_at (m := 6) (j := 1205) (ls' := zLw n c (some (zi k)) (some (zi v))) (st' := [zi (lg_cmp (zL h2 90 0) v.toInt64)]) (h' := h2) rfl ?_
    rw [tL e8, lg_cmp_rf]
    refine zwp.gb (B := zb_strong) (lo := 1174) zb_strong_at (m := 2) (j := 1406) (ls' := zLw n c (some (zi k)) (some (zi v))) (st' := []) (h' := h2) rfl ?_
    exact kk _ _ _ iv2
noncomputable def zb_look : List zA := [zE4 2048 (.aload_n 1) 1 1 0 0 0,
  zE 2049 (.aload_n 0) 1,
  zE4 2050 (.iload 4) 2 4 0 0 0,
  zEc 2052 (.iconst 1) 1 0 0 (1),
  zE 2053 (.iadd) 1,
  zE 2054 (.iaload) 1,
  zE4 2055 (.aload_n 3) 1 3 0 0 0,
  zE4 2056 (.invokestatic 231) 3 279 3 0 0,
  zE4 2059 (.istore 5) 2 5 0 0 0,
  zE4 2061 (.aload_n 2) 1 2 0 0 0,
  zE 2062 (.aload_n 0) 1,
  zE4 2063 (.iload 4) 2 4 0 0 0,
  zEc 2065 (.iconst 1) 1 0 0 (1),
  zE 2066 (.iadd) 1,
  zE 2067 (.iaload) 1,
  zE4 2068 (.invokevirtual 233) 3 281 2 0 11,
  zE4 2071 (.istore 6) 2 6 0 0 0,
  zE4 2073 (.aload_n 2) 1 2 0 0 0,
  zE4 2074 (.invokevirtual 122) 3 84 1 0 11,
  zE4 2077 (.iload 5) 2 5 0 0 0,
  zE4 2079 (.if_icmp .eq 5) 3 1232 0 0 0,
  zEc 2082 (.iconst 0) 1 0 0 (0),
  zE4 2083 (.ireturn) 1 1 0 0 0,
  zE4 2084 (.iload 5) 2 5 0 0 0,
  zE4 2086 (.ifCond .ne 15) 3 1243 0 0 0,
  zE4 2089 (.aload_n 3) 1 3 0 0 0,
  zEc 2090 (.iconst 0) 1 0 0 (0),
  zE 2091 (.laload) 1,
  zE4 2092 (.iload 6) 2 6 0 0 0,
  zE 2094 (.i2l) 1,
  zE 2095 (.lcmp) 1,
  zE4 2096 (.ifCond .eq 5) 3 1243 0 0 0,
  zEc 2099 (.iconst 0) 1 0 0 (0),
  zE4 2100 (.ireturn) 1 1 0 0 0,
  zE4 2101 (.goto 254) 3 1406 0 0 0]
set_option maxRecDepth 1000000 in
theorem zb_look_at : (zm_L_law.1.drop 1209).take 35 = zb_look := rfl
theorem w_look {X : Nat → Int32} {n c d : Nat} {h : zH} {Q : zO → zH → Prop} (iv : zIv X c h) (hc : 6 * c + 6 ≤ n) (hn : n ≤ 384) (kk : ∀ h2 a b, zIv X (c + 1) h2 → zwp (d + 103) zm_L_law 1406 (zLw n c a b) [] h2 Q) : zwp (d + 103) zm_L_law 1209 (zLw n c none none) [] h Q := by
  obtain ⟨ρ, pp, tp, P, L, w, hR, hρ, hpt, h3, h4, hJ, hX⟩ := iv
  have hpp : ρ 0 3 = some (pp, 3, 0) ∧ zPlS ρ pp := ⟨h3, zSh_pl hρ (by omega)⟩
  obtain ⟨k, h1, v, h2, L2, eF, eG, t4, tL, w2, gd⟩ := c_look w (by omega) (X (6 * c + 1))
  refine zwp.gb (B := zb_look) (lo := 1209) zb_look_at (m := 1) (j := 1210) (ls' := zLw n c (none) (none)) (st' := [zr ((0, 10, 0) : zF)]) (h' := h) rfl ?_
  refine zc_sx (B := zb_look) (lo := 1209) (k := 1) zb_look_at rfl (fun _ => rfl) hX hc hn (by omega) ?_
  refine zwp.gb (B := zb_look) (lo := 1209) zb_look_at (m := 1) (j := 1216) (ls' := zLw n c (none) (none)) (st' := [zr ((90, 23, 1) : zF), zi (X (6 * c + 1)), zr ((0, 10, 0) : zF)]) (h' := h) rfl ?_
  refine zl_ci (s_L_look_ok 0 ρ hρ pp (X (6 * c + 1)) 90 1 hpp h (k, h1) hR eF) (by omega) (zsb_e (B := zb_look) (lo := 1209) zb_look_at rfl rfl) rfl (fun hR1 hX1 => ?_)
  refine zwp.gb (B := zb_look) (lo := 1209) zb_look_at (m := 2) (j := 1219) (ls' := zLw n c (some (zi k)) (none)) (st' := [zr ((52, 11, 0) : zF)]) (h' := h1) rfl ?_
  refine zc_sx (B := zb_look) (lo := 1209) (k := 1) zb_look_at rfl (fun _ => rfl) (hX1.trans hX) hc hn (by omega) ?_
  refine zl_ci (s_X11_look_ok 0 _ hρ (X (6 * c + 1)) h1 (v, h2) hR1 eG) (by omega) (zsb_e (B := zb_look) (lo := 1209) zb_look_at rfl rfl) rfl (fun hR2 hX2 => ?_)
  have iv2 : zIv X (c + 1) h2 := ⟨ρ, pp, tp, P, L2, w2, hR2, hρ, hpt, h3, h4, hJ.nx gd, hX2.trans (hX1.trans hX)⟩
  refine zwp.gb (B := zb_look) (lo := 1209) zb_look_at (m := 2) (j := 1227) (ls' := zLw n c (some (zi k)) (some (zi v))) (st' := [zr ((52, 11, 0) : zF)]) (h' := h2) rfl ?_
  refine zl_cp (s_X11_thrown_ok 0 _ hρ h2 (zI h2 52 4) hR2 rfl) (by omega) (zsb_e (B := zb_look) (lo := 1209) zb_look_at rfl rfl) rfl ?_
  rw [t4]
  refine zwp.gb (B := zb_look) (lo := 1209) zb_look_at (m := 1) (j := 1229) (ls' := zLw n c (some (zi k)) (some (zi v))) (st' := [zi k, zi k]) (h' := h2) rfl ?_
  refine zwp.br (c := decide (k = k)) (j := 1232) (ls' := zLw n c (some (zi k)) (some (zi v))) (st' := []) (h' := h2) (j2 := 1230) (l2 := zLw n c (some (zi k)) (some (zi v))) (s2 := []) (h2 := h2) (zsb_e (B := zb_look) (lo := 1209) zb_look_at rfl rfl) (fun _ => ?_) (fun e9 => absurd rfl (of_decide_eq_false e9))
  refine zwp.gb (B := zb_look) (lo := 1209) zb_look_at (m := 1) (j := 1233) (ls' := zLw n c (some (zi k)) (some (zi v))) (st' := [zi k]) (h' := h2) rfl ?_
  refine zwp.br (c := decide (¬ k = 0)) (j := 1243) (ls' := zLw n c (some (zi k)) (some (zi v))) (st' := []) (h' := h2) (j2 := 1234) (l2 := zLw n c (some (zi k)) (some (zi v))) (s2 := []) (h2 := h2) (zsb_e (B := zb_look) (lo := 1209) zb_look_at rfl rfl) (fun _ => ?_) (fun e9 => ?_)
  · refine zwp.gb (B := zb_look) (lo := 1209) zb_look_at (m := 1) (j := 1406) (ls' := zLw n c (some (zi k)) (some (zi v))) (st' := []) (h' := h2) rfl ?_
    exact kk _ _ _ iv2
  · have e8 : k = 0 := Classical.not_not.mp (of_decide_eq_false e9)
    refine zwp.gb (B := zb_look) (lo := 1209) zb_look_at (m := 6) (j := 1240) (ls' := zLw n c (some (zi k)) (some (zi v))) (st' := [zi (lg_cmp (zL h2 90 0) v.toInt64)]) (h' := h2) rfl ?_
    rw [tL e8, lg_cmp_rf]
    refine zwp.gb (B := zb_look) (lo := 1209) zb_look_at (m := 2) (j := 1406) (ls' := zLw n c (some (zi k)) (some (zi v))) (st' := []) (h' := h2) rfl ?_
    exact kk _ _ _ iv2
noncomputable def zb_forget : List zA := [zE4 2104 (.aload_n 1) 1 1 0 0 0,
  zE4 2105 (.invokevirtual 234) 3 282 1 0 10,
  zE4 2108 (.aload_n 2) 1 2 0 0 0,
  zE4 2109 (.invokevirtual 237) 3 283 1 0 11,
  zE4 2112 (.goto 243) 3 1406 0 0 0]
set_option maxRecDepth 1000000 in
theorem zb_forget_at : (zm_L_law.1.drop 1244).take 5 = zb_forget := rfl
theorem w_forget {X : Nat → Int32} {n c d : Nat} {h : zH} {Q : zO → zH → Prop} (iv : zIv X c h) (hc : 6 * c + 6 ≤ n) (hn : n ≤ 384) (kk : ∀ h2 a b, zIv X (c + 1) h2 → zwp (d + 103) zm_L_law 1406 (zLw n c a b) [] h2 Q) : zwp (d + 103) zm_L_law 1244 (zLw n c none none) [] h Q := by
  obtain ⟨ρ, pp, tp, P, L, w, hR, hρ, hpt, h3, h4, hJ, hX⟩ := iv
  have hpp : ρ 0 3 = some (pp, 3, 0) ∧ zPlS ρ pp := ⟨h3, zSh_pl hρ (by omega)⟩
  obtain ⟨v, h1, h2, L2, eF, eG, w2, gd⟩ := c_forget w
  obtain ⟨u, e1, e2⟩ := zbind eF
  cases e2
  obtain ⟨u2, e3, e4⟩ := zbind eG
  cases e4
  refine zwp.gb (B := zb_forget) (lo := 1244) zb_forget_at (m := 1) (j := 1245) (ls' := zLw n c (none) (none)) (st' := [zr ((0, 10, 0) : zF)]) (h' := h) rfl ?_
  refine zl_cv (s_X10_forget_ok 0 ρ hρ pp hpp h h1 hR e1) (by omega) (zsb_e (B := zb_forget) (lo := 1244) zb_forget_at rfl rfl) rfl (fun hR1 hX1 => ?_)
  refine zwp.gb (B := zb_forget) (lo := 1244) zb_forget_at (m := 1) (j := 1247) (ls' := zLw n c (none) (none)) (st' := [zr ((52, 11, 0) : zF)]) (h' := h1) rfl ?_
  refine zl_cv (s_X11_forget_ok 0 ρ hρ h1 h2 hR1 e3) (by omega) (zsb_e (B := zb_forget) (lo := 1244) zb_forget_at rfl rfl) rfl (fun hR2 hX2 => ?_)
  refine zwp.gb (B := zb_forget) (lo := 1244) zb_forget_at (m := 1) (j := 1406) (ls' := zLw n c (none) (none)) (st' := []) (h' := h2) rfl ?_
  exact kk _ _ _ ⟨ρ, pp, tp, P, L2, w2, hR2, hρ, hpt, h3, h4, hJ.nx gd, hX2.trans (hX1.trans hX)⟩
noncomputable def zb_storms : List zA := [zE4 2115 (.aload_n 1) 1 1 0 0 0,
  zE 2116 (.aload_n 0) 1,
  zE4 2117 (.iload 4) 2 4 0 0 0,
  zEc 2119 (.iconst 1) 1 0 0 (1),
  zE 2120 (.iadd) 1,
  zE 2121 (.iaload) 1,
  zE 2122 (.aload_n 0) 1,
  zE4 2123 (.iload 4) 2 4 0 0 0,
  zEc 2125 (.iconst 2) 1 0 0 (2),
  zE 2126 (.iadd) 1,
  zE 2127 (.iaload) 1,
  zE 2128 (.aload_n 0) 1,
  zE4 2129 (.iload 4) 2 4 0 0 0,
  zEc 2131 (.iconst 3) 1 0 0 (3),
  zE 2132 (.iadd) 1,
  zE 2133 (.iaload) 1,
  zE4 2134 (.aload_n 3) 1 3 0 0 0,
  zE4 2135 (.invokestatic 238) 3 287 5 0 0,
  zE4 2138 (.istore 5) 2 5 0 0 0,
  zE4 2140 (.aload_n 2) 1 2 0 0 0,
  zE 2141 (.aload_n 0) 1,
  zE4 2142 (.iload 4) 2 4 0 0 0,
  zEc 2144 (.iconst 1) 1 0 0 (1),
  zE 2145 (.iadd) 1,
  zE 2146 (.iaload) 1,
  zE 2147 (.aload_n 0) 1,
  zE4 2148 (.iload 4) 2 4 0 0 0,
  zEc 2150 (.iconst 2) 1 0 0 (2),
  zE 2151 (.iadd) 1,
  zE 2152 (.iaload) 1,
  zE 2153 (.aload_n 0) 1,
  zE4 2154 (.iload 4) 2 4 0 0 0,
  zEc 2156 (.iconst 3) 1 0 0 (3),
  zE 2157 (.iadd) 1,
  zE 2158 (.iaload) 1,
  zE4 2159 (.invokevirtual 241) 3 288 4 0 11,
  zE4 2162 (.istore 6) 2 6 0 0 0,
  zE4 2164 (.aload_n 2) 1 2 0 0 0,
  zE4 2165 (.invokevirtual 122) 3 84 1 0 11,
  zE4 2168 (.iload 5) 2 5 0 0 0,
  zE4 2170 (.if_icmp .eq 5) 3 1292 0 0 0,
  zEc 2173 (.iconst 0) 1 0 0 (0),
  zE4 2174 (.ireturn) 1 1 0 0 0,
  zE4 2175 (.iload 5) 2 5 0 0 0,
  zE4 2177 (.ifCond .ne 15) 3 1303 0 0 0,
  zE4 2180 (.aload_n 3) 1 3 0 0 0,
  zEc 2181 (.iconst 0) 1 0 0 (0),
  zE 2182 (.laload) 1,
  zE4 2183 (.iload 6) 2 6 0 0 0,
  zE 2185 (.i2l) 1,
  zE 2186 (.lcmp) 1,
  zE4 2187 (.ifCond .eq 5) 3 1303 0 0 0,
  zEc 2190 (.iconst 0) 1 0 0 (0),
  zE4 2191 (.ireturn) 1 1 0 0 0,
  zE4 2192 (.goto 163) 3 1406 0 0 0]
set_option maxRecDepth 1000000 in
theorem zb_storms_at : (zm_L_law.1.drop 1249).take 55 = zb_storms := rfl
theorem w_storms {X : Nat → Int32} {n c d : Nat} {h : zH} {Q : zO → zH → Prop} (iv : zIv X c h) (hc : 6 * c + 6 ≤ n) (hn : n ≤ 384) (kk : ∀ h2 a b, zIv X (c + 1) h2 → zwp (d + 103) zm_L_law 1406 (zLw n c a b) [] h2 Q) : zwp (d + 103) zm_L_law 1249 (zLw n c none none) [] h Q := by
  obtain ⟨ρ, pp, tp, P, L, w, hR, hρ, hpt, h3, h4, hJ, hX⟩ := iv
  have hpp : ρ 0 3 = some (pp, 3, 0) ∧ zPlS ρ pp := ⟨h3, zSh_pl hρ (by omega)⟩
  obtain ⟨k, h1, v, h2, L2, eF, eG, t4, tL, w2, gd⟩ := c_storms w (X (6 * c + 1)) (X (6 * c + 2)) (X (6 * c + 3))
  refine zwp.gb (B := zb_storms) (lo := 1249) zb_storms_at (m := 1) (j := 1250) (ls' := zLw n c (none) (none)) (st' := [zr ((0, 10, 0) : zF)]) (h' := h) rfl ?_
  refine zc_sx (B := zb_storms) (lo := 1249) (k := 1) zb_storms_at rfl (fun _ => rfl) hX hc hn (by omega) ?_
  refine zc_sx (B := zb_storms) (lo := 1249) (k := 2) zb_storms_at rfl (fun _ => rfl) hX hc hn (by omega) ?_
  refine zc_sx (B := zb_storms) (lo := 1249) (k := 3) zb_storms_at rfl (fun _ => rfl) hX hc hn (by omega) ?_
  refine zwp.gb (B := zb_storms) (lo := 1249) zb_storms_at (m := 1) (j := 1266) (ls' := zLw n c (none) (none)) (st' := [zr ((90, 23, 1) : zF), zi (X (6 * c + 3)), zi (X (6 * c + 2)), zi (X (6 * c + 1)), zr ((0, 10, 0) : zF)]) (h' := h) rfl ?_
  refine zl_ci (s_L_storms_ok 0 ρ hρ pp (X (6 * c + 1)) (X (6 * c + 2)) (X (6 * c + 3)) 90 1 hpp h (k, h1) hR eF) (by omega) (zsb_e (B := zb_storms) (lo := 1249) zb_storms_at rfl rfl) rfl (fun hR1 hX1 => ?_)
  refine zwp.gb (B := zb_storms) (lo := 1249) zb_storms_at (m := 2) (j := 1269) (ls' := zLw n c (some (zi k)) (none)) (st' := [zr ((52, 11, 0) : zF)]) (h' := h1) rfl ?_
  refine zc_sx (B := zb_storms) (lo := 1249) (k := 1) zb_storms_at rfl (fun _ => rfl) (hX1.trans hX) hc hn (by omega) ?_
  refine zc_sx (B := zb_storms) (lo := 1249) (k := 2) zb_storms_at rfl (fun _ => rfl) (hX1.trans hX) hc hn (by omega) ?_
  refine zc_sx (B := zb_storms) (lo := 1249) (k := 3) zb_storms_at rfl (fun _ => rfl) (hX1.trans hX) hc hn (by omega) ?_
  refine zl_ci (s_X11_storms_ok 0 _ hρ (X (6 * c + 1)) (X (6 * c + 2)) (X (6 * c + 3)) h1 (v, h2) hR1 eG) (by omega) (zsb_e (B := zb_storms) (lo := 1249) zb_storms_at rfl rfl) rfl (fun hR2 hX2 => ?_)
  have iv2 : zIv X (c + 1) h2 := ⟨ρ, pp, tp, P, L2, w2, hR2, hρ, hpt, h3, h4, hJ.nx gd, hX2.trans (hX1.trans hX)⟩
  refine zwp.gb (B := zb_storms) (lo := 1249) zb_storms_at (m := 2) (j := 1287) (ls' := zLw n c (some (zi k)) (some (zi v))) (st' := [zr ((52, 11, 0) : zF)]) (h' := h2) rfl ?_
  refine zl_cp (s_X11_thrown_ok 0 _ hρ h2 (zI h2 52 4) hR2 rfl) (by omega) (zsb_e (B := zb_storms) (lo := 1249) zb_storms_at rfl rfl) rfl ?_
  rw [t4]
  refine zwp.gb (B := zb_storms) (lo := 1249) zb_storms_at (m := 1) (j := 1289) (ls' := zLw n c (some (zi k)) (some (zi v))) (st' := [zi k, zi k]) (h' := h2) rfl ?_
  refine zwp.br (c := decide (k = k)) (j := 1292) (ls' := zLw n c (some (zi k)) (some (zi v))) (st' := []) (h' := h2) (j2 := 1290) (l2 := zLw n c (some (zi k)) (some (zi v))) (s2 := []) (h2 := h2) (zsb_e (B := zb_storms) (lo := 1249) zb_storms_at rfl rfl) (fun _ => ?_) (fun e9 => absurd rfl (of_decide_eq_false e9))
  refine zwp.gb (B := zb_storms) (lo := 1249) zb_storms_at (m := 1) (j := 1293) (ls' := zLw n c (some (zi k)) (some (zi v))) (st' := [zi k]) (h' := h2) rfl ?_
  refine zwp.br (c := decide (¬ k = 0)) (j := 1303) (ls' := zLw n c (some (zi k)) (some (zi v))) (st' := []) (h' := h2) (j2 := 1294) (l2 := zLw n c (some (zi k)) (some (zi v))) (s2 := []) (h2 := h2) (zsb_e (B := zb_storms) (lo := 1249) zb_storms_at rfl rfl) (fun _ => ?_) (fun e9 => ?_)
  · refine zwp.gb (B := zb_storms) (lo := 1249) zb_storms_at (m := 1) (j := 1406) (ls' := zLw n c (some (zi k)) (some (zi v))) (st' := []) (h' := h2) rfl ?_
    exact kk _ _ _ iv2
  · have e8 : k = 0 := Classical.not_not.mp (of_decide_eq_false e9)
    refine zwp.gb (B := zb_storms) (lo := 1249) zb_storms_at (m := 6) (j := 1300) (ls' := zLw n c (some (zi k)) (some (zi v))) (st' := [zi (lg_cmp (zL h2 90 0) v.toInt64)]) (h' := h2) rfl ?_
    rw [tL e8, lg_cmp_rf]
    refine zwp.gb (B := zb_storms) (lo := 1249) zb_storms_at (m := 2) (j := 1406) (ls' := zLw n c (some (zi k)) (some (zi v))) (st' := []) (h' := h2) rfl ?_
    exact kk _ _ _ iv2
noncomputable def zb_game : List zA := [zE4 2195 (.aload_n 1) 1 1 0 0 0,
  zE 2196 (.aload_n 0) 1,
  zE4 2197 (.iload 4) 2 4 0 0 0,
  zEc 2199 (.iconst 1) 1 0 0 (1),
  zE 2200 (.iadd) 1,
  zE 2201 (.iaload) 1,
  zE4 2202 (.aload_n 3) 1 3 0 0 0,
  zE4 2203 (.invokestatic 242) 3 292 3 0 0,
  zE4 2206 (.istore 5) 2 5 0 0 0,
  zE4 2208 (.aload_n 2) 1 2 0 0 0,
  zE 2209 (.aload_n 0) 1,
  zE4 2210 (.iload 4) 2 4 0 0 0,
  zEc 2212 (.iconst 1) 1 0 0 (1),
  zE 2213 (.iadd) 1,
  zE 2214 (.iaload) 1,
  zE4 2215 (.invokevirtual 244) 3 294 2 0 11,
  zE4 2218 (.istore 6) 2 6 0 0 0,
  zE4 2220 (.aload_n 2) 1 2 0 0 0,
  zE4 2221 (.invokevirtual 122) 3 84 1 0 11,
  zE4 2224 (.iload 5) 2 5 0 0 0,
  zE4 2226 (.if_icmp .eq 5) 3 1327 0 0 0,
  zEc 2229 (.iconst 0) 1 0 0 (0),
  zE4 2230 (.ireturn) 1 1 0 0 0,
  zE4 2231 (.iload 5) 2 5 0 0 0,
  zE4 2233 (.ifCond .ne 15) 3 1338 0 0 0,
  zE4 2236 (.aload_n 3) 1 3 0 0 0,
  zEc 2237 (.iconst 0) 1 0 0 (0),
  zE 2238 (.laload) 1,
  zE4 2239 (.iload 6) 2 6 0 0 0,
  zE 2241 (.i2l) 1,
  zE 2242 (.lcmp) 1,
  zE4 2243 (.ifCond .eq 5) 3 1338 0 0 0,
  zEc 2246 (.iconst 0) 1 0 0 (0),
  zE4 2247 (.ireturn) 1 1 0 0 0,
  zE4 2248 (.goto 107) 3 1406 0 0 0]
set_option maxRecDepth 1000000 in
theorem zb_game_at : (zm_L_law.1.drop 1304).take 35 = zb_game := rfl
theorem w_game {X : Nat → Int32} {n c d : Nat} {h : zH} {Q : zO → zH → Prop} (iv : zIv X c h) (hc : 6 * c + 6 ≤ n) (hn : n ≤ 384) (kk : ∀ h2 a b, zIv X (c + 1) h2 → zwp (d + 103) zm_L_law 1406 (zLw n c a b) [] h2 Q) : zwp (d + 103) zm_L_law 1304 (zLw n c none none) [] h Q := by
  obtain ⟨ρ, pp, tp, P, L, w, hR, hρ, hpt, h3, h4, hJ, hX⟩ := iv
  have hpp : ρ 0 3 = some (pp, 3, 0) ∧ zPlS ρ pp := ⟨h3, zSh_pl hρ (by omega)⟩
  obtain ⟨k, h1, v, h2, L2, eF, eG, t4, tL, w2, gd⟩ := c_game w (X (6 * c + 1))
  refine zwp.gb (B := zb_game) (lo := 1304) zb_game_at (m := 1) (j := 1305) (ls' := zLw n c (none) (none)) (st' := [zr ((0, 10, 0) : zF)]) (h' := h) rfl ?_
  refine zc_sx (B := zb_game) (lo := 1304) (k := 1) zb_game_at rfl (fun _ => rfl) hX hc hn (by omega) ?_
  refine zwp.gb (B := zb_game) (lo := 1304) zb_game_at (m := 1) (j := 1311) (ls' := zLw n c (none) (none)) (st' := [zr ((90, 23, 1) : zF), zi (X (6 * c + 1)), zr ((0, 10, 0) : zF)]) (h' := h) rfl ?_
  refine zl_ci (s_L_game_ok 0 ρ hρ pp (X (6 * c + 1)) 90 1 hpp h (k, h1) hR eF) (by omega) (zsb_e (B := zb_game) (lo := 1304) zb_game_at rfl rfl) rfl (fun hR1 hX1 => ?_)
  refine zwp.gb (B := zb_game) (lo := 1304) zb_game_at (m := 2) (j := 1314) (ls' := zLw n c (some (zi k)) (none)) (st' := [zr ((52, 11, 0) : zF)]) (h' := h1) rfl ?_
  refine zc_sx (B := zb_game) (lo := 1304) (k := 1) zb_game_at rfl (fun _ => rfl) (hX1.trans hX) hc hn (by omega) ?_
  refine zl_ci (s_X11_game_ok 0 _ hρ (X (6 * c + 1)) h1 (v, h2) hR1 eG) (by omega) (zsb_e (B := zb_game) (lo := 1304) zb_game_at rfl rfl) rfl (fun hR2 hX2 => ?_)
  have iv2 : zIv X (c + 1) h2 := ⟨ρ, pp, tp, P, L2, w2, hR2, hρ, hpt, h3, h4, hJ.nx gd, hX2.trans (hX1.trans hX)⟩
  refine zwp.gb (B := zb_game) (lo := 1304) zb_game_at (m := 2) (j := 1322) (ls' := zLw n c (some (zi k)) (some (zi v))) (st' := [zr ((52, 11, 0) : zF)]) (h' := h2) rfl ?_
  refine zl_cp (s_X11_thrown_ok 0 _ hρ h2 (zI h2 52 4) hR2 rfl) (by omega) (zsb_e (B := zb_game) (lo := 1304) zb_game_at rfl rfl) rfl ?_
  rw [t4]
  refine zwp.gb (B := zb_game) (lo := 1304) zb_game_at (m := 1) (j := 1324) (ls' := zLw n c (some (zi k)) (some (zi v))) (st' := [zi k, zi k]) (h' := h2) rfl ?_
  refine zwp.br (c := decide (k = k)) (j := 1327) (ls' := zLw n c (some (zi k)) (some (zi v))) (st' := []) (h' := h2) (j2 := 1325) (l2 := zLw n c (some (zi k)) (some (zi v))) (s2 := []) (h2 := h2) (zsb_e (B := zb_game) (lo := 1304) zb_game_at rfl rfl) (fun _ => ?_) (fun e9 => absurd rfl (of_decide_eq_false e9))
  refine zwp.gb (B := zb_game) (lo := 1304) zb_game_at (m := 1) (j := 1328) (ls' := zLw n c (some (zi k)) (some (zi v))) (st' := [zi k]) (h' := h2) rfl ?_
  refine zwp.br (c := decide (¬ k = 0)) (j := 1338) (ls' := zLw n c (some (zi k)) (some (zi v))) (st' := []) (h' := h2) (j2 := 1329) (l2 := zLw n c (some (zi k)) (some (zi v))) (s2 := []) (h2 := h2) (zsb_e (B := zb_game) (lo := 1304) zb_game_at rfl rfl) (fun _ => ?_) (fun e9 => ?_)
  · refine zwp.gb (B := zb_game) (lo := 1304) zb_game_at (m := 1) (j := 1406) (ls' := zLw n c (some (zi k)) (some (zi v))) (st' := []) (h' := h2) rfl ?_
    exact kk _ _ _ iv2
  · have e8 : k = 0 := Classical.not_not.mp (of_decide_eq_false e9)
    refine zwp.gb (B := zb_game) (lo := 1304) zb_game_at (m := 6) (j := 1335) (ls' := zLw n c (some (zi k)) (some (zi v))) (st' := [zi (lg_cmp (zL h2 90 0) v.toInt64)]) (h' := h2) rfl ?_
    rw [tL e8, lg_cmp_rf]
    refine zwp.gb (B := zb_game) (lo := 1304) zb_game_at (m := 2) (j := 1406) (ls' := zLw n c (some (zi k)) (some (zi v))) (st' := []) (h' := h2) rfl ?_
    exact kk _ _ _ iv2
noncomputable def zb_years : List zA := [zE4 2251 (.aload_n 1) 1 1 0 0 0,
  zE 2252 (.aload_n 0) 1,
  zE4 2253 (.iload 4) 2 4 0 0 0,
  zEc 2255 (.iconst 1) 1 0 0 (1),
  zE 2256 (.iadd) 1,
  zE 2257 (.iaload) 1,
  zE 2258 (.aload_n 0) 1,
  zE4 2259 (.iload 4) 2 4 0 0 0,
  zEc 2261 (.iconst 2) 1 0 0 (2),
  zE 2262 (.iadd) 1,
  zE 2263 (.iaload) 1,
  zE 2264 (.aload_n 0) 1,
  zE4 2265 (.iload 4) 2 4 0 0 0,
  zEc 2267 (.iconst 3) 1 0 0 (3),
  zE 2268 (.iadd) 1,
  zE 2269 (.iaload) 1,
  zE4 2270 (.aload_n 3) 1 3 0 0 0,
  zE4 2271 (.invokestatic 245) 3 298 5 0 0,
  zE4 2274 (.istore 5) 2 5 0 0 0,
  zE4 2276 (.aload_n 2) 1 2 0 0 0,
  zE 2277 (.aload_n 0) 1,
  zE4 2278 (.iload 4) 2 4 0 0 0,
  zEc 2280 (.iconst 1) 1 0 0 (1),
  zE 2281 (.iadd) 1,
  zE 2282 (.iaload) 1,
  zE 2283 (.aload_n 0) 1,
  zE4 2284 (.iload 4) 2 4 0 0 0,
  zEc 2286 (.iconst 2) 1 0 0 (2),
  zE 2287 (.iadd) 1,
  zE 2288 (.iaload) 1,
  zE 2289 (.aload_n 0) 1,
  zE4 2290 (.iload 4) 2 4 0 0 0,
  zEc 2292 (.iconst 3) 1 0 0 (3),
  zE 2293 (.iadd) 1,
  zE 2294 (.iaload) 1,
  zE4 2295 (.invokevirtual 247) 3 301 4 0 11,
  zE4 2298 (.istore 6) 2 6 0 0 0,
  zE4 2300 (.aload_n 2) 1 2 0 0 0,
  zE4 2301 (.invokevirtual 122) 3 84 1 0 11,
  zE4 2304 (.iload 5) 2 5 0 0 0,
  zE4 2306 (.if_icmp .eq 5) 3 1382 0 0 0,
  zEc 2309 (.iconst 0) 1 0 0 (0),
  zE4 2310 (.ireturn) 1 1 0 0 0,
  zE4 2311 (.iload 5) 2 5 0 0 0,
  zE4 2313 (.ifCond .ne 15) 3 1393 0 0 0,
  zE4 2316 (.aload_n 3) 1 3 0 0 0,
  zEc 2317 (.iconst 0) 1 0 0 (0),
  zE 2318 (.laload) 1,
  zE4 2319 (.iload 6) 2 6 0 0 0,
  zE 2321 (.i2l) 1,
  zE 2322 (.lcmp) 1,
  zE4 2323 (.ifCond .eq 5) 3 1393 0 0 0,
  zEc 2326 (.iconst 0) 1 0 0 (0),
  zE4 2327 (.ireturn) 1 1 0 0 0,
  zE4 2328 (.goto 27) 3 1406 0 0 0]
set_option maxRecDepth 1000000 in
theorem zb_years_at : (zm_L_law.1.drop 1339).take 55 = zb_years := rfl
theorem w_years {X : Nat → Int32} {n c d : Nat} {h : zH} {Q : zO → zH → Prop} (iv : zIv X c h) (hc : 6 * c + 6 ≤ n) (hn : n ≤ 384) (kk : ∀ h2 a b, zIv X (c + 1) h2 → zwp (d + 103) zm_L_law 1406 (zLw n c a b) [] h2 Q) : zwp (d + 103) zm_L_law 1339 (zLw n c none none) [] h Q := by
  obtain ⟨ρ, pp, tp, P, L, w, hR, hρ, hpt, h3, h4, hJ, hX⟩ := iv
  have hpp : ρ 0 3 = some (pp, 3, 0) ∧ zPlS ρ pp := ⟨h3, zSh_pl hρ (by omega)⟩
  obtain ⟨k, h1, v, h2, L2, eF, eG, t4, tL, w2, gd⟩ := c_years w (X (6 * c + 1)) (X (6 * c + 2)) (X (6 * c + 3))
  refine zwp.gb (B := zb_years) (lo := 1339) zb_years_at (m := 1) (j := 1340) (ls' := zLw n c (none) (none)) (st' := [zr ((0, 10, 0) : zF)]) (h' := h) rfl ?_
  refine zc_sx (B := zb_years) (lo := 1339) (k := 1) zb_years_at rfl (fun _ => rfl) hX hc hn (by omega) ?_
  refine zc_sx (B := zb_years) (lo := 1339) (k := 2) zb_years_at rfl (fun _ => rfl) hX hc hn (by omega) ?_
  refine zc_sx (B := zb_years) (lo := 1339) (k := 3) zb_years_at rfl (fun _ => rfl) hX hc hn (by omega) ?_
  refine zwp.gb (B := zb_years) (lo := 1339) zb_years_at (m := 1) (j := 1356) (ls' := zLw n c (none) (none)) (st' := [zr ((90, 23, 1) : zF), zi (X (6 * c + 3)), zi (X (6 * c + 2)), zi (X (6 * c + 1)), zr ((0, 10, 0) : zF)]) (h' := h) rfl ?_
  refine zl_ci (s_L_years_ok 0 ρ hρ pp (X (6 * c + 1)) (X (6 * c + 2)) (X (6 * c + 3)) 90 1 hpp h (k, h1) hR eF) (by omega) (zsb_e (B := zb_years) (lo := 1339) zb_years_at rfl rfl) rfl (fun hR1 hX1 => ?_)
  refine zwp.gb (B := zb_years) (lo := 1339) zb_years_at (m := 2) (j := 1359) (ls' := zLw n c (some (zi k)) (none)) (st' := [zr ((52, 11, 0) : zF)]) (h' := h1) rfl ?_
  refine zc_sx (B := zb_years) (lo := 1339) (k := 1) zb_years_at rfl (fun _ => rfl) (hX1.trans hX) hc hn (by omega) ?_
  refine zc_sx (B := zb_years) (lo := 1339) (k := 2) zb_years_at rfl (fun _ => rfl) (hX1.trans hX) hc hn (by omega) ?_
  refine zc_sx (B := zb_years) (lo := 1339) (k := 3) zb_years_at rfl (fun _ => rfl) (hX1.trans hX) hc hn (by omega) ?_
  refine zl_ci (s_X11_years_ok 0 _ hρ (X (6 * c + 1)) (X (6 * c + 2)) (X (6 * c + 3)) h1 (v, h2) hR1 eG) (by omega) (zsb_e (B := zb_years) (lo := 1339) zb_years_at rfl rfl) rfl (fun hR2 hX2 => ?_)
  have iv2 : zIv X (c + 1) h2 := ⟨ρ, pp, tp, P, L2, w2, hR2, hρ, hpt, h3, h4, hJ.nx gd, hX2.trans (hX1.trans hX)⟩
  refine zwp.gb (B := zb_years) (lo := 1339) zb_years_at (m := 2) (j := 1377) (ls' := zLw n c (some (zi k)) (some (zi v))) (st' := [zr ((52, 11, 0) : zF)]) (h' := h2) rfl ?_
  refine zl_cp (s_X11_thrown_ok 0 _ hρ h2 (zI h2 52 4) hR2 rfl) (by omega) (zsb_e (B := zb_years) (lo := 1339) zb_years_at rfl rfl) rfl ?_
  rw [t4]
  refine zwp.gb (B := zb_years) (lo := 1339) zb_years_at (m := 1) (j := 1379) (ls' := zLw n c (some (zi k)) (some (zi v))) (st' := [zi k, zi k]) (h' := h2) rfl ?_
  refine zwp.br (c := decide (k = k)) (j := 1382) (ls' := zLw n c (some (zi k)) (some (zi v))) (st' := []) (h' := h2) (j2 := 1380) (l2 := zLw n c (some (zi k)) (some (zi v))) (s2 := []) (h2 := h2) (zsb_e (B := zb_years) (lo := 1339) zb_years_at rfl rfl) (fun _ => ?_) (fun e9 => absurd rfl (of_decide_eq_false e9))
  refine zwp.gb (B := zb_years) (lo := 1339) zb_years_at (m := 1) (j := 1383) (ls' := zLw n c (some (zi k)) (some (zi v))) (st' := [zi k]) (h' := h2) rfl ?_
  refine zwp.br (c := decide (¬ k = 0)) (j := 1393) (ls' := zLw n c (some (zi k)) (some (zi v))) (st' := []) (h' := h2) (j2 := 1384) (l2 := zLw n c (some (zi k)) (some (zi v))) (s2 := []) (h2 := h2) (zsb_e (B := zb_years) (lo := 1339) zb_years_at rfl rfl) (fun _ => ?_) (fun e9 => ?_)
  · refine zwp.gb (B := zb_years) (lo := 1339) zb_years_at (m := 1) (j := 1406) (ls' := zLw n c (some (zi k)) (some (zi v))) (st' := []) (h' := h2) rfl ?_
    exact kk _ _ _ iv2
  · have e8 : k = 0 := Classical.not_not.mp (of_decide_eq_false e9)
    refine zwp.gb (B := zb_years) (lo := 1339) zb_years_at (m := 6) (j := 1390) (ls' := zLw n c (some (zi k)) (some (zi v))) (st' := [zi (lg_cmp (zL h2 90 0) v.toInt64)]) (h' := h2) rfl ?_
    rw [tL e8, lg_cmp_rf]
    refine zwp.gb (B := zb_years) (lo := 1339) zb_years_at (m := 2) (j := 1406) (ls' := zLw n c (some (zi k)) (some (zi v))) (st' := []) (h' := h2) rfl ?_
    exact kk _ _ _ iv2
noncomputable def zb_image : List zA := [zE4 2331 (.aload_n 1) 1 1 0 0 0,
  zE4 2332 (.invokevirtual 248) 3 303 1 0 10,
  zE4 2335 (.aload_n 2) 1 2 0 0 0,
  zE4 2336 (.invokevirtual 251) 3 305 1 0 11,
  zE4 2339 (.goto 16) 3 1406 0 0 0]
set_option maxRecDepth 1000000 in
theorem zb_image_at : (zm_L_law.1.drop 1394).take 5 = zb_image := rfl
theorem w_image {X : Nat → Int32} {n c d : Nat} {h : zH} {Q : zO → zH → Prop} (iv : zIv X c h) (hc : 6 * c + 6 ≤ n) (hn : n ≤ 384) (kk : ∀ h2 a b, zIv X (c + 1) h2 → zwp (d + 103) zm_L_law 1406 (zLw n c a b) [] h2 Q) : zwp (d + 103) zm_L_law 1394 (zLw n c none none) [] h Q := by
  obtain ⟨ρ, pp, tp, P, L, w, hR, hρ, hpt, h3, h4, hJ, hX⟩ := iv
  have hpp : ρ 0 3 = some (pp, 3, 0) ∧ zPlS ρ pp := ⟨h3, zSh_pl hρ (by omega)⟩
  refine zwp.gb (B := zb_image) (lo := 1394) zb_image_at (m := 1) (j := 1395) (ls' := zLw n c (none) (none)) (st' := [zr ((0, 10, 0) : zF)]) (h' := h) rfl ?_
  rcases hJ with ⟨h7, h8, hk, jc, js⟩ | ⟨h7, hl, jc, js⟩
  · obtain ⟨sh, h31, h41, ld, wI, kc, ks⟩ := zimg w hR hρ h3 h4 h8
    obtain ⟨h1, h2, eF, eG, w2, gd⟩ := c_image wI
    refine zl_cv (s_X10_image_0 0 ρ h7 h hk h1 hR sh ld eF) (by omega) (zsb_e (B := zb_image) (lo := 1394) zb_image_at rfl rfl) rfl (fun hR1 hX1 => ?_)
    refine zwp.gb (B := zb_image) (lo := 1394) zb_image_at (m := 1) (j := 1397) (ls' := zLw n c (none) (none)) (st' := [zr ((52, 11, 0) : zF)]) (h' := h1) rfl ?_
    refine zl_cv (s_X11_image_ok 0 _ sh h1 h2 hR1 eG) (by omega) (zsb_e (B := zb_image) (lo := 1394) zb_image_at rfl rfl) rfl (fun hR2 hX2 => ?_)
    refine zwp.gb (B := zb_image) (lo := 1394) zb_image_at (m := 1) (j := 1406) (ls' := zLw n c (none) (none)) (st' := []) (h' := h2) rfl ?_
    refine kk _ _ _ ⟨_, pp, tp, P, L, w2, hR2, sh, hpt, h31, h41, Or.inr ⟨rfl, ld, ?_, ?_⟩, hX2.trans (hX1.trans hX)⟩
    · have := gd.2.2.1; rw [kc] at this; omega
    · have := gd.2.2.2; rw [ks] at this; omega
  · obtain ⟨h1, h2, eF, eG, w2, gd⟩ := c_image w
    refine zl_cv (s_X10_image_1 0 ρ hρ h7 hl h h1 hR eF) (by omega) (zsb_e (B := zb_image) (lo := 1394) zb_image_at rfl rfl) rfl (fun hR1 hX1 => ?_)
    refine zwp.gb (B := zb_image) (lo := 1394) zb_image_at (m := 1) (j := 1397) (ls' := zLw n c (none) (none)) (st' := [zr ((52, 11, 0) : zF)]) (h' := h1) rfl ?_
    refine zl_cv (s_X11_image_ok 0 ρ hρ h1 h2 hR1 eG) (by omega) (zsb_e (B := zb_image) (lo := 1394) zb_image_at rfl rfl) rfl (fun hR2 hX2 => ?_)
    refine zwp.gb (B := zb_image) (lo := 1394) zb_image_at (m := 1) (j := 1406) (ls' := zLw n c (none) (none)) (st' := []) (h' := h2) rfl ?_
    refine kk _ _ _ ⟨ρ, pp, tp, P, L, w2, hR2, hρ, hpt, h3, h4, Or.inr ⟨h7, hl, ?_, ?_⟩, hX2.trans (hX1.trans hX)⟩
    · have := gd.2.2.1; omega
    · have := gd.2.2.2; omega
noncomputable def zb_restore : List zA := [zE4 2342 (.aload_n 1) 1 1 0 0 0,
  zE4 2343 (.invokevirtual 252) 3 306 1 0 10,
  zE4 2346 (.aload_n 2) 1 2 0 0 0,
  zE4 2347 (.invokevirtual 256) 3 307 1 0 11,
  zE4 2350 (.if_icmp .eq 5) 3 1406 0 0 0,
  zEc 2353 (.iconst 0) 1 0 0 (0),
  zE4 2354 (.ireturn) 1 1 0 0 0]
set_option maxRecDepth 1000000 in
theorem zb_restore_at : (zm_L_law.1.drop 1399).take 7 = zb_restore := rfl
theorem w_restore {X : Nat → Int32} {n c d : Nat} {h : zH} {Q : zO → zH → Prop} (iv : zIv X c h) (hc : 6 * c + 6 ≤ n) (hn : n ≤ 384) (kk : ∀ h2 a b, zIv X (c + 1) h2 → zwp (d + 103) zm_L_law 1406 (zLw n c a b) [] h2 Q) : zwp (d + 103) zm_L_law 1399 (zLw n c none none) [] h Q := by
  obtain ⟨ρ, pp, tp, P, L, w, hR, hρ, hpt, h3, h4, hJ, hX⟩ := iv
  have hpp : ρ 0 3 = some (pp, 3, 0) ∧ zPlS ρ pp := ⟨h3, zSh_pl hρ (by omega)⟩
  refine zwp.gb (B := zb_restore) (lo := 1399) zb_restore_at (m := 1) (j := 1400) (ls' := zLw n c (none) (none)) (st' := [zr ((0, 10, 0) : zF)]) (h' := h) rfl ?_
  rcases c_restore w with ⟨h8, h2, eG, w2, gd⟩ | ⟨h8, h1, h2, L2, eF, eG, w2, gd⟩
  · refine zl_ci (s_X10_restore_0 0 ρ h hR h8) (by omega) (zsb_e (B := zb_restore) (lo := 1399) zb_restore_at rfl rfl) rfl (fun hR1 hX1 => ?_)
    refine zwp.gb (B := zb_restore) (lo := 1399) zb_restore_at (m := 1) (j := 1402) (ls' := zLw n c (none) (none)) (st' := [zr ((52, 11, 0) : zF), zi (nI 0)]) (h' := h) rfl ?_
    refine zl_ci (s_X11_restore_ok 0 ρ hρ h ((nI 0), h2) hR eG) (by omega) (zsb_e (B := zb_restore) (lo := 1399) zb_restore_at rfl rfl) rfl (fun hR2 hX2 => ?_)
    refine zwp.br (c := decide ((nI 0) = (nI 0))) (j := 1406) (ls' := zLw n c (none) (none)) (st' := []) (h' := h2) (j2 := 1404) (l2 := zLw n c (none) (none)) (s2 := []) (h2 := h2) (zsb_e (B := zb_restore) (lo := 1399) zb_restore_at rfl rfl) (fun _ => kk _ _ _ ⟨ρ, pp, tp, P, L, w2, hR2, hρ, hpt, h3, h4, hJ.nx gd, hX2.trans hX⟩) (fun e9 => absurd rfl (of_decide_eq_false e9))
  · have h9 := hJ.im h8
    obtain ⟨h7, hl⟩ := h9
    refine zl_ci (s_X10_restore_1 0 ρ hρ pp hpp h7 hl h (nI 1, h1) hR h8 eF) (by omega) (zsb_e (B := zb_restore) (lo := 1399) zb_restore_at rfl rfl) rfl (fun hR1 hX1 => ?_)
    refine zwp.gb (B := zb_restore) (lo := 1399) zb_restore_at (m := 1) (j := 1402) (ls' := zLw n c (none) (none)) (st' := [zr ((52, 11, 0) : zF), zi (nI 1)]) (h' := h1) rfl ?_
    refine zl_ci (s_X11_restore_ok 0 ρ hρ h1 ((nI 1), h2) hR1 eG) (by omega) (zsb_e (B := zb_restore) (lo := 1399) zb_restore_at rfl rfl) rfl (fun hR2 hX2 => ?_)
    refine zwp.br (c := decide ((nI 1) = (nI 1))) (j := 1406) (ls' := zLw n c (none) (none)) (st' := []) (h' := h2) (j2 := 1404) (l2 := zLw n c (none) (none)) (s2 := []) (h2 := h2) (zsb_e (B := zb_restore) (lo := 1399) zb_restore_at rfl rfl) (fun _ => kk _ _ _ ⟨ρ, pp, tp, P, L2, w2, hR2, hρ, hpt, h3, h4, hJ.nx gd, hX2.trans (hX1.trans hX)⟩) (fun e9 => absurd rfl (of_decide_eq_false e9))
