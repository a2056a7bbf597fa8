/-! ===== constructors, 2 ===== -/
def el_X10_init_0_0 : List zEv := []
def el_X10_init_0_1 : List zEv := (0, 21, 700, 700, 1, 0) :: el_X10_init_0_0
def el_X10_init_0_2 : List zEv := (2, 0, 0, 1, 21, 700) :: el_X10_init_0_1
def el_X10_init_0_3 : List zEv := (1, 0, 1, 0, 0, 0) :: el_X10_init_0_2
def el_X10_init_0_4 : List zEv := (1, 0, 2, 4294967295, 0, 0) :: el_X10_init_0_3
def el_X10_init_0_5 : List zEv := (0, 3, 0, 11, 2, 0) :: el_X10_init_0_4
def el_X10_init_0_6 : List zEv := e_X3_init_2 ++ el_X10_init_0_5
def el_X10_init_0_7 : List zEv := (2, 0, 3, 2, 3, 0) :: el_X10_init_0_6
def el_X10_init_0_8 : List zEv := (0, 3, 0, 11, 9, 0) :: el_X10_init_0_7
def el_X10_init_0_9 : List zEv := e_X3_init_9 ++ el_X10_init_0_8
def el_X10_init_0_10 : List zEv := (2, 0, 4, 9, 3, 0) :: el_X10_init_0_9
def el_X10_init_0_11 : List zEv := (0, 4, 0, 15, 16, 0) :: el_X10_init_0_10
def el_X10_init_0_12 : List zEv := e_X4_init_16 ++ el_X10_init_0_11
def el_X10_init_0_13 : List zEv := (2, 0, 5, 16, 4, 0) :: el_X10_init_0_12
def el_X10_init_0_14 : List zEv := (0, 2, 0, 8, 18, 0) :: el_X10_init_0_13
def el_X10_init_0_15 : List zEv := e_X2_init_18 ++ el_X10_init_0_14
def el_X10_init_0_16 : List zEv := (2, 0, 6, 18, 2, 0) :: el_X10_init_0_15
def el_X10_init_0_17 : List zEv := (3, 0, 7, 0, 0, 0) :: el_X10_init_0_16
def el_X10_init_0_18 : List zEv := (1, 0, 8, 0, 0, 0) :: el_X10_init_0_17
def el_X10_init_0_19 : List zEv := (0, 8, 0, 9, 30, 0) :: el_X10_init_0_18
def el_X10_init_0_20 : List zEv := e_X8_init_30 ++ el_X10_init_0_19
def el_X10_init_0_21 : List zEv := (2, 0, 9, 30, 8, 0) :: el_X10_init_0_20
def el_X10_init_0_22 : List zEv := (0, 9, 0, 4, 36, 0) :: el_X10_init_0_21
def el_X10_init_0_23 : List zEv := e_X9_init_36 ++ el_X10_init_0_22
def el_X10_init_0_24 : List zEv := (2, 0, 10, 36, 9, 0) :: el_X10_init_0_23
def el_X10_init_0_25 : List zEv := (0, 1, 0, 6, 39, 0) :: el_X10_init_0_24
def el_X10_init_0_26 : List zEv := e_X1_init_39 ++ el_X10_init_0_25
def el_X10_init_0_27 : List zEv := (2, 0, 11, 39, 1, 0) :: el_X10_init_0_26
def el_X10_init_0_28 : List zEv := (0, 7, 0, 3, 44, 0) :: el_X10_init_0_27
def el_X10_init_0_29 : List zEv := e_X7_init_44 ++ el_X10_init_0_28
def el_X10_init_0_30 : List zEv := (2, 0, 12, 44, 7, 0) :: el_X10_init_0_29
def el_X10_init_0_31 : List zEv := (0, 6, 0, 11, 47, 0) :: el_X10_init_0_30
def el_X10_init_0_32 : List zEv := e_X6_init_47 ++ el_X10_init_0_31
def el_X10_init_0_33 : List zEv := (2, 0, 13, 47, 6, 0) :: el_X10_init_0_32
def el_X10_init_0_34 : List zEv := (0, 0, 0, 1, 50, 0) :: el_X10_init_0_33
def el_X10_init_0_35 : List zEv := e_X0_init_50 ++ el_X10_init_0_34
def el_X10_init_0_36 : List zEv := (2, 0, 14, 50, 0, 0) :: el_X10_init_0_35
def el_X10_init_0_37 : List zEv := (0, 20, 8, 8, 51, 0) :: el_X10_init_0_36
def el_X10_init_0_38 : List zEv := (2, 0, 15, 51, 20, 8) :: el_X10_init_0_37
def el_X10_init_0_39 : List zEv := [(1, 18, 7, 0, 0, 0), (1, 18, 6, 0, 0, 0), (1, 19, 8, 0, 0, 0), (1, 19, 7, 0, 0, 0), (1, 19, 6, 0, 0, 0), (1, 19, 5, 0, 0, 0), (1, 22, 1, 0, 0, 0), (1, 22, 0, 0, 0, 0), (4, 21, 5, 2, 0, 0), (4, 20, 3, 12, 0, 0)] ++ el_X10_init_0_38
def e_X10_init_0 : List zEv := el_X10_init_0_39
set_option maxRecDepth 100000 in
theorem i_X10_init_0 (d : Nat) (h : zH) (hl : (zK h).length = 1) : zcl (d + 3) 14 [zr ((0, 10, 0) : zF)] h (zPv (zof h e_X10_init_0)) := by
  refine ⟨zm_X10_init, rfl, ?_⟩
  show zwp (d + 3) zm_X10_init 0 [some (zr ((0, 10, 0) : zF))] [] h _
  have hg : h = zof h el_X10_init_0_0 := rfl
  refine zwp.go (m := 4) (j := 4) (ls' := [some (zr ((0, 10, 0) : zF))]) (st' := [zi (700 : Int32), zr ((0, 10, 0) : zF)]) (h' := h) rfl ?_
  refine zc_n (n := 1) (x := 21) (len := 700) (y := 700) (E := el_X10_init_0_0) (st' := [zr ((0, 10, 0) : zF)]) hg (by rw [hg, zof_len, hl]; rfl) rfl (fun g1 hg => ?_)
  replace hg : g1 = zof h el_X10_init_0_1 := hg
  refine zc_e (ev := (2, 0, 0, 1, 21, 700)) (E := el_X10_init_0_1) (st' := []) hg rfl (fun g2 hg => ?_)
  replace hg : g2 = zof h el_X10_init_0_2 := hg
  refine zwp.go (m := 2) (j := 8) (ls' := [some (zr ((0, 10, 0) : zF))]) (st' := [zi (0 : Int32), zr ((0, 10, 0) : zF)]) (h' := g2) rfl ?_
  refine zc_e (ev := (1, 0, 1, 0, 0, 0)) (E := el_X10_init_0_2) (st' := []) hg rfl (fun g3 hg => ?_)
  replace hg : g3 = zof h el_X10_init_0_3 := hg
  refine zwp.go (m := 2) (j := 11) (ls' := [some (zr ((0, 10, 0) : zF))]) (st' := [zi (-1 : Int32), zr ((0, 10, 0) : zF)]) (h' := g3) rfl ?_
  refine zc_e (ev := (1, 0, 2, 4294967295, 0, 0)) (E := el_X10_init_0_3) (st' := []) hg rfl (fun g4 hg => ?_)
  replace hg : g4 = zof h el_X10_init_0_4 := hg
  refine zwp.go (m := 1) (j := 13) (ls' := [some (zr ((0, 10, 0) : zF))]) (st' := [zr ((0, 10, 0) : zF)]) (h' := g4) rfl ?_
  refine zc_n (n := 2) (x := 3) (len := 0) (y := 11) (E := el_X10_init_0_4) (st' := [zr ((0, 10, 0) : zF)]) hg (by rw [hg, zof_len, hl]; rfl) rfl (fun g5 hg => ?_)
  replace hg : g5 = zof h el_X10_init_0_5 := hg
  refine zwp.go (m := 1) (j := 15) (ls' := [some (zr ((0, 10, 0) : zF))]) (st' := [zr ((2, 3, 0) : zF), zr ((2, 3, 0) : zF), zr ((0, 10, 0) : zF)]) (h' := g5) rfl ?_
  refine zc_c (F := e_X3_init_2) (E := el_X10_init_0_5) (rest := [zr ((2, 3, 0) : zF), zr ((0, 10, 0) : zF)]) hg (i_X3_init_2 _ g5 (by rw [hg, zof_len, hl]; rfl)) rfl rfl (fun g6 hg => ?_)
  replace hg : g6 = zof h el_X10_init_0_6 := hg
  refine zc_e (ev := (2, 0, 3, 2, 3, 0)) (E := el_X10_init_0_6) (st' := []) hg rfl (fun g7 hg => ?_)
  replace hg : g7 = zof h el_X10_init_0_7 := hg
  refine zwp.go (m := 1) (j := 18) (ls' := [some (zr ((0, 10, 0) : zF))]) (st' := [zr ((0, 10, 0) : zF)]) (h' := g7) rfl ?_
  refine zc_n (n := 9) (x := 3) (len := 0) (y := 11) (E := el_X10_init_0_7) (st' := [zr ((0, 10, 0) : zF)]) hg (by rw [hg, zof_len, hl]; rfl) rfl (fun g8 hg => ?_)
  replace hg : g8 = zof h el_X10_init_0_8 := hg
  refine zwp.go (m := 1) (j := 20) (ls' := [some (zr ((0, 10, 0) : zF))]) (st' := [zr ((9, 3, 0) : zF), zr ((9, 3, 0) : zF), zr ((0, 10, 0) : zF)]) (h' := g8) rfl ?_
  refine zc_c (F := e_X3_init_9) (E := el_X10_init_0_8) (rest := [zr ((9, 3, 0) : zF), zr ((0, 10, 0) : zF)]) hg (i_X3_init_9 _ g8 (by rw [hg, zof_len, hl]; rfl)) rfl rfl (fun g9 hg => ?_)
  replace hg : g9 = zof h el_X10_init_0_9 := hg
  refine zc_e (ev := (2, 0, 4, 9, 3, 0)) (E := el_X10_init_0_9) (st' := []) hg rfl (fun g10 hg => ?_)
  replace hg : g10 = zof h el_X10_init_0_10 := hg
  refine zwp.go (m := 1) (j := 23) (ls' := [some (zr ((0, 10, 0) : zF))]) (st' := [zr ((0, 10, 0) : zF)]) (h' := g10) rfl ?_
  refine zc_n (n := 16) (x := 4) (len := 0) (y := 15) (E := el_X10_init_0_10) (st' := [zr ((0, 10, 0) : zF)]) hg (by rw [hg, zof_len, hl]; rfl) rfl (fun g11 hg => ?_)
  replace hg : g11 = zof h el_X10_init_0_11 := hg
  refine zwp.go (m := 2) (j := 26) (ls' := [some (zr ((0, 10, 0) : zF))]) (st' := [zr ((0, 10, 0) : zF), zr ((16, 4, 0) : zF), zr ((16, 4, 0) : zF), zr ((0, 10, 0) : zF)]) (h' := g11) rfl ?_
  refine zc_sr (r := ((1, 21, 700) : zF)) (a := 0) (y := 0) (by rw [hg]; rfl) rfl ?_
  refine zwp.go (m := 1) (j := 28) (ls' := [some (zr ((0, 10, 0) : zF))]) (st' := [zr ((0, 10, 0) : zF), zr ((1, 21, 700) : zF), zr ((16, 4, 0) : zF), zr ((16, 4, 0) : zF), zr ((0, 10, 0) : zF)]) (h' := g11) rfl ?_
  refine zc_sr (r := ((9, 3, 0) : zF)) (a := 0) (y := 4) (by rw [hg]; rfl) rfl ?_
  refine zc_c (F := e_X4_init_16) (E := el_X10_init_0_11) (rest := [zr ((16, 4, 0) : zF), zr ((0, 10, 0) : zF)]) hg (i_X4_init_16 _ g11 (by rw [hg, zof_len, hl]; rfl)) rfl rfl (fun g12 hg => ?_)
  replace hg : g12 = zof h el_X10_init_0_12 := hg
  refine zc_e (ev := (2, 0, 5, 16, 4, 0)) (E := el_X10_init_0_12) (st' := []) hg rfl (fun g13 hg => ?_)
  replace hg : g13 = zof h el_X10_init_0_13 := hg
  refine zwp.go (m := 1) (j := 32) (ls' := [some (zr ((0, 10, 0) : zF))]) (st' := [zr ((0, 10, 0) : zF)]) (h' := g13) rfl ?_
  refine zc_n (n := 18) (x := 2) (len := 0) (y := 8) (E := el_X10_init_0_13) (st' := [zr ((0, 10, 0) : zF)]) hg (by rw [hg, zof_len, hl]; rfl) rfl (fun g14 hg => ?_)
  replace hg : g14 = zof h el_X10_init_0_14 := hg
  refine zwp.go (m := 1) (j := 34) (ls' := [some (zr ((0, 10, 0) : zF))]) (st' := [zr ((18, 2, 0) : zF), zr ((18, 2, 0) : zF), zr ((0, 10, 0) : zF)]) (h' := g14) rfl ?_
  refine zc_c (F := e_X2_init_18) (E := el_X10_init_0_14) (rest := [zr ((18, 2, 0) : zF), zr ((0, 10, 0) : zF)]) hg (i_X2_init_18 _ g14 (by rw [hg, zof_len, hl]; rfl)) rfl rfl (fun g15 hg => ?_)
  replace hg : g15 = zof h el_X10_init_0_15 := hg
  refine zc_e (ev := (2, 0, 6, 18, 2, 0)) (E := el_X10_init_0_15) (st' := []) hg rfl (fun g16 hg => ?_)
  replace hg : g16 = zof h el_X10_init_0_16 := hg
  refine zwp.go (m := 2) (j := 38) (ls' := [some (zr ((0, 10, 0) : zF))]) (st' := [zn, zr ((0, 10, 0) : zF)]) (h' := g16) rfl ?_
  refine zc_e (ev := (3, 0, 7, 0, 0, 0)) (E := el_X10_init_0_16) (st' := []) hg rfl (fun g17 hg => ?_)
  replace hg : g17 = zof h el_X10_init_0_17 := hg
  refine zwp.go (m := 2) (j := 41) (ls' := [some (zr ((0, 10, 0) : zF))]) (st' := [zi (0 : Int32), zr ((0, 10, 0) : zF)]) (h' := g17) rfl ?_
  refine zc_e (ev := (1, 0, 8, 0, 0, 0)) (E := el_X10_init_0_17) (st' := []) hg rfl (fun g18 hg => ?_)
  replace hg : g18 = zof h el_X10_init_0_18 := hg
  refine zwp.go (m := 1) (j := 43) (ls' := [some (zr ((0, 10, 0) : zF))]) (st' := [zr ((0, 10, 0) : zF)]) (h' := g18) rfl ?_
  refine zc_n (n := 30) (x := 8) (len := 0) (y := 9) (E := el_X10_init_0_18) (st' := [zr ((0, 10, 0) : zF)]) hg (by rw [hg, zof_len, hl]; rfl) rfl (fun g19 hg => ?_)
  replace hg : g19 = zof h el_X10_init_0_19 := hg
  refine zwp.go (m := 1) (j := 45) (ls' := [some (zr ((0, 10, 0) : zF))]) (st' := [zr ((30, 8, 0) : zF), zr ((30, 8, 0) : zF), zr ((0, 10, 0) : zF)]) (h' := g19) rfl ?_
  refine zc_c (F := e_X8_init_30) (E := el_X10_init_0_19) (rest := [zr ((30, 8, 0) : zF), zr ((0, 10, 0) : zF)]) hg (i_X8_init_30 _ g19 (by rw [hg, zof_len, hl]; rfl)) rfl rfl (fun g20 hg => ?_)
  replace hg : g20 = zof h el_X10_init_0_20 := hg
  refine zc_e (ev := (2, 0, 9, 30, 8, 0)) (E := el_X10_init_0_20) (st' := []) hg rfl (fun g21 hg => ?_)
  replace hg : g21 = zof h el_X10_init_0_21 := hg
  refine zwp.go (m := 1) (j := 48) (ls' := [some (zr ((0, 10, 0) : zF))]) (st' := [zr ((0, 10, 0) : zF)]) (h' := g21) rfl ?_
  refine zc_n (n := 36) (x := 9) (len := 0) (y := 4) (E := el_X10_init_0_21) (st' := [zr ((0, 10, 0) : zF)]) hg (by rw [hg, zof_len, hl]; rfl) rfl (fun g22 hg => ?_)
  replace hg : g22 = zof h el_X10_init_0_22 := hg
  refine zwp.go (m := 1) (j := 50) (ls' := [some (zr ((0, 10, 0) : zF))]) (st' := [zr ((36, 9, 0) : zF), zr ((36, 9, 0) : zF), zr ((0, 10, 0) : zF)]) (h' := g22) rfl ?_
  refine zc_c (F := e_X9_init_36) (E := el_X10_init_0_22) (rest := [zr ((36, 9, 0) : zF), zr ((0, 10, 0) : zF)]) hg (i_X9_init_36 _ g22 (by rw [hg, zof_len, hl]; rfl)) rfl rfl (fun g23 hg => ?_)
  replace hg : g23 = zof h el_X10_init_0_23 := hg
  refine zc_e (ev := (2, 0, 10, 36, 9, 0)) (E := el_X10_init_0_23) (st' := []) hg rfl (fun g24 hg => ?_)
  replace hg : g24 = zof h el_X10_init_0_24 := hg
  refine zwp.go (m := 1) (j := 53) (ls' := [some (zr ((0, 10, 0) : zF))]) (st' := [zr ((0, 10, 0) : zF)]) (h' := g24) rfl ?_
  refine zc_n (n := 39) (x := 1) (len := 0) (y := 6) (E := el_X10_init_0_24) (st' := [zr ((0, 10, 0) : zF)]) hg (by rw [hg, zof_len, hl]; rfl) rfl (fun g25 hg => ?_)
  replace hg : g25 = zof h el_X10_init_0_25 := hg
  refine zwp.go (m := 1) (j := 55) (ls' := [some (zr ((0, 10, 0) : zF))]) (st' := [zr ((39, 1, 0) : zF), zr ((39, 1, 0) : zF), zr ((0, 10, 0) : zF)]) (h' := g25) rfl ?_
  refine zc_c (F := e_X1_init_39) (E := el_X10_init_0_25) (rest := [zr ((39, 1, 0) : zF), zr ((0, 10, 0) : zF)]) hg (i_X1_init_39 _ g25 (by rw [hg, zof_len, hl]; rfl)) rfl rfl (fun g26 hg => ?_)
  replace hg : g26 = zof h el_X10_init_0_26 := hg
  refine zc_e (ev := (2, 0, 11, 39, 1, 0)) (E := el_X10_init_0_26) (st' := []) hg rfl (fun g27 hg => ?_)
  replace hg : g27 = zof h el_X10_init_0_27 := hg
  refine zwp.go (m := 1) (j := 58) (ls' := [some (zr ((0, 10, 0) : zF))]) (st' := [zr ((0, 10, 0) : zF)]) (h' := g27) rfl ?_
  refine zc_n (n := 44) (x := 7) (len := 0) (y := 3) (E := el_X10_init_0_27) (st' := [zr ((0, 10, 0) : zF)]) hg (by rw [hg, zof_len, hl]; rfl) rfl (fun g28 hg => ?_)
  replace hg : g28 = zof h el_X10_init_0_28 := hg
  refine zwp.go (m := 1) (j := 60) (ls' := [some (zr ((0, 10, 0) : zF))]) (st' := [zr ((44, 7, 0) : zF), zr ((44, 7, 0) : zF), zr ((0, 10, 0) : zF)]) (h' := g28) rfl ?_
  refine zc_c (F := e_X7_init_44) (E := el_X10_init_0_28) (rest := [zr ((44, 7, 0) : zF), zr ((0, 10, 0) : zF)]) hg (i_X7_init_44 _ g28 (by rw [hg, zof_len, hl]; rfl)) rfl rfl (fun g29 hg => ?_)
  replace hg : g29 = zof h el_X10_init_0_29 := hg
  refine zc_e (ev := (2, 0, 12, 44, 7, 0)) (E := el_X10_init_0_29) (st' := []) hg rfl (fun g30 hg => ?_)
  replace hg : g30 = zof h el_X10_init_0_30 := hg
  refine zwp.go (m := 1) (j := 63) (ls' := [some (zr ((0, 10, 0) : zF))]) (st' := [zr ((0, 10, 0) : zF)]) (h' := g30) rfl ?_
  refine zc_n (n := 47) (x := 6) (len := 0) (y := 11) (E := el_X10_init_0_30) (st' := [zr ((0, 10, 0) : zF)]) hg (by rw [hg, zof_len, hl]; rfl) rfl (fun g31 hg => ?_)
  replace hg : g31 = zof h el_X10_init_0_31 := hg
  refine zwp.go (m := 2) (j := 66) (ls' := [some (zr ((0, 10, 0) : zF))]) (st' := [zr ((0, 10, 0) : zF), zr ((47, 6, 0) : zF), zr ((47, 6, 0) : zF), zr ((0, 10, 0) : zF)]) (h' := g31) rfl ?_
  refine zc_sr (r := ((36, 9, 0) : zF)) (a := 0) (y := 10) (by rw [hg]; rfl) rfl ?_
  refine zwp.go (m := 1) (j := 68) (ls' := [some (zr ((0, 10, 0) : zF))]) (st' := [zr ((0, 10, 0) : zF), zr ((36, 9, 0) : zF), zr ((47, 6, 0) : zF), zr ((47, 6, 0) : zF), zr ((0, 10, 0) : zF)]) (h' := g31) rfl ?_
  refine zc_sr (r := ((30, 8, 0) : zF)) (a := 0) (y := 9) (by rw [hg]; rfl) rfl ?_
  refine zc_c (F := e_X6_init_47) (E := el_X10_init_0_31) (rest := [zr ((47, 6, 0) : zF), zr ((0, 10, 0) : zF)]) hg (i_X6_init_47 _ g31 (by rw [hg, zof_len, hl]; rfl)) rfl rfl (fun g32 hg => ?_)
  replace hg : g32 = zof h el_X10_init_0_32 := hg
  refine zc_e (ev := (2, 0, 13, 47, 6, 0)) (E := el_X10_init_0_32) (st' := []) hg rfl (fun g33 hg => ?_)
  replace hg : g33 = zof h el_X10_init_0_33 := hg
  refine zwp.go (m := 1) (j := 72) (ls' := [some (zr ((0, 10, 0) : zF))]) (st' := [zr ((0, 10, 0) : zF)]) (h' := g33) rfl ?_
  refine zc_n (n := 50) (x := 0) (len := 0) (y := 1) (E := el_X10_init_0_33) (st' := [zr ((0, 10, 0) : zF)]) hg (by rw [hg, zof_len, hl]; rfl) rfl (fun g34 hg => ?_)
  replace hg : g34 = zof h el_X10_init_0_34 := hg
  refine zwp.go (m := 1) (j := 74) (ls' := [some (zr ((0, 10, 0) : zF))]) (st' := [zr ((50, 0, 0) : zF), zr ((50, 0, 0) : zF), zr ((0, 10, 0) : zF)]) (h' := g34) rfl ?_
  refine zc_c (F := e_X0_init_50) (E := el_X10_init_0_34) (rest := [zr ((50, 0, 0) : zF), zr ((0, 10, 0) : zF)]) hg (i_X0_init_50 _ g34 (by rw [hg, zof_len, hl]; rfl)) rfl rfl (fun g35 hg => ?_)
  replace hg : g35 = zof h el_X10_init_0_35 := hg
  refine zc_e (ev := (2, 0, 14, 50, 0, 0)) (E := el_X10_init_0_35) (st' := []) hg rfl (fun g36 hg => ?_)
  replace hg : g36 = zof h el_X10_init_0_36 := hg
  refine zwp.go (m := 2) (j := 78) (ls' := [some (zr ((0, 10, 0) : zF))]) (st' := [zi (8 : Int32), zr ((0, 10, 0) : zF)]) (h' := g36) rfl ?_
  refine zc_n (n := 51) (x := 20) (len := 8) (y := 8) (E := el_X10_init_0_36) (st' := [zr ((0, 10, 0) : zF)]) hg (by rw [hg, zof_len, hl]; rfl) rfl (fun g37 hg => ?_)
  replace hg : g37 = zof h el_X10_init_0_37 := hg
  refine zc_e (ev := (2, 0, 15, 51, 20, 8)) (E := el_X10_init_0_37) (st' := []) hg rfl (fun g38 hg => ?_)
  replace hg : g38 = zof h el_X10_init_0_38 := hg
  refine zwp.go (m := 1) (j := 81) (ls' := [some (zr ((0, 10, 0) : zF))]) (st' := [zr ((0, 10, 0) : zF)]) (h' := g38) rfl ?_
  refine zc_sr (r := ((18, 2, 0) : zF)) (a := 0) (y := 6) (by rw [hg]; rfl) rfl ?_
  refine zwp.go (m := 1) (j := 83) (ls' := [some (zr ((0, 10, 0) : zF))]) (st' := [zr ((0, 10, 0) : zF), zr ((18, 2, 0) : zF)]) (h' := g38) rfl ?_
  refine zc_sr (r := ((2, 3, 0) : zF)) (a := 0) (y := 3) (by rw [hg]; rfl) rfl ?_
  refine zc_c (F := [(1, 18, 7, 0, 0, 0), (1, 18, 6, 0, 0, 0), (1, 19, 8, 0, 0, 0), (1, 19, 7, 0, 0, 0), (1, 19, 6, 0, 0, 0), (1, 19, 5, 0, 0, 0), (1, 22, 1, 0, 0, 0), (1, 22, 0, 0, 0, 0), (4, 21, 5, 2, 0, 0), (4, 20, 3, 12, 0, 0)]) (E := el_X10_init_0_38) (rest := []) hg (zQv_v (n_X2_begin_ok _ (zR g38) 18 2 ⟨rfl, (by rw [hg]; rfl), (by rw [hg]; rfl), (by rw [hg]; rfl), (by rw [hg]; rfl), (by rw [hg]; rfl), (by rw [hg]; rfl), ⟨rfl, (by rw [hg]; rfl), (by rw [hg]; rfl), (by rw [hg]; rfl), (by rw [hg]; rfl), (by rw [hg]; rfl)⟩⟩ ⟨rfl, (by rw [hg]; rfl), (by rw [hg]; rfl), (by rw [hg]; rfl), (by rw [hg]; rfl), (by rw [hg]; rfl), (by rw [hg]; rfl)⟩ _ _ (fun _ _ _ => rfl) rfl)) rfl rfl (fun g39 hg => ?_)
  replace hg : g39 = zof h el_X10_init_0_39 := hg
  exact zwp.rv rfl ⟨rfl, hg⟩
