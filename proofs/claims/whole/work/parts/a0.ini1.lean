/-! ===== constructors, 1 ===== -/
def el_X5_init_7_0 : List zEv := []
def el_X5_init_7_1 : List zEv := (1, 7, 0, 0, 0, 0) :: el_X5_init_7_0
def el_X5_init_7_2 : List zEv := (1, 7, 1, 0, 0, 0) :: el_X5_init_7_1
def el_X5_init_7_3 : List zEv := (1, 7, 2, 0, 0, 0) :: el_X5_init_7_2
def e_X5_init_7 : List zEv := el_X5_init_7_3
set_option maxRecDepth 100000 in
theorem i_X5_init_7 (d : Nat) (h : zH) (hl : (zK h).length = 8) : zcl (d + 0) 0 [zr ((7, 5, 0) : zF)] h (zPv (zof h e_X5_init_7)) := by
  refine ⟨zm_X5_init, rfl, ?_⟩
  show zwp (d + 0) zm_X5_init 0 [some (zr ((7, 5, 0) : zF))] [] h _
  have hg : h = zof h el_X5_init_7_0 := rfl
  refine zwp.go (m := 4) (j := 4) (ls' := [some (zr ((7, 5, 0) : zF))]) (st' := [zi (0 : Int32), zr ((7, 5, 0) : zF)]) (h' := h) rfl ?_
  refine zc_e (ev := (1, 7, 0, 0, 0, 0)) (E := el_X5_init_7_0) (st' := []) hg rfl (fun g1 hg => ?_)
  replace hg : g1 = zof h el_X5_init_7_1 := hg
  refine zwp.go (m := 2) (j := 7) (ls' := [some (zr ((7, 5, 0) : zF))]) (st' := [zi (0 : Int32), zr ((7, 5, 0) : zF)]) (h' := g1) rfl ?_
  refine zc_e (ev := (1, 7, 1, 0, 0, 0)) (E := el_X5_init_7_1) (st' := []) hg rfl (fun g2 hg => ?_)
  replace hg : g2 = zof h el_X5_init_7_2 := hg
  refine zwp.go (m := 2) (j := 10) (ls' := [some (zr ((7, 5, 0) : zF))]) (st' := [zi (0 : Int32), zr ((7, 5, 0) : zF)]) (h' := g2) rfl ?_
  refine zc_e (ev := (1, 7, 2, 0, 0, 0)) (E := el_X5_init_7_2) (st' := []) hg rfl (fun g3 hg => ?_)
  replace hg : g3 = zof h el_X5_init_7_3 := hg
  exact zwp.rv rfl ⟨rfl, hg⟩
def el_X5_init_8_0 : List zEv := []
def el_X5_init_8_1 : List zEv := (1, 8, 0, 0, 0, 0) :: el_X5_init_8_0
def el_X5_init_8_2 : List zEv := (1, 8, 1, 0, 0, 0) :: el_X5_init_8_1
def el_X5_init_8_3 : List zEv := (1, 8, 2, 0, 0, 0) :: el_X5_init_8_2
def e_X5_init_8 : List zEv := el_X5_init_8_3
set_option maxRecDepth 100000 in
theorem i_X5_init_8 (d : Nat) (h : zH) (hl : (zK h).length = 9) : zcl (d + 0) 0 [zr ((8, 5, 0) : zF)] h (zPv (zof h e_X5_init_8)) := by
  refine ⟨zm_X5_init, rfl, ?_⟩
  show zwp (d + 0) zm_X5_init 0 [some (zr ((8, 5, 0) : zF))] [] h _
  have hg : h = zof h el_X5_init_8_0 := rfl
  refine zwp.go (m := 4) (j := 4) (ls' := [some (zr ((8, 5, 0) : zF))]) (st' := [zi (0 : Int32), zr ((8, 5, 0) : zF)]) (h' := h) rfl ?_
  refine zc_e (ev := (1, 8, 0, 0, 0, 0)) (E := el_X5_init_8_0) (st' := []) hg rfl (fun g1 hg => ?_)
  replace hg : g1 = zof h el_X5_init_8_1 := hg
  refine zwp.go (m := 2) (j := 7) (ls' := [some (zr ((8, 5, 0) : zF))]) (st' := [zi (0 : Int32), zr ((8, 5, 0) : zF)]) (h' := g1) rfl ?_
  refine zc_e (ev := (1, 8, 1, 0, 0, 0)) (E := el_X5_init_8_1) (st' := []) hg rfl (fun g2 hg => ?_)
  replace hg : g2 = zof h el_X5_init_8_2 := hg
  refine zwp.go (m := 2) (j := 10) (ls' := [some (zr ((8, 5, 0) : zF))]) (st' := [zi (0 : Int32), zr ((8, 5, 0) : zF)]) (h' := g2) rfl ?_
  refine zc_e (ev := (1, 8, 2, 0, 0, 0)) (E := el_X5_init_8_2) (st' := []) hg rfl (fun g3 hg => ?_)
  replace hg : g3 = zof h el_X5_init_8_3 := hg
  exact zwp.rv rfl ⟨rfl, hg⟩
def el_X3_init_2_0 : List zEv := []
def el_X3_init_2_1 : List zEv := (0, 20, 12, 12, 3, 0) :: el_X3_init_2_0
def el_X3_init_2_2 : List zEv := (2, 2, 0, 3, 20, 12) :: el_X3_init_2_1
def el_X3_init_2_3 : List zEv := (0, 20, 8, 8, 4, 0) :: el_X3_init_2_2
def el_X3_init_2_4 : List zEv := (2, 2, 1, 4, 20, 8) :: el_X3_init_2_3
def el_X3_init_2_5 : List zEv := (0, 20, 2, 2, 5, 0) :: el_X3_init_2_4
def el_X3_init_2_6 : List zEv := (2, 2, 2, 5, 20, 2) :: el_X3_init_2_5
def el_X3_init_2_7 : List zEv := (0, 20, 700, 700, 6, 0) :: el_X3_init_2_6
def el_X3_init_2_8 : List zEv := (2, 2, 3, 6, 20, 700) :: el_X3_init_2_7
def el_X3_init_2_9 : List zEv := (0, 5, 0, 3, 7, 0) :: el_X3_init_2_8
def el_X3_init_2_10 : List zEv := e_X5_init_7 ++ el_X3_init_2_9
def el_X3_init_2_11 : List zEv := (2, 2, 4, 7, 5, 0) :: el_X3_init_2_10
def el_X3_init_2_12 : List zEv := (0, 5, 0, 3, 8, 0) :: el_X3_init_2_11
def el_X3_init_2_13 : List zEv := e_X5_init_8 ++ el_X3_init_2_12
def el_X3_init_2_14 : List zEv := (2, 2, 5, 8, 5, 0) :: el_X3_init_2_13
def el_X3_init_2_15 : List zEv := (1, 2, 6, 0, 0, 0) :: el_X3_init_2_14
def el_X3_init_2_16 : List zEv := (1, 2, 7, 0, 0, 0) :: el_X3_init_2_15
def el_X3_init_2_17 : List zEv := (1, 2, 8, 0, 0, 0) :: el_X3_init_2_16
def el_X3_init_2_18 : List zEv := (1, 2, 9, 0, 0, 0) :: el_X3_init_2_17
def el_X3_init_2_19 : List zEv := (1, 2, 10, 0, 0, 0) :: el_X3_init_2_18
def el_X3_init_2_20 : List zEv := [(1, 2, 10, 0, 0, 0), (1, 2, 9, 0, 0, 0), (1, 2, 8, 0, 0, 0), (1, 2, 7, 0, 0, 0), (1, 2, 6, 0, 0, 0), (1, 8, 0, 0, 0, 0), (1, 7, 0, 0, 0, 0), (1, 5, 1, 3, 0, 0), (1, 5, 0, 3, 0, 0)] ++ el_X3_init_2_19
def e_X3_init_2 : List zEv := el_X3_init_2_20
set_option maxRecDepth 100000 in
theorem i_X3_init_2 (d : Nat) (h : zH) (hl : (zK h).length = 3) : zcl (d + 1) 2 [zr ((2, 3, 0) : zF)] h (zPv (zof h e_X3_init_2)) := by
  refine ⟨zm_X3_init, rfl, ?_⟩
  show zwp (d + 1) zm_X3_init 0 [some (zr ((2, 3, 0) : zF))] [] h _
  have hg : h = zof h el_X3_init_2_0 := rfl
  refine zwp.go (m := 4) (j := 4) (ls' := [some (zr ((2, 3, 0) : zF))]) (st' := [zi (12 : Int32), zr ((2, 3, 0) : zF)]) (h' := h) rfl ?_
  refine zc_n (n := 3) (x := 20) (len := 12) (y := 12) (E := el_X3_init_2_0) (st' := [zr ((2, 3, 0) : zF)]) hg (by rw [hg, zof_len, hl]; rfl) rfl (fun g1 hg => ?_)
  replace hg : g1 = zof h el_X3_init_2_1 := hg
  refine zc_e (ev := (2, 2, 0, 3, 20, 12)) (E := el_X3_init_2_1) (st' := []) hg rfl (fun g2 hg => ?_)
  replace hg : g2 = zof h el_X3_init_2_2 := hg
  refine zwp.go (m := 2) (j := 8) (ls' := [some (zr ((2, 3, 0) : zF))]) (st' := [zi (8 : Int32), zr ((2, 3, 0) : zF)]) (h' := g2) rfl ?_
  refine zc_n (n := 4) (x := 20) (len := 8) (y := 8) (E := el_X3_init_2_2) (st' := [zr ((2, 3, 0) : zF)]) hg (by rw [hg, zof_len, hl]; rfl) rfl (fun g3 hg => ?_)
  replace hg : g3 = zof h el_X3_init_2_3 := hg
  refine zc_e (ev := (2, 2, 1, 4, 20, 8)) (E := el_X3_init_2_3) (st' := []) hg rfl (fun g4 hg => ?_)
  replace hg : g4 = zof h el_X3_init_2_4 := hg
  refine zwp.go (m := 2) (j := 12) (ls' := [some (zr ((2, 3, 0) : zF))]) (st' := [zi (2 : Int32), zr ((2, 3, 0) : zF)]) (h' := g4) rfl ?_
  refine zc_n (n := 5) (x := 20) (len := 2) (y := 2) (E := el_X3_init_2_4) (st' := [zr ((2, 3, 0) : zF)]) hg (by rw [hg, zof_len, hl]; rfl) rfl (fun g5 hg => ?_)
  replace hg : g5 = zof h el_X3_init_2_5 := hg
  refine zc_e (ev := (2, 2, 2, 5, 20, 2)) (E := el_X3_init_2_5) (st' := []) hg rfl (fun g6 hg => ?_)
  replace hg : g6 = zof h el_X3_init_2_6 := hg
  refine zwp.go (m := 2) (j := 16) (ls' := [some (zr ((2, 3, 0) : zF))]) (st' := [zi (700 : Int32), zr ((2, 3, 0) : zF)]) (h' := g6) rfl ?_
  refine zc_n (n := 6) (x := 20) (len := 700) (y := 700) (E := el_X3_init_2_6) (st' := [zr ((2, 3, 0) : zF)]) hg (by rw [hg, zof_len, hl]; rfl) rfl (fun g7 hg => ?_)
  replace hg : g7 = zof h el_X3_init_2_7 := hg
  refine zc_e (ev := (2, 2, 3, 6, 20, 700)) (E := el_X3_init_2_7) (st' := []) hg rfl (fun g8 hg => ?_)
  replace hg : g8 = zof h el_X3_init_2_8 := hg
  refine zwp.go (m := 1) (j := 19) (ls' := [some (zr ((2, 3, 0) : zF))]) (st' := [zr ((2, 3, 0) : zF)]) (h' := g8) rfl ?_
  refine zc_n (n := 7) (x := 5) (len := 0) (y := 3) (E := el_X3_init_2_8) (st' := [zr ((2, 3, 0) : zF)]) hg (by rw [hg, zof_len, hl]; rfl) rfl (fun g9 hg => ?_)
  replace hg : g9 = zof h el_X3_init_2_9 := hg
  refine zwp.go (m := 1) (j := 21) (ls' := [some (zr ((2, 3, 0) : zF))]) (st' := [zr ((7, 5, 0) : zF), zr ((7, 5, 0) : zF), zr ((2, 3, 0) : zF)]) (h' := g9) rfl ?_
  refine zc_c (F := e_X5_init_7) (E := el_X3_init_2_9) (rest := [zr ((7, 5, 0) : zF), zr ((2, 3, 0) : zF)]) hg (i_X5_init_7 _ g9 (by rw [hg, zof_len, hl]; rfl)) rfl rfl (fun g10 hg => ?_)
  replace hg : g10 = zof h el_X3_init_2_10 := hg
  refine zc_e (ev := (2, 2, 4, 7, 5, 0)) (E := el_X3_init_2_10) (st' := []) hg rfl (fun g11 hg => ?_)
  replace hg : g11 = zof h el_X3_init_2_11 := hg
  refine zwp.go (m := 1) (j := 24) (ls' := [some (zr ((2, 3, 0) : zF))]) (st' := [zr ((2, 3, 0) : zF)]) (h' := g11) rfl ?_
  refine zc_n (n := 8) (x := 5) (len := 0) (y := 3) (E := el_X3_init_2_11) (st' := [zr ((2, 3, 0) : zF)]) hg (by rw [hg, zof_len, hl]; rfl) rfl (fun g12 hg => ?_)
  replace hg : g12 = zof h el_X3_init_2_12 := hg
  refine zwp.go (m := 1) (j := 26) (ls' := [some (zr ((2, 3, 0) : zF))]) (st' := [zr ((8, 5, 0) : zF), zr ((8, 5, 0) : zF), zr ((2, 3, 0) : zF)]) (h' := g12) rfl ?_
  refine zc_c (F := e_X5_init_8) (E := el_X3_init_2_12) (rest := [zr ((8, 5, 0) : zF), zr ((2, 3, 0) : zF)]) hg (i_X5_init_8 _ g12 (by rw [hg, zof_len, hl]; rfl)) rfl rfl (fun g13 hg => ?_)
  replace hg : g13 = zof h el_X3_init_2_13 := hg
  refine zc_e (ev := (2, 2, 5, 8, 5, 0)) (E := el_X3_init_2_13) (st' := []) hg rfl (fun g14 hg => ?_)
  replace hg : g14 = zof h el_X3_init_2_14 := hg
  refine zwp.go (m := 2) (j := 30) (ls' := [some (zr ((2, 3, 0) : zF))]) (st' := [zi (0 : Int32), zr ((2, 3, 0) : zF)]) (h' := g14) rfl ?_
  refine zc_e (ev := (1, 2, 6, 0, 0, 0)) (E := el_X3_init_2_14) (st' := []) hg rfl (fun g15 hg => ?_)
  replace hg : g15 = zof h el_X3_init_2_15 := hg
  refine zwp.go (m := 2) (j := 33) (ls' := [some (zr ((2, 3, 0) : zF))]) (st' := [zi (0 : Int32), zr ((2, 3, 0) : zF)]) (h' := g15) rfl ?_
  refine zc_e (ev := (1, 2, 7, 0, 0, 0)) (E := el_X3_init_2_15) (st' := []) hg rfl (fun g16 hg => ?_)
  replace hg : g16 = zof h el_X3_init_2_16 := hg
  refine zwp.go (m := 2) (j := 36) (ls' := [some (zr ((2, 3, 0) : zF))]) (st' := [zi (0 : Int32), zr ((2, 3, 0) : zF)]) (h' := g16) rfl ?_
  refine zc_e (ev := (1, 2, 8, 0, 0, 0)) (E := el_X3_init_2_16) (st' := []) hg rfl (fun g17 hg => ?_)
  replace hg : g17 = zof h el_X3_init_2_17 := hg
  refine zwp.go (m := 2) (j := 39) (ls' := [some (zr ((2, 3, 0) : zF))]) (st' := [zi (0 : Int32), zr ((2, 3, 0) : zF)]) (h' := g17) rfl ?_
  refine zc_e (ev := (1, 2, 9, 0, 0, 0)) (E := el_X3_init_2_17) (st' := []) hg rfl (fun g18 hg => ?_)
  replace hg : g18 = zof h el_X3_init_2_18 := hg
  refine zwp.go (m := 2) (j := 42) (ls' := [some (zr ((2, 3, 0) : zF))]) (st' := [zi (0 : Int32), zr ((2, 3, 0) : zF)]) (h' := g18) rfl ?_
  refine zc_e (ev := (1, 2, 10, 0, 0, 0)) (E := el_X3_init_2_18) (st' := []) hg rfl (fun g19 hg => ?_)
  replace hg : g19 = zof h el_X3_init_2_19 := hg
  refine zwp.go (m := 1) (j := 44) (ls' := [some (zr ((2, 3, 0) : zF))]) (st' := [zr ((2, 3, 0) : zF)]) (h' := g19) rfl ?_
  refine zc_c (F := [(1, 2, 10, 0, 0, 0), (1, 2, 9, 0, 0, 0), (1, 2, 8, 0, 0, 0), (1, 2, 7, 0, 0, 0), (1, 2, 6, 0, 0, 0), (1, 8, 0, 0, 0, 0), (1, 7, 0, 0, 0, 0), (1, 5, 1, 3, 0, 0), (1, 5, 0, 3, 0, 0)]) (E := el_X3_init_2_19) (rest := []) hg (zQv_v (n_X3_clear_ok _ (zR g19) 2 ⟨rfl, (by rw [hg]; rfl), (by rw [hg]; rfl), (by rw [hg]; rfl), (by rw [hg]; rfl), (by rw [hg]; rfl), (by rw [hg]; rfl)⟩ _ _ (fun _ _ _ => rfl) rfl)) rfl rfl (fun g20 hg => ?_)
  replace hg : g20 = zof h el_X3_init_2_20 := hg
  exact zwp.rv rfl ⟨rfl, hg⟩
def el_X5_init_14_0 : List zEv := []
def el_X5_init_14_1 : List zEv := (1, 14, 0, 0, 0, 0) :: el_X5_init_14_0
def el_X5_init_14_2 : List zEv := (1, 14, 1, 0, 0, 0) :: el_X5_init_14_1
def el_X5_init_14_3 : List zEv := (1, 14, 2, 0, 0, 0) :: el_X5_init_14_2
def e_X5_init_14 : List zEv := el_X5_init_14_3
set_option maxRecDepth 100000 in
theorem i_X5_init_14 (d : Nat) (h : zH) (hl : (zK h).length = 15) : zcl (d + 0) 0 [zr ((14, 5, 0) : zF)] h (zPv (zof h e_X5_init_14)) := by
  refine ⟨zm_X5_init, rfl, ?_⟩
  show zwp (d + 0) zm_X5_init 0 [some (zr ((14, 5, 0) : zF))] [] h _
  have hg : h = zof h el_X5_init_14_0 := rfl
  refine zwp.go (m := 4) (j := 4) (ls' := [some (zr ((14, 5, 0) : zF))]) (st' := [zi (0 : Int32), zr ((14, 5, 0) : zF)]) (h' := h) rfl ?_
  refine zc_e (ev := (1, 14, 0, 0, 0, 0)) (E := el_X5_init_14_0) (st' := []) hg rfl (fun g1 hg => ?_)
  replace hg : g1 = zof h el_X5_init_14_1 := hg
  refine zwp.go (m := 2) (j := 7) (ls' := [some (zr ((14, 5, 0) : zF))]) (st' := [zi (0 : Int32), zr ((14, 5, 0) : zF)]) (h' := g1) rfl ?_
  refine zc_e (ev := (1, 14, 1, 0, 0, 0)) (E := el_X5_init_14_1) (st' := []) hg rfl (fun g2 hg => ?_)
  replace hg : g2 = zof h el_X5_init_14_2 := hg
  refine zwp.go (m := 2) (j := 10) (ls' := [some (zr ((14, 5, 0) : zF))]) (st' := [zi (0 : Int32), zr ((14, 5, 0) : zF)]) (h' := g2) rfl ?_
  refine zc_e (ev := (1, 14, 2, 0, 0, 0)) (E := el_X5_init_14_2) (st' := []) hg rfl (fun g3 hg => ?_)
  replace hg : g3 = zof h el_X5_init_14_3 := hg
  exact zwp.rv rfl ⟨rfl, hg⟩
def el_X5_init_15_0 : List zEv := []
def el_X5_init_15_1 : List zEv := (1, 15, 0, 0, 0, 0) :: el_X5_init_15_0
def el_X5_init_15_2 : List zEv := (1, 15, 1, 0, 0, 0) :: el_X5_init_15_1
def el_X5_init_15_3 : List zEv := (1, 15, 2, 0, 0, 0) :: el_X5_init_15_2
def e_X5_init_15 : List zEv := el_X5_init_15_3
set_option maxRecDepth 100000 in
theorem i_X5_init_15 (d : Nat) (h : zH) (hl : (zK h).length = 16) : zcl (d + 0) 0 [zr ((15, 5, 0) : zF)] h (zPv (zof h e_X5_init_15)) := by
  refine ⟨zm_X5_init, rfl, ?_⟩
  show zwp (d + 0) zm_X5_init 0 [some (zr ((15, 5, 0) : zF))] [] h _
  have hg : h = zof h el_X5_init_15_0 := rfl
  refine zwp.go (m := 4) (j := 4) (ls' := [some (zr ((15, 5, 0) : zF))]) (st' := [zi (0 : Int32), zr ((15, 5, 0) : zF)]) (h' := h) rfl ?_
  refine zc_e (ev := (1, 15, 0, 0, 0, 0)) (E := el_X5_init_15_0) (st' := []) hg rfl (fun g1 hg => ?_)
  replace hg : g1 = zof h el_X5_init_15_1 := hg
  refine zwp.go (m := 2) (j := 7) (ls' := [some (zr ((15, 5, 0) : zF))]) (st' := [zi (0 : Int32), zr ((15, 5, 0) : zF)]) (h' := g1) rfl ?_
  refine zc_e (ev := (1, 15, 1, 0, 0, 0)) (E := el_X5_init_15_1) (st' := []) hg rfl (fun g2 hg => ?_)
  replace hg : g2 = zof h el_X5_init_15_2 := hg
  refine zwp.go (m := 2) (j := 10) (ls' := [some (zr ((15, 5, 0) : zF))]) (st' := [zi (0 : Int32), zr ((15, 5, 0) : zF)]) (h' := g2) rfl ?_
  refine zc_e (ev := (1, 15, 2, 0, 0, 0)) (E := el_X5_init_15_2) (st' := []) hg rfl (fun g3 hg => ?_)
  replace hg : g3 = zof h el_X5_init_15_3 := hg
  exact zwp.rv rfl ⟨rfl, hg⟩
def el_X3_init_9_0 : List zEv := []
def el_X3_init_9_1 : List zEv := (0, 20, 12, 12, 10, 0) :: el_X3_init_9_0
def el_X3_init_9_2 : List zEv := (2, 9, 0, 10, 20, 12) :: el_X3_init_9_1
def el_X3_init_9_3 : List zEv := (0, 20, 8, 8, 11, 0) :: el_X3_init_9_2
def el_X3_init_9_4 : List zEv := (2, 9, 1, 11, 20, 8) :: el_X3_init_9_3
def el_X3_init_9_5 : List zEv := (0, 20, 2, 2, 12, 0) :: el_X3_init_9_4
def el_X3_init_9_6 : List zEv := (2, 9, 2, 12, 20, 2) :: el_X3_init_9_5
def el_X3_init_9_7 : List zEv := (0, 20, 700, 700, 13, 0) :: el_X3_init_9_6
def el_X3_init_9_8 : List zEv := (2, 9, 3, 13, 20, 700) :: el_X3_init_9_7
def el_X3_init_9_9 : List zEv := (0, 5, 0, 3, 14, 0) :: el_X3_init_9_8
def el_X3_init_9_10 : List zEv := e_X5_init_14 ++ el_X3_init_9_9
def el_X3_init_9_11 : List zEv := (2, 9, 4, 14, 5, 0) :: el_X3_init_9_10
def el_X3_init_9_12 : List zEv := (0, 5, 0, 3, 15, 0) :: el_X3_init_9_11
def el_X3_init_9_13 : List zEv := e_X5_init_15 ++ el_X3_init_9_12
def el_X3_init_9_14 : List zEv := (2, 9, 5, 15, 5, 0) :: el_X3_init_9_13
def el_X3_init_9_15 : List zEv := (1, 9, 6, 0, 0, 0) :: el_X3_init_9_14
def el_X3_init_9_16 : List zEv := (1, 9, 7, 0, 0, 0) :: el_X3_init_9_15
def el_X3_init_9_17 : List zEv := (1, 9, 8, 0, 0, 0) :: el_X3_init_9_16
def el_X3_init_9_18 : List zEv := (1, 9, 9, 0, 0, 0) :: el_X3_init_9_17
def el_X3_init_9_19 : List zEv := (1, 9, 10, 0, 0, 0) :: el_X3_init_9_18
def el_X3_init_9_20 : List zEv := [(1, 9, 10, 0, 0, 0), (1, 9, 9, 0, 0, 0), (1, 9, 8, 0, 0, 0), (1, 9, 7, 0, 0, 0), (1, 9, 6, 0, 0, 0), (1, 15, 0, 0, 0, 0), (1, 14, 0, 0, 0, 0), (1, 12, 1, 3, 0, 0), (1, 12, 0, 3, 0, 0)] ++ el_X3_init_9_19
def e_X3_init_9 : List zEv := el_X3_init_9_20
set_option maxRecDepth 100000 in
theorem i_X3_init_9 (d : Nat) (h : zH) (hl : (zK h).length = 10) : zcl (d + 1) 2 [zr ((9, 3, 0) : zF)] h (zPv (zof h e_X3_init_9)) := by
  refine ⟨zm_X3_init, rfl, ?_⟩
  show zwp (d + 1) zm_X3_init 0 [some (zr ((9, 3, 0) : zF))] [] h _
  have hg : h = zof h el_X3_init_9_0 := rfl
  refine zwp.go (m := 4) (j := 4) (ls' := [some (zr ((9, 3, 0) : zF))]) (st' := [zi (12 : Int32), zr ((9, 3, 0) : zF)]) (h' := h) rfl ?_
  refine zc_n (n := 10) (x := 20) (len := 12) (y := 12) (E := el_X3_init_9_0) (st' := [zr ((9, 3, 0) : zF)]) hg (by rw [hg, zof_len, hl]; rfl) rfl (fun g1 hg => ?_)
  replace hg : g1 = zof h el_X3_init_9_1 := hg
  refine zc_e (ev := (2, 9, 0, 10, 20, 12)) (E := el_X3_init_9_1) (st' := []) hg rfl (fun g2 hg => ?_)
  replace hg : g2 = zof h el_X3_init_9_2 := hg
  refine zwp.go (m := 2) (j := 8) (ls' := [some (zr ((9, 3, 0) : zF))]) (st' := [zi (8 : Int32), zr ((9, 3, 0) : zF)]) (h' := g2) rfl ?_
  refine zc_n (n := 11) (x := 20) (len := 8) (y := 8) (E := el_X3_init_9_2) (st' := [zr ((9, 3, 0) : zF)]) hg (by rw [hg, zof_len, hl]; rfl) rfl (fun g3 hg => ?_)
  replace hg : g3 = zof h el_X3_init_9_3 := hg
  refine zc_e (ev := (2, 9, 1, 11, 20, 8)) (E := el_X3_init_9_3) (st' := []) hg rfl (fun g4 hg => ?_)
  replace hg : g4 = zof h el_X3_init_9_4 := hg
  refine zwp.go (m := 2) (j := 12) (ls' := [some (zr ((9, 3, 0) : zF))]) (st' := [zi (2 : Int32), zr ((9, 3, 0) : zF)]) (h' := g4) rfl ?_
  refine zc_n (n := 12) (x := 20) (len := 2) (y := 2) (E := el_X3_init_9_4) (st' := [zr ((9, 3, 0) : zF)]) hg (by rw [hg, zof_len, hl]; rfl) rfl (fun g5 hg => ?_)
  replace hg : g5 = zof h el_X3_init_9_5 := hg
  refine zc_e (ev := (2, 9, 2, 12, 20, 2)) (E := el_X3_init_9_5) (st' := []) hg rfl (fun g6 hg => ?_)
  replace hg : g6 = zof h el_X3_init_9_6 := hg
  refine zwp.go (m := 2) (j := 16) (ls' := [some (zr ((9, 3, 0) : zF))]) (st' := [zi (700 : Int32), zr ((9, 3, 0) : zF)]) (h' := g6) rfl ?_
  refine zc_n (n := 13) (x := 20) (len := 700) (y := 700) (E := el_X3_init_9_6) (st' := [zr ((9, 3, 0) : zF)]) hg (by rw [hg, zof_len, hl]; rfl) rfl (fun g7 hg => ?_)
  replace hg : g7 = zof h el_X3_init_9_7 := hg
  refine zc_e (ev := (2, 9, 3, 13, 20, 700)) (E := el_X3_init_9_7) (st' := []) hg rfl (fun g8 hg => ?_)
  replace hg : g8 = zof h el_X3_init_9_8 := hg
  refine zwp.go (m := 1) (j := 19) (ls' := [some (zr ((9, 3, 0) : zF))]) (st' := [zr ((9, 3, 0) : zF)]) (h' := g8) rfl ?_
  refine zc_n (n := 14) (x := 5) (len := 0) (y := 3) (E := el_X3_init_9_8) (st' := [zr ((9, 3, 0) : zF)]) hg (by rw [hg, zof_len, hl]; rfl) rfl (fun g9 hg => ?_)
  replace hg : g9 = zof h el_X3_init_9_9 := hg
  refine zwp.go (m := 1) (j := 21) (ls' := [some (zr ((9, 3, 0) : zF))]) (st' := [zr ((14, 5, 0) : zF), zr ((14, 5, 0) : zF), zr ((9, 3, 0) : zF)]) (h' := g9) rfl ?_
  refine zc_c (F := e_X5_init_14) (E := el_X3_init_9_9) (rest := [zr ((14, 5, 0) : zF), zr ((9, 3, 0) : zF)]) hg (i_X5_init_14 _ g9 (by rw [hg, zof_len, hl]; rfl)) rfl rfl (fun g10 hg => ?_)
  replace hg : g10 = zof h el_X3_init_9_10 := hg
  refine zc_e (ev := (2, 9, 4, 14, 5, 0)) (E := el_X3_init_9_10) (st' := []) hg rfl (fun g11 hg => ?_)
  replace hg : g11 = zof h el_X3_init_9_11 := hg
  refine zwp.go (m := 1) (j := 24) (ls' := [some (zr ((9, 3, 0) : zF))]) (st' := [zr ((9, 3, 0) : zF)]) (h' := g11) rfl ?_
  refine zc_n (n := 15) (x := 5) (len := 0) (y := 3) (E := el_X3_init_9_11) (st' := [zr ((9, 3, 0) : zF)]) hg (by rw [hg, zof_len, hl]; rfl) rfl (fun g12 hg => ?_)
  replace hg : g12 = zof h el_X3_init_9_12 := hg
  refine zwp.go (m := 1) (j := 26) (ls' := [some (zr ((9, 3, 0) : zF))]) (st' := [zr ((15, 5, 0) : zF), zr ((15, 5, 0) : zF), zr ((9, 3, 0) : zF)]) (h' := g12) rfl ?_
  refine zc_c (F := e_X5_init_15) (E := el_X3_init_9_12) (rest := [zr ((15, 5, 0) : zF), zr ((9, 3, 0) : zF)]) hg (i_X5_init_15 _ g12 (by rw [hg, zof_len, hl]; rfl)) rfl rfl (fun g13 hg => ?_)
  replace hg : g13 = zof h el_X3_init_9_13 := hg
  refine zc_e (ev := (2, 9, 5, 15, 5, 0)) (E := el_X3_init_9_13) (st' := []) hg rfl (fun g14 hg => ?_)
  replace hg : g14 = zof h el_X3_init_9_14 := hg
  refine zwp.go (m := 2) (j := 30) (ls' := [some (zr ((9, 3, 0) : zF))]) (st' := [zi (0 : Int32), zr ((9, 3, 0) : zF)]) (h' := g14) rfl ?_
  refine zc_e (ev := (1, 9, 6, 0, 0, 0)) (E := el_X3_init_9_14) (st' := []) hg rfl (fun g15 hg => ?_)
  replace hg : g15 = zof h el_X3_init_9_15 := hg
  refine zwp.go (m := 2) (j := 33) (ls' := [some (zr ((9, 3, 0) : zF))]) (st' := [zi (0 : Int32), zr ((9, 3, 0) : zF)]) (h' := g15) rfl ?_
  refine zc_e (ev := (1, 9, 7, 0, 0, 0)) (E := el_X3_init_9_15) (st' := []) hg rfl (fun g16 hg => ?_)
  replace hg : g16 = zof h el_X3_init_9_16 := hg
  refine zwp.go (m := 2) (j := 36) (ls' := [some (zr ((9, 3, 0) : zF))]) (st' := [zi (0 : Int32), zr ((9, 3, 0) : zF)]) (h' := g16) rfl ?_
  refine zc_e (ev := (1, 9, 8, 0, 0, 0)) (E := el_X3_init_9_16) (st' := []) hg rfl (fun g17 hg => ?_)
  replace hg : g17 = zof h el_X3_init_9_17 := hg
  refine zwp.go (m := 2) (j := 39) (ls' := [some (zr ((9, 3, 0) : zF))]) (st' := [zi (0 : Int32), zr ((9, 3, 0) : zF)]) (h' := g17) rfl ?_
  refine zc_e (ev := (1, 9, 9, 0, 0, 0)) (E := el_X3_init_9_17) (st' := []) hg rfl (fun g18 hg => ?_)
  replace hg : g18 = zof h el_X3_init_9_18 := hg
  refine zwp.go (m := 2) (j := 42) (ls' := [some (zr ((9, 3, 0) : zF))]) (st' := [zi (0 : Int32), zr ((9, 3, 0) : zF)]) (h' := g18) rfl ?_
  refine zc_e (ev := (1, 9, 10, 0, 0, 0)) (E := el_X3_init_9_18) (st' := []) hg rfl (fun g19 hg => ?_)
  replace hg : g19 = zof h el_X3_init_9_19 := hg
  refine zwp.go (m := 1) (j := 44) (ls' := [some (zr ((9, 3, 0) : zF))]) (st' := [zr ((9, 3, 0) : zF)]) (h' := g19) rfl ?_
  refine zc_c (F := [(1, 9, 10, 0, 0, 0), (1, 9, 9, 0, 0, 0), (1, 9, 8, 0, 0, 0), (1, 9, 7, 0, 0, 0), (1, 9, 6, 0, 0, 0), (1, 15, 0, 0, 0, 0), (1, 14, 0, 0, 0, 0), (1, 12, 1, 3, 0, 0), (1, 12, 0, 3, 0, 0)]) (E := el_X3_init_9_19) (rest := []) hg (zQv_v (n_X3_clear_ok _ (zR g19) 9 ⟨rfl, (by rw [hg]; rfl), (by rw [hg]; rfl), (by rw [hg]; rfl), (by rw [hg]; rfl), (by rw [hg]; rfl), (by rw [hg]; rfl)⟩ _ _ (fun _ _ _ => rfl) rfl)) rfl rfl (fun g20 hg => ?_)
  replace hg : g20 = zof h el_X3_init_9_20 := hg
  exact zwp.rv rfl ⟨rfl, hg⟩
def el_X4_init_16_0 : List zEv := []
def el_X4_init_16_1 : List zEv := (1, 16, 1, 0, 0, 0) :: el_X4_init_16_0
def el_X4_init_16_2 : List zEv := (1, 16, 3, 0, 0, 0) :: el_X4_init_16_1
def el_X4_init_16_3 : List zEv := (1, 16, 4, 0, 0, 0) :: el_X4_init_16_2
def el_X4_init_16_4 : List zEv := (1, 16, 5, 0, 0, 0) :: el_X4_init_16_3
def el_X4_init_16_5 : List zEv := (1, 16, 6, 0, 0, 0) :: el_X4_init_16_4
def el_X4_init_16_6 : List zEv := (0, 20, 100, 100, 17, 0) :: el_X4_init_16_5
def el_X4_init_16_7 : List zEv := (2, 16, 7, 17, 20, 100) :: el_X4_init_16_6
def el_X4_init_16_8 : List zEv := (1, 16, 8, 0, 0, 0) :: el_X4_init_16_7
def el_X4_init_16_9 : List zEv := (1, 16, 9, 0, 0, 0) :: el_X4_init_16_8
def el_X4_init_16_10 : List zEv := (1, 16, 10, 0, 0, 0) :: el_X4_init_16_9
def el_X4_init_16_11 : List zEv := (1, 16, 11, 0, 0, 0) :: el_X4_init_16_10
def el_X4_init_16_12 : List zEv := (1, 16, 12, 0, 0, 0) :: el_X4_init_16_11
def el_X4_init_16_13 : List zEv := (1, 16, 13, 0, 0, 0) :: el_X4_init_16_12
def el_X4_init_16_14 : List zEv := (1, 16, 14, 0, 0, 0) :: el_X4_init_16_13
def el_X4_init_16_15 : List zEv := (2, 16, 0, 1, 21, 700) :: el_X4_init_16_14
def el_X4_init_16_16 : List zEv := (2, 16, 2, 9, 3, 0) :: el_X4_init_16_15
def e_X4_init_16 : List zEv := el_X4_init_16_16
set_option maxRecDepth 100000 in
theorem i_X4_init_16 (d : Nat) (h : zH) (hl : (zK h).length = 17) : zcl (d + 0) 3 [zr ((16, 4, 0) : zF), zr ((1, 21, 700) : zF), zr ((9, 3, 0) : zF)] h (zPv (zof h e_X4_init_16)) := by
  refine ⟨zm_X4_init, rfl, ?_⟩
  show zwp (d + 0) zm_X4_init 0 [some (zr ((16, 4, 0) : zF)), some (zr ((1, 21, 700) : zF)), some (zr ((9, 3, 0) : zF))] [] h _
  have hg : h = zof h el_X4_init_16_0 := rfl
  refine zwp.go (m := 4) (j := 4) (ls' := [some (zr ((16, 4, 0) : zF)), some (zr ((1, 21, 700) : zF)), some (zr ((9, 3, 0) : zF))]) (st' := [zi (0 : Int32), zr ((16, 4, 0) : zF)]) (h' := h) rfl ?_
  refine zc_e (ev := (1, 16, 1, 0, 0, 0)) (E := el_X4_init_16_0) (st' := []) hg rfl (fun g1 hg => ?_)
  replace hg : g1 = zof h el_X4_init_16_1 := hg
  refine zwp.go (m := 2) (j := 7) (ls' := [some (zr ((16, 4, 0) : zF)), some (zr ((1, 21, 700) : zF)), some (zr ((9, 3, 0) : zF))]) (st' := [zi (0 : Int32), zr ((16, 4, 0) : zF)]) (h' := g1) rfl ?_
  refine zc_e (ev := (1, 16, 3, 0, 0, 0)) (E := el_X4_init_16_1) (st' := []) hg rfl (fun g2 hg => ?_)
  replace hg : g2 = zof h el_X4_init_16_2 := hg
  refine zwp.go (m := 2) (j := 10) (ls' := [some (zr ((16, 4, 0) : zF)), some (zr ((1, 21, 700) : zF)), some (zr ((9, 3, 0) : zF))]) (st' := [zi (0 : Int32), zr ((16, 4, 0) : zF)]) (h' := g2) rfl ?_
  refine zc_e (ev := (1, 16, 4, 0, 0, 0)) (E := el_X4_init_16_2) (st' := []) hg rfl (fun g3 hg => ?_)
  replace hg : g3 = zof h el_X4_init_16_3 := hg
  refine zwp.go (m := 2) (j := 13) (ls' := [some (zr ((16, 4, 0) : zF)), some (zr ((1, 21, 700) : zF)), some (zr ((9, 3, 0) : zF))]) (st' := [zi (0 : Int32), zr ((16, 4, 0) : zF)]) (h' := g3) rfl ?_
  refine zc_e (ev := (1, 16, 5, 0, 0, 0)) (E := el_X4_init_16_3) (st' := []) hg rfl (fun g4 hg => ?_)
  replace hg : g4 = zof h el_X4_init_16_4 := hg
  refine zwp.go (m := 2) (j := 16) (ls' := [some (zr ((16, 4, 0) : zF)), some (zr ((1, 21, 700) : zF)), some (zr ((9, 3, 0) : zF))]) (st' := [zi (0 : Int32), zr ((16, 4, 0) : zF)]) (h' := g4) rfl ?_
  refine zc_e (ev := (1, 16, 6, 0, 0, 0)) (E := el_X4_init_16_4) (st' := []) hg rfl (fun g5 hg => ?_)
  replace hg : g5 = zof h el_X4_init_16_5 := hg
  refine zwp.go (m := 2) (j := 19) (ls' := [some (zr ((16, 4, 0) : zF)), some (zr ((1, 21, 700) : zF)), some (zr ((9, 3, 0) : zF))]) (st' := [zi (100 : Int32), zr ((16, 4, 0) : zF)]) (h' := g5) rfl ?_
  refine zc_n (n := 17) (x := 20) (len := 100) (y := 100) (E := el_X4_init_16_5) (st' := [zr ((16, 4, 0) : zF)]) hg (by rw [hg, zof_len, hl]; rfl) rfl (fun g6 hg => ?_)
  replace hg : g6 = zof h el_X4_init_16_6 := hg
  refine zc_e (ev := (2, 16, 7, 17, 20, 100)) (E := el_X4_init_16_6) (st' := []) hg rfl (fun g7 hg => ?_)
  replace hg : g7 = zof h el_X4_init_16_7 := hg
  refine zwp.go (m := 2) (j := 23) (ls' := [some (zr ((16, 4, 0) : zF)), some (zr ((1, 21, 700) : zF)), some (zr ((9, 3, 0) : zF))]) (st' := [zi (0 : Int32), zr ((16, 4, 0) : zF)]) (h' := g7) rfl ?_
  refine zc_e (ev := (1, 16, 8, 0, 0, 0)) (E := el_X4_init_16_7) (st' := []) hg rfl (fun g8 hg => ?_)
  replace hg : g8 = zof h el_X4_init_16_8 := hg
  refine zwp.go (m := 2) (j := 26) (ls' := [some (zr ((16, 4, 0) : zF)), some (zr ((1, 21, 700) : zF)), some (zr ((9, 3, 0) : zF))]) (st' := [zi (0 : Int32), zr ((16, 4, 0) : zF)]) (h' := g8) rfl ?_
  refine zc_e (ev := (1, 16, 9, 0, 0, 0)) (E := el_X4_init_16_8) (st' := []) hg rfl (fun g9 hg => ?_)
  replace hg : g9 = zof h el_X4_init_16_9 := hg
  refine zwp.go (m := 2) (j := 29) (ls' := [some (zr ((16, 4, 0) : zF)), some (zr ((1, 21, 700) : zF)), some (zr ((9, 3, 0) : zF))]) (st' := [zi (0 : Int32), zr ((16, 4, 0) : zF)]) (h' := g9) rfl ?_
  refine zc_e (ev := (1, 16, 10, 0, 0, 0)) (E := el_X4_init_16_9) (st' := []) hg rfl (fun g10 hg => ?_)
  replace hg : g10 = zof h el_X4_init_16_10 := hg
  refine zwp.go (m := 2) (j := 32) (ls' := [some (zr ((16, 4, 0) : zF)), some (zr ((1, 21, 700) : zF)), some (zr ((9, 3, 0) : zF))]) (st' := [zi (0 : Int32), zr ((16, 4, 0) : zF)]) (h' := g10) rfl ?_
  refine zc_e (ev := (1, 16, 11, 0, 0, 0)) (E := el_X4_init_16_10) (st' := []) hg rfl (fun g11 hg => ?_)
  replace hg : g11 = zof h el_X4_init_16_11 := hg
  refine zwp.go (m := 2) (j := 35) (ls' := [some (zr ((16, 4, 0) : zF)), some (zr ((1, 21, 700) : zF)), some (zr ((9, 3, 0) : zF))]) (st' := [zi (0 : Int32), zr ((16, 4, 0) : zF)]) (h' := g11) rfl ?_
  refine zc_e (ev := (1, 16, 12, 0, 0, 0)) (E := el_X4_init_16_11) (st' := []) hg rfl (fun g12 hg => ?_)
  replace hg : g12 = zof h el_X4_init_16_12 := hg
  refine zwp.go (m := 2) (j := 38) (ls' := [some (zr ((16, 4, 0) : zF)), some (zr ((1, 21, 700) : zF)), some (zr ((9, 3, 0) : zF))]) (st' := [zi (0 : Int32), zr ((16, 4, 0) : zF)]) (h' := g12) rfl ?_
  refine zc_e (ev := (1, 16, 13, 0, 0, 0)) (E := el_X4_init_16_12) (st' := []) hg rfl (fun g13 hg => ?_)
  replace hg : g13 = zof h el_X4_init_16_13 := hg
  refine zwp.go (m := 2) (j := 41) (ls' := [some (zr ((16, 4, 0) : zF)), some (zr ((1, 21, 700) : zF)), some (zr ((9, 3, 0) : zF))]) (st' := [zi (0 : Int32), zr ((16, 4, 0) : zF)]) (h' := g13) rfl ?_
  refine zc_e (ev := (1, 16, 14, 0, 0, 0)) (E := el_X4_init_16_13) (st' := []) hg rfl (fun g14 hg => ?_)
  replace hg : g14 = zof h el_X4_init_16_14 := hg
  refine zwp.go (m := 2) (j := 44) (ls' := [some (zr ((16, 4, 0) : zF)), some (zr ((1, 21, 700) : zF)), some (zr ((9, 3, 0) : zF))]) (st' := [zr ((1, 21, 700) : zF), zr ((16, 4, 0) : zF)]) (h' := g14) rfl ?_
  refine zc_e (ev := (2, 16, 0, 1, 21, 700)) (E := el_X4_init_16_14) (st' := []) hg rfl (fun g15 hg => ?_)
  replace hg : g15 = zof h el_X4_init_16_15 := hg
  refine zwp.go (m := 2) (j := 47) (ls' := [some (zr ((16, 4, 0) : zF)), some (zr ((1, 21, 700) : zF)), some (zr ((9, 3, 0) : zF))]) (st' := [zr ((9, 3, 0) : zF), zr ((16, 4, 0) : zF)]) (h' := g15) rfl ?_
  refine zc_e (ev := (2, 16, 2, 9, 3, 0)) (E := el_X4_init_16_15) (st' := []) hg rfl (fun g16 hg => ?_)
  replace hg : g16 = zof h el_X4_init_16_16 := hg
  exact zwp.rv rfl ⟨rfl, hg⟩
def el_X8_init_19_0 : List zEv := []
def el_X8_init_19_1 : List zEv := (0, 20, 12, 12, 20, 0) :: el_X8_init_19_0
def el_X8_init_19_2 : List zEv := (2, 19, 0, 20, 20, 12) :: el_X8_init_19_1
def el_X8_init_19_3 : List zEv := (0, 20, 2, 2, 21, 0) :: el_X8_init_19_2
def el_X8_init_19_4 : List zEv := (2, 19, 1, 21, 20, 2) :: el_X8_init_19_3
def el_X8_init_19_5 : List zEv := (0, 20, 2, 2, 22, 0) :: el_X8_init_19_4
def el_X8_init_19_6 : List zEv := (2, 19, 2, 22, 20, 2) :: el_X8_init_19_5
def el_X8_init_19_7 : List zEv := (0, 20, 9, 9, 23, 0) :: el_X8_init_19_6
def el_X8_init_19_8 : List zEv := (2, 19, 3, 23, 20, 9) :: el_X8_init_19_7
def el_X8_init_19_9 : List zEv := (0, 20, 9, 9, 24, 0) :: el_X8_init_19_8
def el_X8_init_19_10 : List zEv := (2, 19, 4, 24, 20, 9) :: el_X8_init_19_9
def el_X8_init_19_11 : List zEv := (1, 19, 5, 0, 0, 0) :: el_X8_init_19_10
def el_X8_init_19_12 : List zEv := (1, 19, 6, 0, 0, 0) :: el_X8_init_19_11
def el_X8_init_19_13 : List zEv := (1, 19, 7, 0, 0, 0) :: el_X8_init_19_12
def el_X8_init_19_14 : List zEv := (1, 19, 8, 0, 0, 0) :: el_X8_init_19_13
def e_X8_init_19 : List zEv := el_X8_init_19_14
set_option maxRecDepth 100000 in
theorem i_X8_init_19 (d : Nat) (h : zH) (hl : (zK h).length = 20) : zcl (d + 0) 4 [zr ((19, 8, 0) : zF)] h (zPv (zof h e_X8_init_19)) := by
  refine ⟨zm_X8_init, rfl, ?_⟩
  show zwp (d + 0) zm_X8_init 0 [some (zr ((19, 8, 0) : zF))] [] h _
  have hg : h = zof h el_X8_init_19_0 := rfl
  refine zwp.go (m := 4) (j := 4) (ls' := [some (zr ((19, 8, 0) : zF))]) (st' := [zi (12 : Int32), zr ((19, 8, 0) : zF)]) (h' := h) rfl ?_
  refine zc_n (n := 20) (x := 20) (len := 12) (y := 12) (E := el_X8_init_19_0) (st' := [zr ((19, 8, 0) : zF)]) hg (by rw [hg, zof_len, hl]; rfl) rfl (fun g1 hg => ?_)
  replace hg : g1 = zof h el_X8_init_19_1 := hg
  refine zc_e (ev := (2, 19, 0, 20, 20, 12)) (E := el_X8_init_19_1) (st' := []) hg rfl (fun g2 hg => ?_)
  replace hg : g2 = zof h el_X8_init_19_2 := hg
  refine zwp.go (m := 2) (j := 8) (ls' := [some (zr ((19, 8, 0) : zF))]) (st' := [zi (2 : Int32), zr ((19, 8, 0) : zF)]) (h' := g2) rfl ?_
  refine zc_n (n := 21) (x := 20) (len := 2) (y := 2) (E := el_X8_init_19_2) (st' := [zr ((19, 8, 0) : zF)]) hg (by rw [hg, zof_len, hl]; rfl) rfl (fun g3 hg => ?_)
  replace hg : g3 = zof h el_X8_init_19_3 := hg
  refine zc_e (ev := (2, 19, 1, 21, 20, 2)) (E := el_X8_init_19_3) (st' := []) hg rfl (fun g4 hg => ?_)
  replace hg : g4 = zof h el_X8_init_19_4 := hg
  refine zwp.go (m := 2) (j := 12) (ls' := [some (zr ((19, 8, 0) : zF))]) (st' := [zi (2 : Int32), zr ((19, 8, 0) : zF)]) (h' := g4) rfl ?_
  refine zc_n (n := 22) (x := 20) (len := 2) (y := 2) (E := el_X8_init_19_4) (st' := [zr ((19, 8, 0) : zF)]) hg (by rw [hg, zof_len, hl]; rfl) rfl (fun g5 hg => ?_)
  replace hg : g5 = zof h el_X8_init_19_5 := hg
  refine zc_e (ev := (2, 19, 2, 22, 20, 2)) (E := el_X8_init_19_5) (st' := []) hg rfl (fun g6 hg => ?_)
  replace hg : g6 = zof h el_X8_init_19_6 := hg
  refine zwp.go (m := 2) (j := 16) (ls' := [some (zr ((19, 8, 0) : zF))]) (st' := [zi (9 : Int32), zr ((19, 8, 0) : zF)]) (h' := g6) rfl ?_
  refine zc_n (n := 23) (x := 20) (len := 9) (y := 9) (E := el_X8_init_19_6) (st' := [zr ((19, 8, 0) : zF)]) hg (by rw [hg, zof_len, hl]; rfl) rfl (fun g7 hg => ?_)
  replace hg : g7 = zof h el_X8_init_19_7 := hg
  refine zc_e (ev := (2, 19, 3, 23, 20, 9)) (E := el_X8_init_19_7) (st' := []) hg rfl (fun g8 hg => ?_)
  replace hg : g8 = zof h el_X8_init_19_8 := hg
  refine zwp.go (m := 2) (j := 20) (ls' := [some (zr ((19, 8, 0) : zF))]) (st' := [zi (9 : Int32), zr ((19, 8, 0) : zF)]) (h' := g8) rfl ?_
  refine zc_n (n := 24) (x := 20) (len := 9) (y := 9) (E := el_X8_init_19_8) (st' := [zr ((19, 8, 0) : zF)]) hg (by rw [hg, zof_len, hl]; rfl) rfl (fun g9 hg => ?_)
  replace hg : g9 = zof h el_X8_init_19_9 := hg
  refine zc_e (ev := (2, 19, 4, 24, 20, 9)) (E := el_X8_init_19_9) (st' := []) hg rfl (fun g10 hg => ?_)
  replace hg : g10 = zof h el_X8_init_19_10 := hg
  refine zwp.go (m := 2) (j := 24) (ls' := [some (zr ((19, 8, 0) : zF))]) (st' := [zi (0 : Int32), zr ((19, 8, 0) : zF)]) (h' := g10) rfl ?_
  refine zc_e (ev := (1, 19, 5, 0, 0, 0)) (E := el_X8_init_19_10) (st' := []) hg rfl (fun g11 hg => ?_)
  replace hg : g11 = zof h el_X8_init_19_11 := hg
  refine zwp.go (m := 2) (j := 27) (ls' := [some (zr ((19, 8, 0) : zF))]) (st' := [zi (0 : Int32), zr ((19, 8, 0) : zF)]) (h' := g11) rfl ?_
  refine zc_e (ev := (1, 19, 6, 0, 0, 0)) (E := el_X8_init_19_11) (st' := []) hg rfl (fun g12 hg => ?_)
  replace hg : g12 = zof h el_X8_init_19_12 := hg
  refine zwp.go (m := 2) (j := 30) (ls' := [some (zr ((19, 8, 0) : zF))]) (st' := [zi (0 : Int32), zr ((19, 8, 0) : zF)]) (h' := g12) rfl ?_
  refine zc_e (ev := (1, 19, 7, 0, 0, 0)) (E := el_X8_init_19_12) (st' := []) hg rfl (fun g13 hg => ?_)
  replace hg : g13 = zof h el_X8_init_19_13 := hg
  refine zwp.go (m := 2) (j := 33) (ls' := [some (zr ((19, 8, 0) : zF))]) (st' := [zi (0 : Int32), zr ((19, 8, 0) : zF)]) (h' := g13) rfl ?_
  refine zc_e (ev := (1, 19, 8, 0, 0, 0)) (E := el_X8_init_19_13) (st' := []) hg rfl (fun g14 hg => ?_)
  replace hg : g14 = zof h el_X8_init_19_14 := hg
  exact zwp.rv rfl ⟨rfl, hg⟩
def el_X2_init_18_0 : List zEv := []
def el_X2_init_18_1 : List zEv := (0, 8, 0, 9, 19, 0) :: el_X2_init_18_0
def el_X2_init_18_2 : List zEv := e_X8_init_19 ++ el_X2_init_18_1
def el_X2_init_18_3 : List zEv := (2, 18, 0, 19, 8, 0) :: el_X2_init_18_2
def el_X2_init_18_4 : List zEv := (0, 20, 8, 8, 25, 0) :: el_X2_init_18_3
def el_X2_init_18_5 : List zEv := (2, 18, 1, 25, 20, 8) :: el_X2_init_18_4
def el_X2_init_18_6 : List zEv := (0, 20, 8, 8, 26, 0) :: el_X2_init_18_5
def el_X2_init_18_7 : List zEv := (2, 18, 2, 26, 20, 8) :: el_X2_init_18_6
def el_X2_init_18_8 : List zEv := (0, 22, 8, 8, 27, 0) :: el_X2_init_18_7
def el_X2_init_18_9 : List zEv := (2, 18, 3, 27, 22, 8) :: el_X2_init_18_8
def el_X2_init_18_10 : List zEv := (0, 20, 3, 3, 28, 0) :: el_X2_init_18_9
def el_X2_init_18_11 : List zEv := (2, 18, 4, 28, 20, 3) :: el_X2_init_18_10
def el_X2_init_18_12 : List zEv := (0, 20, 1520, 1520, 29, 0) :: el_X2_init_18_11
def el_X2_init_18_13 : List zEv := (2, 18, 5, 29, 20, 1520) :: el_X2_init_18_12
def el_X2_init_18_14 : List zEv := (1, 18, 6, 0, 0, 0) :: el_X2_init_18_13
def el_X2_init_18_15 : List zEv := (1, 18, 7, 0, 0, 0) :: el_X2_init_18_14
def e_X2_init_18 : List zEv := el_X2_init_18_15
set_option maxRecDepth 100000 in
theorem i_X2_init_18 (d : Nat) (h : zH) (hl : (zK h).length = 19) : zcl (d + 1) 5 [zr ((18, 2, 0) : zF)] h (zPv (zof h e_X2_init_18)) := by
  refine ⟨zm_X2_init, rfl, ?_⟩
  show zwp (d + 1) zm_X2_init 0 [some (zr ((18, 2, 0) : zF))] [] h _
  have hg : h = zof h el_X2_init_18_0 := rfl
  refine zwp.go (m := 3) (j := 3) (ls' := [some (zr ((18, 2, 0) : zF))]) (st' := [zr ((18, 2, 0) : zF)]) (h' := h) rfl ?_
  refine zc_n (n := 19) (x := 8) (len := 0) (y := 9) (E := el_X2_init_18_0) (st' := [zr ((18, 2, 0) : zF)]) hg (by rw [hg, zof_len, hl]; rfl) rfl (fun g1 hg => ?_)
  replace hg : g1 = zof h el_X2_init_18_1 := hg
  refine zwp.go (m := 1) (j := 5) (ls' := [some (zr ((18, 2, 0) : zF))]) (st' := [zr ((19, 8, 0) : zF), zr ((19, 8, 0) : zF), zr ((18, 2, 0) : zF)]) (h' := g1) rfl ?_
  refine zc_c (F := e_X8_init_19) (E := el_X2_init_18_1) (rest := [zr ((19, 8, 0) : zF), zr ((18, 2, 0) : zF)]) hg (i_X8_init_19 _ g1 (by rw [hg, zof_len, hl]; rfl)) rfl rfl (fun g2 hg => ?_)
  replace hg : g2 = zof h el_X2_init_18_2 := hg
  refine zc_e (ev := (2, 18, 0, 19, 8, 0)) (E := el_X2_init_18_2) (st' := []) hg rfl (fun g3 hg => ?_)
  replace hg : g3 = zof h el_X2_init_18_3 := hg
  refine zwp.go (m := 2) (j := 9) (ls' := [some (zr ((18, 2, 0) : zF))]) (st' := [zi (8 : Int32), zr ((18, 2, 0) : zF)]) (h' := g3) rfl ?_
  refine zc_n (n := 25) (x := 20) (len := 8) (y := 8) (E := el_X2_init_18_3) (st' := [zr ((18, 2, 0) : zF)]) hg (by rw [hg, zof_len, hl]; rfl) rfl (fun g4 hg => ?_)
  replace hg : g4 = zof h el_X2_init_18_4 := hg
  refine zc_e (ev := (2, 18, 1, 25, 20, 8)) (E := el_X2_init_18_4) (st' := []) hg rfl (fun g5 hg => ?_)
  replace hg : g5 = zof h el_X2_init_18_5 := hg
  refine zwp.go (m := 2) (j := 13) (ls' := [some (zr ((18, 2, 0) : zF))]) (st' := [zi (8 : Int32), zr ((18, 2, 0) : zF)]) (h' := g5) rfl ?_
  refine zc_n (n := 26) (x := 20) (len := 8) (y := 8) (E := el_X2_init_18_5) (st' := [zr ((18, 2, 0) : zF)]) hg (by rw [hg, zof_len, hl]; rfl) rfl (fun g6 hg => ?_)
  replace hg : g6 = zof h el_X2_init_18_6 := hg
  refine zc_e (ev := (2, 18, 2, 26, 20, 8)) (E := el_X2_init_18_6) (st' := []) hg rfl (fun g7 hg => ?_)
  replace hg : g7 = zof h el_X2_init_18_7 := hg
  refine zwp.go (m := 2) (j := 17) (ls' := [some (zr ((18, 2, 0) : zF))]) (st' := [zi (8 : Int32), zr ((18, 2, 0) : zF)]) (h' := g7) rfl ?_
  refine zc_n (n := 27) (x := 22) (len := 8) (y := 8) (E := el_X2_init_18_7) (st' := [zr ((18, 2, 0) : zF)]) hg (by rw [hg, zof_len, hl]; rfl) rfl (fun g8 hg => ?_)
  replace hg : g8 = zof h el_X2_init_18_8 := hg
  refine zc_e (ev := (2, 18, 3, 27, 22, 8)) (E := el_X2_init_18_8) (st' := []) hg rfl (fun g9 hg => ?_)
  replace hg : g9 = zof h el_X2_init_18_9 := hg
  refine zwp.go (m := 2) (j := 21) (ls' := [some (zr ((18, 2, 0) : zF))]) (st' := [zi (3 : Int32), zr ((18, 2, 0) : zF)]) (h' := g9) rfl ?_
  refine zc_n (n := 28) (x := 20) (len := 3) (y := 3) (E := el_X2_init_18_9) (st' := [zr ((18, 2, 0) : zF)]) hg (by rw [hg, zof_len, hl]; rfl) rfl (fun g10 hg => ?_)
  replace hg : g10 = zof h el_X2_init_18_10 := hg
  refine zc_e (ev := (2, 18, 4, 28, 20, 3)) (E := el_X2_init_18_10) (st' := []) hg rfl (fun g11 hg => ?_)
  replace hg : g11 = zof h el_X2_init_18_11 := hg
  refine zwp.go (m := 2) (j := 25) (ls' := [some (zr ((18, 2, 0) : zF))]) (st' := [zi (1520 : Int32), zr ((18, 2, 0) : zF)]) (h' := g11) rfl ?_
  refine zc_n (n := 29) (x := 20) (len := 1520) (y := 1520) (E := el_X2_init_18_11) (st' := [zr ((18, 2, 0) : zF)]) hg (by rw [hg, zof_len, hl]; rfl) rfl (fun g12 hg => ?_)
  replace hg : g12 = zof h el_X2_init_18_12 := hg
  refine zc_e (ev := (2, 18, 5, 29, 20, 1520)) (E := el_X2_init_18_12) (st' := []) hg rfl (fun g13 hg => ?_)
  replace hg : g13 = zof h el_X2_init_18_13 := hg
  refine zwp.go (m := 2) (j := 29) (ls' := [some (zr ((18, 2, 0) : zF))]) (st' := [zi (0 : Int32), zr ((18, 2, 0) : zF)]) (h' := g13) rfl ?_
  refine zc_e (ev := (1, 18, 6, 0, 0, 0)) (E := el_X2_init_18_13) (st' := []) hg rfl (fun g14 hg => ?_)
  replace hg : g14 = zof h el_X2_init_18_14 := hg
  refine zwp.go (m := 2) (j := 32) (ls' := [some (zr ((18, 2, 0) : zF))]) (st' := [zi (0 : Int32), zr ((18, 2, 0) : zF)]) (h' := g14) rfl ?_
  refine zc_e (ev := (1, 18, 7, 0, 0, 0)) (E := el_X2_init_18_14) (st' := []) hg rfl (fun g15 hg => ?_)
  replace hg : g15 = zof h el_X2_init_18_15 := hg
  exact zwp.rv rfl ⟨rfl, hg⟩
def el_X8_init_30_0 : List zEv := []
def el_X8_init_30_1 : List zEv := (0, 20, 12, 12, 31, 0) :: el_X8_init_30_0
def el_X8_init_30_2 : List zEv := (2, 30, 0, 31, 20, 12) :: el_X8_init_30_1
def el_X8_init_30_3 : List zEv := (0, 20, 2, 2, 32, 0) :: el_X8_init_30_2
def el_X8_init_30_4 : List zEv := (2, 30, 1, 32, 20, 2) :: el_X8_init_30_3
def el_X8_init_30_5 : List zEv := (0, 20, 2, 2, 33, 0) :: el_X8_init_30_4
def el_X8_init_30_6 : List zEv := (2, 30, 2, 33, 20, 2) :: el_X8_init_30_5
def el_X8_init_30_7 : List zEv := (0, 20, 9, 9, 34, 0) :: el_X8_init_30_6
def el_X8_init_30_8 : List zEv := (2, 30, 3, 34, 20, 9) :: el_X8_init_30_7
def el_X8_init_30_9 : List zEv := (0, 20, 9, 9, 35, 0) :: el_X8_init_30_8
def el_X8_init_30_10 : List zEv := (2, 30, 4, 35, 20, 9) :: el_X8_init_30_9
def el_X8_init_30_11 : List zEv := (1, 30, 5, 0, 0, 0) :: el_X8_init_30_10
def el_X8_init_30_12 : List zEv := (1, 30, 6, 0, 0, 0) :: el_X8_init_30_11
def el_X8_init_30_13 : List zEv := (1, 30, 7, 0, 0, 0) :: el_X8_init_30_12
def el_X8_init_30_14 : List zEv := (1, 30, 8, 0, 0, 0) :: el_X8_init_30_13
def e_X8_init_30 : List zEv := el_X8_init_30_14
set_option maxRecDepth 100000 in
theorem i_X8_init_30 (d : Nat) (h : zH) (hl : (zK h).length = 31) : zcl (d + 0) 4 [zr ((30, 8, 0) : zF)] h (zPv (zof h e_X8_init_30)) := by
  refine ⟨zm_X8_init, rfl, ?_⟩
  show zwp (d + 0) zm_X8_init 0 [some (zr ((30, 8, 0) : zF))] [] h _
  have hg : h = zof h el_X8_init_30_0 := rfl
  refine zwp.go (m := 4) (j := 4) (ls' := [some (zr ((30, 8, 0) : zF))]) (st' := [zi (12 : Int32), zr ((30, 8, 0) : zF)]) (h' := h) rfl ?_
  refine zc_n (n := 31) (x := 20) (len := 12) (y := 12) (E := el_X8_init_30_0) (st' := [zr ((30, 8, 0) : zF)]) hg (by rw [hg, zof_len, hl]; rfl) rfl (fun g1 hg => ?_)
  replace hg : g1 = zof h el_X8_init_30_1 := hg
  refine zc_e (ev := (2, 30, 0, 31, 20, 12)) (E := el_X8_init_30_1) (st' := []) hg rfl (fun g2 hg => ?_)
  replace hg : g2 = zof h el_X8_init_30_2 := hg
  refine zwp.go (m := 2) (j := 8) (ls' := [some (zr ((30, 8, 0) : zF))]) (st' := [zi (2 : Int32), zr ((30, 8, 0) : zF)]) (h' := g2) rfl ?_
  refine zc_n (n := 32) (x := 20) (len := 2) (y := 2) (E := el_X8_init_30_2) (st' := [zr ((30, 8, 0) : zF)]) hg (by rw [hg, zof_len, hl]; rfl) rfl (fun g3 hg => ?_)
  replace hg : g3 = zof h el_X8_init_30_3 := hg
  refine zc_e (ev := (2, 30, 1, 32, 20, 2)) (E := el_X8_init_30_3) (st' := []) hg rfl (fun g4 hg => ?_)
  replace hg : g4 = zof h el_X8_init_30_4 := hg
  refine zwp.go (m := 2) (j := 12) (ls' := [some (zr ((30, 8, 0) : zF))]) (st' := [zi (2 : Int32), zr ((30, 8, 0) : zF)]) (h' := g4) rfl ?_
  refine zc_n (n := 33) (x := 20) (len := 2) (y := 2) (E := el_X8_init_30_4) (st' := [zr ((30, 8, 0) : zF)]) hg (by rw [hg, zof_len, hl]; rfl) rfl (fun g5 hg => ?_)
  replace hg : g5 = zof h el_X8_init_30_5 := hg
  refine zc_e (ev := (2, 30, 2, 33, 20, 2)) (E := el_X8_init_30_5) (st' := []) hg rfl (fun g6 hg => ?_)
  replace hg : g6 = zof h el_X8_init_30_6 := hg
  refine zwp.go (m := 2) (j := 16) (ls' := [some (zr ((30, 8, 0) : zF))]) (st' := [zi (9 : Int32), zr ((30, 8, 0) : zF)]) (h' := g6) rfl ?_
  refine zc_n (n := 34) (x := 20) (len := 9) (y := 9) (E := el_X8_init_30_6) (st' := [zr ((30, 8, 0) : zF)]) hg (by rw [hg, zof_len, hl]; rfl) rfl (fun g7 hg => ?_)
  replace hg : g7 = zof h el_X8_init_30_7 := hg
  refine zc_e (ev := (2, 30, 3, 34, 20, 9)) (E := el_X8_init_30_7) (st' := []) hg rfl (fun g8 hg => ?_)
  replace hg : g8 = zof h el_X8_init_30_8 := hg
  refine zwp.go (m := 2) (j := 20) (ls' := [some (zr ((30, 8, 0) : zF))]) (st' := [zi (9 : Int32), zr ((30, 8, 0) : zF)]) (h' := g8) rfl ?_
  refine zc_n (n := 35) (x := 20) (len := 9) (y := 9) (E := el_X8_init_30_8) (st' := [zr ((30, 8, 0) : zF)]) hg (by rw [hg, zof_len, hl]; rfl) rfl (fun g9 hg => ?_)
  replace hg : g9 = zof h el_X8_init_30_9 := hg
  refine zc_e (ev := (2, 30, 4, 35, 20, 9)) (E := el_X8_init_30_9) (st' := []) hg rfl (fun g10 hg => ?_)
  replace hg : g10 = zof h el_X8_init_30_10 := hg
  refine zwp.go (m := 2) (j := 24) (ls' := [some (zr ((30, 8, 0) : zF))]) (st' := [zi (0 : Int32), zr ((30, 8, 0) : zF)]) (h' := g10) rfl ?_
  refine zc_e (ev := (1, 30, 5, 0, 0, 0)) (E := el_X8_init_30_10) (st' := []) hg rfl (fun g11 hg => ?_)
  replace hg : g11 = zof h el_X8_init_30_11 := hg
  refine zwp.go (m := 2) (j := 27) (ls' := [some (zr ((30, 8, 0) : zF))]) (st' := [zi (0 : Int32), zr ((30, 8, 0) : zF)]) (h' := g11) rfl ?_
  refine zc_e (ev := (1, 30, 6, 0, 0, 0)) (E := el_X8_init_30_11) (st' := []) hg rfl (fun g12 hg => ?_)
  replace hg : g12 = zof h el_X8_init_30_12 := hg
  refine zwp.go (m := 2) (j := 30) (ls' := [some (zr ((30, 8, 0) : zF))]) (st' := [zi (0 : Int32), zr ((30, 8, 0) : zF)]) (h' := g12) rfl ?_
  refine zc_e (ev := (1, 30, 7, 0, 0, 0)) (E := el_X8_init_30_12) (st' := []) hg rfl (fun g13 hg => ?_)
  replace hg : g13 = zof h el_X8_init_30_13 := hg
  refine zwp.go (m := 2) (j := 33) (ls' := [some (zr ((30, 8, 0) : zF))]) (st' := [zi (0 : Int32), zr ((30, 8, 0) : zF)]) (h' := g13) rfl ?_
  refine zc_e (ev := (1, 30, 8, 0, 0, 0)) (E := el_X8_init_30_13) (st' := []) hg rfl (fun g14 hg => ?_)
  replace hg : g14 = zof h el_X8_init_30_14 := hg
  exact zwp.rv rfl ⟨rfl, hg⟩
def el_X9_init_36_0 : List zEv := []
def el_X9_init_36_1 : List zEv := (0, 20, 5, 5, 37, 0) :: el_X9_init_36_0
def el_X9_init_36_2 : List zEv := (2, 36, 0, 37, 20, 5) :: el_X9_init_36_1
def el_X9_init_36_3 : List zEv := (0, 20, 50, 50, 38, 0) :: el_X9_init_36_2
def el_X9_init_36_4 : List zEv := (2, 36, 1, 38, 20, 50) :: el_X9_init_36_3
def el_X9_init_36_5 : List zEv := (1, 36, 2, 0, 0, 0) :: el_X9_init_36_4
def el_X9_init_36_6 : List zEv := (1, 36, 3, 0, 0, 0) :: el_X9_init_36_5
def e_X9_init_36 : List zEv := el_X9_init_36_6
set_option maxRecDepth 100000 in
theorem i_X9_init_36 (d : Nat) (h : zH) (hl : (zK h).length = 37) : zcl (d + 0) 6 [zr ((36, 9, 0) : zF)] h (zPv (zof h e_X9_init_36)) := by
  refine ⟨zm_X9_init, rfl, ?_⟩
  show zwp (d + 0) zm_X9_init 0 [some (zr ((36, 9, 0) : zF))] [] h _
  have hg : h = zof h el_X9_init_36_0 := rfl
  refine zwp.go (m := 4) (j := 4) (ls' := [some (zr ((36, 9, 0) : zF))]) (st' := [zi (5 : Int32), zr ((36, 9, 0) : zF)]) (h' := h) rfl ?_
  refine zc_n (n := 37) (x := 20) (len := 5) (y := 5) (E := el_X9_init_36_0) (st' := [zr ((36, 9, 0) : zF)]) hg (by rw [hg, zof_len, hl]; rfl) rfl (fun g1 hg => ?_)
  replace hg : g1 = zof h el_X9_init_36_1 := hg
  refine zc_e (ev := (2, 36, 0, 37, 20, 5)) (E := el_X9_init_36_1) (st' := []) hg rfl (fun g2 hg => ?_)
  replace hg : g2 = zof h el_X9_init_36_2 := hg
  refine zwp.go (m := 2) (j := 8) (ls' := [some (zr ((36, 9, 0) : zF))]) (st' := [zi (50 : Int32), zr ((36, 9, 0) : zF)]) (h' := g2) rfl ?_
  refine zc_n (n := 38) (x := 20) (len := 50) (y := 50) (E := el_X9_init_36_2) (st' := [zr ((36, 9, 0) : zF)]) hg (by rw [hg, zof_len, hl]; rfl) rfl (fun g3 hg => ?_)
  replace hg : g3 = zof h el_X9_init_36_3 := hg
  refine zc_e (ev := (2, 36, 1, 38, 20, 50)) (E := el_X9_init_36_3) (st' := []) hg rfl (fun g4 hg => ?_)
  replace hg : g4 = zof h el_X9_init_36_4 := hg
  refine zwp.go (m := 2) (j := 12) (ls' := [some (zr ((36, 9, 0) : zF))]) (st' := [zi (0 : Int32), zr ((36, 9, 0) : zF)]) (h' := g4) rfl ?_
  refine zc_e (ev := (1, 36, 2, 0, 0, 0)) (E := el_X9_init_36_4) (st' := []) hg rfl (fun g5 hg => ?_)
  replace hg : g5 = zof h el_X9_init_36_5 := hg
  refine zwp.go (m := 2) (j := 15) (ls' := [some (zr ((36, 9, 0) : zF))]) (st' := [zi (0 : Int32), zr ((36, 9, 0) : zF)]) (h' := g5) rfl ?_
  refine zc_e (ev := (1, 36, 3, 0, 0, 0)) (E := el_X9_init_36_5) (st' := []) hg rfl (fun g6 hg => ?_)
  replace hg : g6 = zof h el_X9_init_36_6 := hg
  exact zwp.rv rfl ⟨rfl, hg⟩
def el_X1_init_39_0 : List zEv := []
def el_X1_init_39_1 : List zEv := (0, 20, 60, 60, 40, 0) :: el_X1_init_39_0
def el_X1_init_39_2 : List zEv := (2, 39, 0, 40, 20, 60) :: el_X1_init_39_1
def el_X1_init_39_3 : List zEv := (0, 20, 60, 60, 41, 0) :: el_X1_init_39_2
def el_X1_init_39_4 : List zEv := (2, 39, 1, 41, 20, 60) :: el_X1_init_39_3
def el_X1_init_39_5 : List zEv := (0, 20, 60, 60, 42, 0) :: el_X1_init_39_4
def el_X1_init_39_6 : List zEv := (2, 39, 2, 42, 20, 60) :: el_X1_init_39_5
def el_X1_init_39_7 : List zEv := (0, 20, 12, 12, 43, 0) :: el_X1_init_39_6
def el_X1_init_39_8 : List zEv := (2, 39, 3, 43, 20, 12) :: el_X1_init_39_7
def el_X1_init_39_9 : List zEv := (1, 39, 4, 0, 0, 0) :: el_X1_init_39_8
def el_X1_init_39_10 : List zEv := (1, 39, 5, 0, 0, 0) :: el_X1_init_39_9
def e_X1_init_39 : List zEv := el_X1_init_39_10
set_option maxRecDepth 100000 in
theorem i_X1_init_39 (d : Nat) (h : zH) (hl : (zK h).length = 40) : zcl (d + 0) 7 [zr ((39, 1, 0) : zF)] h (zPv (zof h e_X1_init_39)) := by
  refine ⟨zm_X1_init, rfl, ?_⟩
  show zwp (d + 0) zm_X1_init 0 [some (zr ((39, 1, 0) : zF))] [] h _
  have hg : h = zof h el_X1_init_39_0 := rfl
  refine zwp.go (m := 4) (j := 4) (ls' := [some (zr ((39, 1, 0) : zF))]) (st' := [zi (60 : Int32), zr ((39, 1, 0) : zF)]) (h' := h) rfl ?_
  refine zc_n (n := 40) (x := 20) (len := 60) (y := 60) (E := el_X1_init_39_0) (st' := [zr ((39, 1, 0) : zF)]) hg (by rw [hg, zof_len, hl]; rfl) rfl (fun g1 hg => ?_)
  replace hg : g1 = zof h el_X1_init_39_1 := hg
  refine zc_e (ev := (2, 39, 0, 40, 20, 60)) (E := el_X1_init_39_1) (st' := []) hg rfl (fun g2 hg => ?_)
  replace hg : g2 = zof h el_X1_init_39_2 := hg
  refine zwp.go (m := 2) (j := 8) (ls' := [some (zr ((39, 1, 0) : zF))]) (st' := [zi (60 : Int32), zr ((39, 1, 0) : zF)]) (h' := g2) rfl ?_
  refine zc_n (n := 41) (x := 20) (len := 60) (y := 60) (E := el_X1_init_39_2) (st' := [zr ((39, 1, 0) : zF)]) hg (by rw [hg, zof_len, hl]; rfl) rfl (fun g3 hg => ?_)
  replace hg : g3 = zof h el_X1_init_39_3 := hg
  refine zc_e (ev := (2, 39, 1, 41, 20, 60)) (E := el_X1_init_39_3) (st' := []) hg rfl (fun g4 hg => ?_)
  replace hg : g4 = zof h el_X1_init_39_4 := hg
  refine zwp.go (m := 2) (j := 12) (ls' := [some (zr ((39, 1, 0) : zF))]) (st' := [zi (60 : Int32), zr ((39, 1, 0) : zF)]) (h' := g4) rfl ?_
  refine zc_n (n := 42) (x := 20) (len := 60) (y := 60) (E := el_X1_init_39_4) (st' := [zr ((39, 1, 0) : zF)]) hg (by rw [hg, zof_len, hl]; rfl) rfl (fun g5 hg => ?_)
  replace hg : g5 = zof h el_X1_init_39_5 := hg
  refine zc_e (ev := (2, 39, 2, 42, 20, 60)) (E := el_X1_init_39_5) (st' := []) hg rfl (fun g6 hg => ?_)
  replace hg : g6 = zof h el_X1_init_39_6 := hg
  refine zwp.go (m := 2) (j := 16) (ls' := [some (zr ((39, 1, 0) : zF))]) (st' := [zi (12 : Int32), zr ((39, 1, 0) : zF)]) (h' := g6) rfl ?_
  refine zc_n (n := 43) (x := 20) (len := 12) (y := 12) (E := el_X1_init_39_6) (st' := [zr ((39, 1, 0) : zF)]) hg (by rw [hg, zof_len, hl]; rfl) rfl (fun g7 hg => ?_)
  replace hg : g7 = zof h el_X1_init_39_7 := hg
  refine zc_e (ev := (2, 39, 3, 43, 20, 12)) (E := el_X1_init_39_7) (st' := []) hg rfl (fun g8 hg => ?_)
  replace hg : g8 = zof h el_X1_init_39_8 := hg
  refine zwp.go (m := 2) (j := 20) (ls' := [some (zr ((39, 1, 0) : zF))]) (st' := [zi (0 : Int32), zr ((39, 1, 0) : zF)]) (h' := g8) rfl ?_
  refine zc_e (ev := (1, 39, 4, 0, 0, 0)) (E := el_X1_init_39_8) (st' := []) hg rfl (fun g9 hg => ?_)
  replace hg : g9 = zof h el_X1_init_39_9 := hg
  refine zwp.go (m := 2) (j := 23) (ls' := [some (zr ((39, 1, 0) : zF))]) (st' := [zi (0 : Int32), zr ((39, 1, 0) : zF)]) (h' := g9) rfl ?_
  refine zc_e (ev := (1, 39, 5, 0, 0, 0)) (E := el_X1_init_39_9) (st' := []) hg rfl (fun g10 hg => ?_)
  replace hg : g10 = zof h el_X1_init_39_10 := hg
  exact zwp.rv rfl ⟨rfl, hg⟩
def el_X7_init_44_0 : List zEv := []
def el_X7_init_44_1 : List zEv := (0, 20, 8, 8, 45, 0) :: el_X7_init_44_0
def el_X7_init_44_2 : List zEv := (2, 44, 0, 45, 20, 8) :: el_X7_init_44_1
def el_X7_init_44_3 : List zEv := (0, 20, 8, 8, 46, 0) :: el_X7_init_44_2
def el_X7_init_44_4 : List zEv := (2, 44, 1, 46, 20, 8) :: el_X7_init_44_3
def el_X7_init_44_5 : List zEv := (1, 44, 2, 0, 0, 0) :: el_X7_init_44_4
def e_X7_init_44 : List zEv := el_X7_init_44_5
set_option maxRecDepth 100000 in
theorem i_X7_init_44 (d : Nat) (h : zH) (hl : (zK h).length = 45) : zcl (d + 0) 8 [zr ((44, 7, 0) : zF)] h (zPv (zof h e_X7_init_44)) := by
  refine ⟨zm_X7_init, rfl, ?_⟩
  show zwp (d + 0) zm_X7_init 0 [some (zr ((44, 7, 0) : zF))] [] h _
  have hg : h = zof h el_X7_init_44_0 := rfl
  refine zwp.go (m := 4) (j := 4) (ls' := [some (zr ((44, 7, 0) : zF))]) (st' := [zi (8 : Int32), zr ((44, 7, 0) : zF)]) (h' := h) rfl ?_
  refine zc_n (n := 45) (x := 20) (len := 8) (y := 8) (E := el_X7_init_44_0) (st' := [zr ((44, 7, 0) : zF)]) hg (by rw [hg, zof_len, hl]; rfl) rfl (fun g1 hg => ?_)
  replace hg : g1 = zof h el_X7_init_44_1 := hg
  refine zc_e (ev := (2, 44, 0, 45, 20, 8)) (E := el_X7_init_44_1) (st' := []) hg rfl (fun g2 hg => ?_)
  replace hg : g2 = zof h el_X7_init_44_2 := hg
  refine zwp.go (m := 2) (j := 8) (ls' := [some (zr ((44, 7, 0) : zF))]) (st' := [zi (8 : Int32), zr ((44, 7, 0) : zF)]) (h' := g2) rfl ?_
  refine zc_n (n := 46) (x := 20) (len := 8) (y := 8) (E := el_X7_init_44_2) (st' := [zr ((44, 7, 0) : zF)]) hg (by rw [hg, zof_len, hl]; rfl) rfl (fun g3 hg => ?_)
  replace hg : g3 = zof h el_X7_init_44_3 := hg
  refine zc_e (ev := (2, 44, 1, 46, 20, 8)) (E := el_X7_init_44_3) (st' := []) hg rfl (fun g4 hg => ?_)
  replace hg : g4 = zof h el_X7_init_44_4 := hg
  refine zwp.go (m := 2) (j := 12) (ls' := [some (zr ((44, 7, 0) : zF))]) (st' := [zi (0 : Int32), zr ((44, 7, 0) : zF)]) (h' := g4) rfl ?_
  refine zc_e (ev := (1, 44, 2, 0, 0, 0)) (E := el_X7_init_44_4) (st' := []) hg rfl (fun g5 hg => ?_)
  replace hg : g5 = zof h el_X7_init_44_5 := hg
  exact zwp.rv rfl ⟨rfl, hg⟩
def el_X6_init_47_0 : List zEv := []
def el_X6_init_47_1 : List zEv := (0, 20, 21, 21, 48, 0) :: el_X6_init_47_0
def el_X6_init_47_2 : List zEv := (2, 47, 2, 48, 20, 21) :: el_X6_init_47_1
def el_X6_init_47_3 : List zEv := (0, 23, 1344, 1344, 49, 0) :: el_X6_init_47_2
def el_X6_init_47_4 : List zEv := (2, 47, 3, 49, 23, 1344) :: el_X6_init_47_3
def el_X6_init_47_5 : List zEv := (1, 47, 4, 0, 0, 0) :: el_X6_init_47_4
def el_X6_init_47_6 : List zEv := (1, 47, 5, 0, 0, 0) :: el_X6_init_47_5
def el_X6_init_47_7 : List zEv := (1, 47, 6, 4294967295, 0, 0) :: el_X6_init_47_6
def el_X6_init_47_8 : List zEv := (1, 47, 7, 1, 0, 0) :: el_X6_init_47_7
def el_X6_init_47_9 : List zEv := (1, 47, 8, 0, 0, 0) :: el_X6_init_47_8
def el_X6_init_47_10 : List zEv := (1, 47, 9, 4294967295, 0, 0) :: el_X6_init_47_9
def el_X6_init_47_11 : List zEv := (1, 47, 10, 0, 0, 0) :: el_X6_init_47_10
def el_X6_init_47_12 : List zEv := (2, 47, 0, 36, 9, 0) :: el_X6_init_47_11
def el_X6_init_47_13 : List zEv := (2, 47, 1, 30, 8, 0) :: el_X6_init_47_12
def e_X6_init_47 : List zEv := el_X6_init_47_13
set_option maxRecDepth 100000 in
theorem i_X6_init_47 (d : Nat) (h : zH) (hl : (zK h).length = 48) : zcl (d + 0) 9 [zr ((47, 6, 0) : zF), zr ((36, 9, 0) : zF), zr ((30, 8, 0) : zF)] h (zPv (zof h e_X6_init_47)) := by
  refine ⟨zm_X6_init, rfl, ?_⟩
  show zwp (d + 0) zm_X6_init 0 [some (zr ((47, 6, 0) : zF)), some (zr ((36, 9, 0) : zF)), some (zr ((30, 8, 0) : zF))] [] h _
  have hg : h = zof h el_X6_init_47_0 := rfl
  refine zwp.go (m := 4) (j := 4) (ls' := [some (zr ((47, 6, 0) : zF)), some (zr ((36, 9, 0) : zF)), some (zr ((30, 8, 0) : zF))]) (st' := [zi (21 : Int32), zr ((47, 6, 0) : zF)]) (h' := h) rfl ?_
  refine zc_n (n := 48) (x := 20) (len := 21) (y := 21) (E := el_X6_init_47_0) (st' := [zr ((47, 6, 0) : zF)]) hg (by rw [hg, zof_len, hl]; rfl) rfl (fun g1 hg => ?_)
  replace hg : g1 = zof h el_X6_init_47_1 := hg
  refine zc_e (ev := (2, 47, 2, 48, 20, 21)) (E := el_X6_init_47_1) (st' := []) hg rfl (fun g2 hg => ?_)
  replace hg : g2 = zof h el_X6_init_47_2 := hg
  refine zwp.go (m := 2) (j := 8) (ls' := [some (zr ((47, 6, 0) : zF)), some (zr ((36, 9, 0) : zF)), some (zr ((30, 8, 0) : zF))]) (st' := [zi (1344 : Int32), zr ((47, 6, 0) : zF)]) (h' := g2) rfl ?_
  refine zc_n (n := 49) (x := 23) (len := 1344) (y := 1344) (E := el_X6_init_47_2) (st' := [zr ((47, 6, 0) : zF)]) hg (by rw [hg, zof_len, hl]; rfl) rfl (fun g3 hg => ?_)
  replace hg : g3 = zof h el_X6_init_47_3 := hg
  refine zc_e (ev := (2, 47, 3, 49, 23, 1344)) (E := el_X6_init_47_3) (st' := []) hg rfl (fun g4 hg => ?_)
  replace hg : g4 = zof h el_X6_init_47_4 := hg
  refine zwp.go (m := 2) (j := 12) (ls' := [some (zr ((47, 6, 0) : zF)), some (zr ((36, 9, 0) : zF)), some (zr ((30, 8, 0) : zF))]) (st' := [zi (0 : Int32), zr ((47, 6, 0) : zF)]) (h' := g4) rfl ?_
  refine zc_e (ev := (1, 47, 4, 0, 0, 0)) (E := el_X6_init_47_4) (st' := []) hg rfl (fun g5 hg => ?_)
  replace hg : g5 = zof h el_X6_init_47_5 := hg
  refine zwp.go (m := 2) (j := 15) (ls' := [some (zr ((47, 6, 0) : zF)), some (zr ((36, 9, 0) : zF)), some (zr ((30, 8, 0) : zF))]) (st' := [zi (0 : Int32), zr ((47, 6, 0) : zF)]) (h' := g5) rfl ?_
  refine zc_e (ev := (1, 47, 5, 0, 0, 0)) (E := el_X6_init_47_5) (st' := []) hg rfl (fun g6 hg => ?_)
  replace hg : g6 = zof h el_X6_init_47_6 := hg
  refine zwp.go (m := 2) (j := 18) (ls' := [some (zr ((47, 6, 0) : zF)), some (zr ((36, 9, 0) : zF)), some (zr ((30, 8, 0) : zF))]) (st' := [zi (-1 : Int32), zr ((47, 6, 0) : zF)]) (h' := g6) rfl ?_
  refine zc_e (ev := (1, 47, 6, 4294967295, 0, 0)) (E := el_X6_init_47_6) (st' := []) hg rfl (fun g7 hg => ?_)
  replace hg : g7 = zof h el_X6_init_47_7 := hg
  refine zwp.go (m := 2) (j := 21) (ls' := [some (zr ((47, 6, 0) : zF)), some (zr ((36, 9, 0) : zF)), some (zr ((30, 8, 0) : zF))]) (st' := [zi (1 : Int32), zr ((47, 6, 0) : zF)]) (h' := g7) rfl ?_
  refine zc_e (ev := (1, 47, 7, 1, 0, 0)) (E := el_X6_init_47_7) (st' := []) hg rfl (fun g8 hg => ?_)
  replace hg : g8 = zof h el_X6_init_47_8 := hg
  refine zwp.go (m := 2) (j := 24) (ls' := [some (zr ((47, 6, 0) : zF)), some (zr ((36, 9, 0) : zF)), some (zr ((30, 8, 0) : zF))]) (st' := [zi (0 : Int32), zr ((47, 6, 0) : zF)]) (h' := g8) rfl ?_
  refine zc_e (ev := (1, 47, 8, 0, 0, 0)) (E := el_X6_init_47_8) (st' := []) hg rfl (fun g9 hg => ?_)
  replace hg : g9 = zof h el_X6_init_47_9 := hg
  refine zwp.go (m := 2) (j := 27) (ls' := [some (zr ((47, 6, 0) : zF)), some (zr ((36, 9, 0) : zF)), some (zr ((30, 8, 0) : zF))]) (st' := [zi (-1 : Int32), zr ((47, 6, 0) : zF)]) (h' := g9) rfl ?_
  refine zc_e (ev := (1, 47, 9, 4294967295, 0, 0)) (E := el_X6_init_47_9) (st' := []) hg rfl (fun g10 hg => ?_)
  replace hg : g10 = zof h el_X6_init_47_10 := hg
  refine zwp.go (m := 2) (j := 30) (ls' := [some (zr ((47, 6, 0) : zF)), some (zr ((36, 9, 0) : zF)), some (zr ((30, 8, 0) : zF))]) (st' := [zi (0 : Int32), zr ((47, 6, 0) : zF)]) (h' := g10) rfl ?_
  refine zc_e (ev := (1, 47, 10, 0, 0, 0)) (E := el_X6_init_47_10) (st' := []) hg rfl (fun g11 hg => ?_)
  replace hg : g11 = zof h el_X6_init_47_11 := hg
  refine zwp.go (m := 2) (j := 33) (ls' := [some (zr ((47, 6, 0) : zF)), some (zr ((36, 9, 0) : zF)), some (zr ((30, 8, 0) : zF))]) (st' := [zr ((36, 9, 0) : zF), zr ((47, 6, 0) : zF)]) (h' := g11) rfl ?_
  refine zc_e (ev := (2, 47, 0, 36, 9, 0)) (E := el_X6_init_47_11) (st' := []) hg rfl (fun g12 hg => ?_)
  replace hg : g12 = zof h el_X6_init_47_12 := hg
  refine zwp.go (m := 2) (j := 36) (ls' := [some (zr ((47, 6, 0) : zF)), some (zr ((36, 9, 0) : zF)), some (zr ((30, 8, 0) : zF))]) (st' := [zr ((30, 8, 0) : zF), zr ((47, 6, 0) : zF)]) (h' := g12) rfl ?_
  refine zc_e (ev := (2, 47, 1, 30, 8, 0)) (E := el_X6_init_47_12) (st' := []) hg rfl (fun g13 hg => ?_)
  replace hg : g13 = zof h el_X6_init_47_13 := hg
  exact zwp.rv rfl ⟨rfl, hg⟩
def el_X0_init_50_0 : List zEv := []
def el_X0_init_50_1 : List zEv := (1, 50, 0, 0, 0, 0) :: el_X0_init_50_0
def e_X0_init_50 : List zEv := el_X0_init_50_1
set_option maxRecDepth 100000 in
theorem i_X0_init_50 (d : Nat) (h : zH) (hl : (zK h).length = 51) : zcl (d + 0) 10 [zr ((50, 0, 0) : zF)] h (zPv (zof h e_X0_init_50)) := by
  refine ⟨zm_X0_init, rfl, ?_⟩
  show zwp (d + 0) zm_X0_init 0 [some (zr ((50, 0, 0) : zF))] [] h _
  have hg : h = zof h el_X0_init_50_0 := rfl
  refine zwp.go (m := 4) (j := 4) (ls' := [some (zr ((50, 0, 0) : zF))]) (st' := [zi (0 : Int32), zr ((50, 0, 0) : zF)]) (h' := h) rfl ?_
  refine zc_e (ev := (1, 50, 0, 0, 0, 0)) (E := el_X0_init_50_0) (st' := []) hg rfl (fun g1 hg => ?_)
  replace hg : g1 = zof h el_X0_init_50_1 := hg
  exact zwp.rv rfl ⟨rfl, hg⟩
def el_X8_init_92_0 : List zEv := []
def el_X8_init_92_1 : List zEv := (0, 20, 12, 12, 93, 0) :: el_X8_init_92_0
def el_X8_init_92_2 : List zEv := (2, 92, 0, 93, 20, 12) :: el_X8_init_92_1
def el_X8_init_92_3 : List zEv := (0, 20, 2, 2, 94, 0) :: el_X8_init_92_2
def el_X8_init_92_4 : List zEv := (2, 92, 1, 94, 20, 2) :: el_X8_init_92_3
def el_X8_init_92_5 : List zEv := (0, 20, 2, 2, 95, 0) :: el_X8_init_92_4
def el_X8_init_92_6 : List zEv := (2, 92, 2, 95, 20, 2) :: el_X8_init_92_5
def el_X8_init_92_7 : List zEv := (0, 20, 9, 9, 96, 0) :: el_X8_init_92_6
def el_X8_init_92_8 : List zEv := (2, 92, 3, 96, 20, 9) :: el_X8_init_92_7
def el_X8_init_92_9 : List zEv := (0, 20, 9, 9, 97, 0) :: el_X8_init_92_8
def el_X8_init_92_10 : List zEv := (2, 92, 4, 97, 20, 9) :: el_X8_init_92_9
def el_X8_init_92_11 : List zEv := (1, 92, 5, 0, 0, 0) :: el_X8_init_92_10
def el_X8_init_92_12 : List zEv := (1, 92, 6, 0, 0, 0) :: el_X8_init_92_11
def el_X8_init_92_13 : List zEv := (1, 92, 7, 0, 0, 0) :: el_X8_init_92_12
def el_X8_init_92_14 : List zEv := (1, 92, 8, 0, 0, 0) :: el_X8_init_92_13
def e_X8_init_92 : List zEv := el_X8_init_92_14
set_option maxRecDepth 100000 in
theorem i_X8_init_92 (d : Nat) (h : zH) (hl : (zK h).length = 93) : zcl (d + 0) 4 [zr ((92, 8, 0) : zF)] h (zPv (zof h e_X8_init_92)) := by
  refine ⟨zm_X8_init, rfl, ?_⟩
  show zwp (d + 0) zm_X8_init 0 [some (zr ((92, 8, 0) : zF))] [] h _
  have hg : h = zof h el_X8_init_92_0 := rfl
  refine zwp.go (m := 4) (j := 4) (ls' := [some (zr ((92, 8, 0) : zF))]) (st' := [zi (12 : Int32), zr ((92, 8, 0) : zF)]) (h' := h) rfl ?_
  refine zc_n (n := 93) (x := 20) (len := 12) (y := 12) (E := el_X8_init_92_0) (st' := [zr ((92, 8, 0) : zF)]) hg (by rw [hg, zof_len, hl]; rfl) rfl (fun g1 hg => ?_)
  replace hg : g1 = zof h el_X8_init_92_1 := hg
  refine zc_e (ev := (2, 92, 0, 93, 20, 12)) (E := el_X8_init_92_1) (st' := []) hg rfl (fun g2 hg => ?_)
  replace hg : g2 = zof h el_X8_init_92_2 := hg
  refine zwp.go (m := 2) (j := 8) (ls' := [some (zr ((92, 8, 0) : zF))]) (st' := [zi (2 : Int32), zr ((92, 8, 0) : zF)]) (h' := g2) rfl ?_
  refine zc_n (n := 94) (x := 20) (len := 2) (y := 2) (E := el_X8_init_92_2) (st' := [zr ((92, 8, 0) : zF)]) hg (by rw [hg, zof_len, hl]; rfl) rfl (fun g3 hg => ?_)
  replace hg : g3 = zof h el_X8_init_92_3 := hg
  refine zc_e (ev := (2, 92, 1, 94, 20, 2)) (E := el_X8_init_92_3) (st' := []) hg rfl (fun g4 hg => ?_)
  replace hg : g4 = zof h el_X8_init_92_4 := hg
  refine zwp.go (m := 2) (j := 12) (ls' := [some (zr ((92, 8, 0) : zF))]) (st' := [zi (2 : Int32), zr ((92, 8, 0) : zF)]) (h' := g4) rfl ?_
  refine zc_n (n := 95) (x := 20) (len := 2) (y := 2) (E := el_X8_init_92_4) (st' := [zr ((92, 8, 0) : zF)]) hg (by rw [hg, zof_len, hl]; rfl) rfl (fun g5 hg => ?_)
  replace hg : g5 = zof h el_X8_init_92_5 := hg
  refine zc_e (ev := (2, 92, 2, 95, 20, 2)) (E := el_X8_init_92_5) (st' := []) hg rfl (fun g6 hg => ?_)
  replace hg : g6 = zof h el_X8_init_92_6 := hg
  refine zwp.go (m := 2) (j := 16) (ls' := [some (zr ((92, 8, 0) : zF))]) (st' := [zi (9 : Int32), zr ((92, 8, 0) : zF)]) (h' := g6) rfl ?_
  refine zc_n (n := 96) (x := 20) (len := 9) (y := 9) (E := el_X8_init_92_6) (st' := [zr ((92, 8, 0) : zF)]) hg (by rw [hg, zof_len, hl]; rfl) rfl (fun g7 hg => ?_)
  replace hg : g7 = zof h el_X8_init_92_7 := hg
  refine zc_e (ev := (2, 92, 3, 96, 20, 9)) (E := el_X8_init_92_7) (st' := []) hg rfl (fun g8 hg => ?_)
  replace hg : g8 = zof h el_X8_init_92_8 := hg
  refine zwp.go (m := 2) (j := 20) (ls' := [some (zr ((92, 8, 0) : zF))]) (st' := [zi (9 : Int32), zr ((92, 8, 0) : zF)]) (h' := g8) rfl ?_
  refine zc_n (n := 97) (x := 20) (len := 9) (y := 9) (E := el_X8_init_92_8) (st' := [zr ((92, 8, 0) : zF)]) hg (by rw [hg, zof_len, hl]; rfl) rfl (fun g9 hg => ?_)
  replace hg : g9 = zof h el_X8_init_92_9 := hg
  refine zc_e (ev := (2, 92, 4, 97, 20, 9)) (E := el_X8_init_92_9) (st' := []) hg rfl (fun g10 hg => ?_)
  replace hg : g10 = zof h el_X8_init_92_10 := hg
  refine zwp.go (m := 2) (j := 24) (ls' := [some (zr ((92, 8, 0) : zF))]) (st' := [zi (0 : Int32), zr ((92, 8, 0) : zF)]) (h' := g10) rfl ?_
  refine zc_e (ev := (1, 92, 5, 0, 0, 0)) (E := el_X8_init_92_10) (st' := []) hg rfl (fun g11 hg => ?_)
  replace hg : g11 = zof h el_X8_init_92_11 := hg
  refine zwp.go (m := 2) (j := 27) (ls' := [some (zr ((92, 8, 0) : zF))]) (st' := [zi (0 : Int32), zr ((92, 8, 0) : zF)]) (h' := g11) rfl ?_
  refine zc_e (ev := (1, 92, 6, 0, 0, 0)) (E := el_X8_init_92_11) (st' := []) hg rfl (fun g12 hg => ?_)
  replace hg : g12 = zof h el_X8_init_92_12 := hg
  refine zwp.go (m := 2) (j := 30) (ls' := [some (zr ((92, 8, 0) : zF))]) (st' := [zi (0 : Int32), zr ((92, 8, 0) : zF)]) (h' := g12) rfl ?_
  refine zc_e (ev := (1, 92, 7, 0, 0, 0)) (E := el_X8_init_92_12) (st' := []) hg rfl (fun g13 hg => ?_)
  replace hg : g13 = zof h el_X8_init_92_13 := hg
  refine zwp.go (m := 2) (j := 33) (ls' := [some (zr ((92, 8, 0) : zF))]) (st' := [zi (0 : Int32), zr ((92, 8, 0) : zF)]) (h' := g13) rfl ?_
  refine zc_e (ev := (1, 92, 8, 0, 0, 0)) (E := el_X8_init_92_13) (st' := []) hg rfl (fun g14 hg => ?_)
  replace hg : g14 = zof h el_X8_init_92_14 := hg
  exact zwp.rv rfl ⟨rfl, hg⟩
def el_X2_init_91_0 : List zEv := []
def el_X2_init_91_1 : List zEv := (0, 8, 0, 9, 92, 0) :: el_X2_init_91_0
def el_X2_init_91_2 : List zEv := e_X8_init_92 ++ el_X2_init_91_1
def el_X2_init_91_3 : List zEv := (2, 91, 0, 92, 8, 0) :: el_X2_init_91_2
def el_X2_init_91_4 : List zEv := (0, 20, 8, 8, 98, 0) :: el_X2_init_91_3
def el_X2_init_91_5 : List zEv := (2, 91, 1, 98, 20, 8) :: el_X2_init_91_4
def el_X2_init_91_6 : List zEv := (0, 20, 8, 8, 99, 0) :: el_X2_init_91_5
def el_X2_init_91_7 : List zEv := (2, 91, 2, 99, 20, 8) :: el_X2_init_91_6
def el_X2_init_91_8 : List zEv := (0, 22, 8, 8, 100, 0) :: el_X2_init_91_7
def el_X2_init_91_9 : List zEv := (2, 91, 3, 100, 22, 8) :: el_X2_init_91_8
def el_X2_init_91_10 : List zEv := (0, 20, 3, 3, 101, 0) :: el_X2_init_91_9
def el_X2_init_91_11 : List zEv := (2, 91, 4, 101, 20, 3) :: el_X2_init_91_10
def el_X2_init_91_12 : List zEv := (0, 20, 1520, 1520, 102, 0) :: el_X2_init_91_11
def el_X2_init_91_13 : List zEv := (2, 91, 5, 102, 20, 1520) :: el_X2_init_91_12
def el_X2_init_91_14 : List zEv := (1, 91, 6, 0, 0, 0) :: el_X2_init_91_13
def el_X2_init_91_15 : List zEv := (1, 91, 7, 0, 0, 0) :: el_X2_init_91_14
def e_X2_init_91 : List zEv := el_X2_init_91_15
set_option maxRecDepth 100000 in
theorem i_X2_init_91 (d : Nat) (h : zH) (hl : (zK h).length = 92) : zcl (d + 1) 5 [zr ((91, 2, 0) : zF)] h (zPv (zof h e_X2_init_91)) := by
  refine ⟨zm_X2_init, rfl, ?_⟩
  show zwp (d + 1) zm_X2_init 0 [some (zr ((91, 2, 0) : zF))] [] h _
  have hg : h = zof h el_X2_init_91_0 := rfl
  refine zwp.go (m := 3) (j := 3) (ls' := [some (zr ((91, 2, 0) : zF))]) (st' := [zr ((91, 2, 0) : zF)]) (h' := h) rfl ?_
  refine zc_n (n := 92) (x := 8) (len := 0) (y := 9) (E := el_X2_init_91_0) (st' := [zr ((91, 2, 0) : zF)]) hg (by rw [hg, zof_len, hl]; rfl) rfl (fun g1 hg => ?_)
  replace hg : g1 = zof h el_X2_init_91_1 := hg
  refine zwp.go (m := 1) (j := 5) (ls' := [some (zr ((91, 2, 0) : zF))]) (st' := [zr ((92, 8, 0) : zF), zr ((92, 8, 0) : zF), zr ((91, 2, 0) : zF)]) (h' := g1) rfl ?_
  refine zc_c (F := e_X8_init_92) (E := el_X2_init_91_1) (rest := [zr ((92, 8, 0) : zF), zr ((91, 2, 0) : zF)]) hg (i_X8_init_92 _ g1 (by rw [hg, zof_len, hl]; rfl)) rfl rfl (fun g2 hg => ?_)
  replace hg : g2 = zof h el_X2_init_91_2 := hg
  refine zc_e (ev := (2, 91, 0, 92, 8, 0)) (E := el_X2_init_91_2) (st' := []) hg rfl (fun g3 hg => ?_)
  replace hg : g3 = zof h el_X2_init_91_3 := hg
  refine zwp.go (m := 2) (j := 9) (ls' := [some (zr ((91, 2, 0) : zF))]) (st' := [zi (8 : Int32), zr ((91, 2, 0) : zF)]) (h' := g3) rfl ?_
  refine zc_n (n := 98) (x := 20) (len := 8) (y := 8) (E := el_X2_init_91_3) (st' := [zr ((91, 2, 0) : zF)]) hg (by rw [hg, zof_len, hl]; rfl) rfl (fun g4 hg => ?_)
  replace hg : g4 = zof h el_X2_init_91_4 := hg
  refine zc_e (ev := (2, 91, 1, 98, 20, 8)) (E := el_X2_init_91_4) (st' := []) hg rfl (fun g5 hg => ?_)
  replace hg : g5 = zof h el_X2_init_91_5 := hg
  refine zwp.go (m := 2) (j := 13) (ls' := [some (zr ((91, 2, 0) : zF))]) (st' := [zi (8 : Int32), zr ((91, 2, 0) : zF)]) (h' := g5) rfl ?_
  refine zc_n (n := 99) (x := 20) (len := 8) (y := 8) (E := el_X2_init_91_5) (st' := [zr ((91, 2, 0) : zF)]) hg (by rw [hg, zof_len, hl]; rfl) rfl (fun g6 hg => ?_)
  replace hg : g6 = zof h el_X2_init_91_6 := hg
  refine zc_e (ev := (2, 91, 2, 99, 20, 8)) (E := el_X2_init_91_6) (st' := []) hg rfl (fun g7 hg => ?_)
  replace hg : g7 = zof h el_X2_init_91_7 := hg
  refine zwp.go (m := 2) (j := 17) (ls' := [some (zr ((91, 2, 0) : zF))]) (st' := [zi (8 : Int32), zr ((91, 2, 0) : zF)]) (h' := g7) rfl ?_
  refine zc_n (n := 100) (x := 22) (len := 8) (y := 8) (E := el_X2_init_91_7) (st' := [zr ((91, 2, 0) : zF)]) hg (by rw [hg, zof_len, hl]; rfl) rfl (fun g8 hg => ?_)
  replace hg : g8 = zof h el_X2_init_91_8 := hg
  refine zc_e (ev := (2, 91, 3, 100, 22, 8)) (E := el_X2_init_91_8) (st' := []) hg rfl (fun g9 hg => ?_)
  replace hg : g9 = zof h el_X2_init_91_9 := hg
  refine zwp.go (m := 2) (j := 21) (ls' := [some (zr ((91, 2, 0) : zF))]) (st' := [zi (3 : Int32), zr ((91, 2, 0) : zF)]) (h' := g9) rfl ?_
  refine zc_n (n := 101) (x := 20) (len := 3) (y := 3) (E := el_X2_init_91_9) (st' := [zr ((91, 2, 0) : zF)]) hg (by rw [hg, zof_len, hl]; rfl) rfl (fun g10 hg => ?_)
  replace hg : g10 = zof h el_X2_init_91_10 := hg
  refine zc_e (ev := (2, 91, 4, 101, 20, 3)) (E := el_X2_init_91_10) (st' := []) hg rfl (fun g11 hg => ?_)
  replace hg : g11 = zof h el_X2_init_91_11 := hg
  refine zwp.go (m := 2) (j := 25) (ls' := [some (zr ((91, 2, 0) : zF))]) (st' := [zi (1520 : Int32), zr ((91, 2, 0) : zF)]) (h' := g11) rfl ?_
  refine zc_n (n := 102) (x := 20) (len := 1520) (y := 1520) (E := el_X2_init_91_11) (st' := [zr ((91, 2, 0) : zF)]) hg (by rw [hg, zof_len, hl]; rfl) rfl (fun g12 hg => ?_)
  replace hg : g12 = zof h el_X2_init_91_12 := hg
  refine zc_e (ev := (2, 91, 5, 102, 20, 1520)) (E := el_X2_init_91_12) (st' := []) hg rfl (fun g13 hg => ?_)
  replace hg : g13 = zof h el_X2_init_91_13 := hg
  refine zwp.go (m := 2) (j := 29) (ls' := [some (zr ((91, 2, 0) : zF))]) (st' := [zi (0 : Int32), zr ((91, 2, 0) : zF)]) (h' := g13) rfl ?_
  refine zc_e (ev := (1, 91, 6, 0, 0, 0)) (E := el_X2_init_91_13) (st' := []) hg rfl (fun g14 hg => ?_)
  replace hg : g14 = zof h el_X2_init_91_14 := hg
  refine zwp.go (m := 2) (j := 32) (ls' := [some (zr ((91, 2, 0) : zF))]) (st' := [zi (0 : Int32), zr ((91, 2, 0) : zF)]) (h' := g14) rfl ?_
  refine zc_e (ev := (1, 91, 7, 0, 0, 0)) (E := el_X2_init_91_14) (st' := []) hg rfl (fun g15 hg => ?_)
  replace hg : g15 = zof h el_X2_init_91_15 := hg
  exact zwp.rv rfl ⟨rfl, hg⟩
