/-! ===== constructors, 3 ===== -/
def el_X11_init_52_0 : List zEv := []
def el_X11_init_52_1 : List zEv := (0, 24, 2, 2, 53, 0) :: el_X11_init_52_0
def el_X11_init_52_2 : List zEv := (2, 53, 0, 29, 30, 0) :: el_X11_init_52_1
def el_X11_init_52_3 : List zEv := (2, 53, 1, 30, 30, 0) :: el_X11_init_52_2
def el_X11_init_52_4 : List zEv := (2, 52, 0, 53, 24, 2) :: el_X11_init_52_3
def el_X11_init_52_5 : List zEv := (0, 24, 5, 5, 54, 0) :: el_X11_init_52_4
def el_X11_init_52_6 : List zEv := (2, 54, 0, 31, 30, 0) :: el_X11_init_52_5
def el_X11_init_52_7 : List zEv := (2, 54, 1, 32, 30, 0) :: el_X11_init_52_6
def el_X11_init_52_8 : List zEv := (2, 54, 2, 33, 30, 0) :: el_X11_init_52_7
def el_X11_init_52_9 : List zEv := (2, 54, 3, 34, 30, 0) :: el_X11_init_52_8
def el_X11_init_52_10 : List zEv := (2, 54, 4, 35, 30, 0) :: el_X11_init_52_9
def el_X11_init_52_11 : List zEv := (2, 52, 1, 54, 24, 5) :: el_X11_init_52_10
def el_X11_init_52_12 : List zEv := (0, 24, 5, 5, 55, 0) :: el_X11_init_52_11
def el_X11_init_52_13 : List zEv := (2, 55, 0, 36, 30, 0) :: el_X11_init_52_12
def el_X11_init_52_14 : List zEv := (2, 55, 1, 31, 30, 0) :: el_X11_init_52_13
def el_X11_init_52_15 : List zEv := (2, 55, 2, 32, 30, 0) :: el_X11_init_52_14
def el_X11_init_52_16 : List zEv := (2, 55, 3, 37, 30, 0) :: el_X11_init_52_15
def el_X11_init_52_17 : List zEv := (2, 55, 4, 35, 30, 0) :: el_X11_init_52_16
def el_X11_init_52_18 : List zEv := (2, 52, 2, 55, 24, 5) :: el_X11_init_52_17
def el_X11_init_52_19 : List zEv := (2, 52, 3, 54, 24, 5) :: el_X11_init_52_18
def el_X11_init_52_20 : List zEv := (0, 20, 12, 12, 56, 0) :: el_X11_init_52_19
def el_X11_init_52_21 : List zEv := (2, 52, 5, 56, 20, 12) :: el_X11_init_52_20
def el_X11_init_52_22 : List zEv := (0, 20, 24, 24, 57, 0) :: el_X11_init_52_21
def el_X11_init_52_23 : List zEv := (2, 52, 6, 57, 20, 24) :: el_X11_init_52_22
def el_X11_init_52_24 : List zEv := (0, 20, 24, 24, 58, 0) :: el_X11_init_52_23
def el_X11_init_52_25 : List zEv := (2, 52, 7, 58, 20, 24) :: el_X11_init_52_24
def el_X11_init_52_26 : List zEv := (0, 20, 16, 16, 59, 0) :: el_X11_init_52_25
def el_X11_init_52_27 : List zEv := (2, 52, 8, 59, 20, 16) :: el_X11_init_52_26
def el_X11_init_52_28 : List zEv := (0, 20, 1400, 1400, 60, 0) :: el_X11_init_52_27
def el_X11_init_52_29 : List zEv := (2, 52, 9, 60, 20, 1400) :: el_X11_init_52_28
def el_X11_init_52_30 : List zEv := (0, 20, 1400, 1400, 61, 0) :: el_X11_init_52_29
def el_X11_init_52_31 : List zEv := (2, 52, 10, 61, 20, 1400) :: el_X11_init_52_30
def el_X11_init_52_32 : List zEv := (0, 20, 3, 3, 62, 0) :: el_X11_init_52_31
def el_X11_init_52_33 : List zEv := (2, 52, 11, 62, 20, 3) :: el_X11_init_52_32
def el_X11_init_52_34 : List zEv := (0, 20, 700, 700, 63, 0) :: el_X11_init_52_33
def el_X11_init_52_35 : List zEv := (2, 52, 12, 63, 20, 700) :: el_X11_init_52_34
def el_X11_init_52_36 : List zEv := (1, 52, 22, 4294967295, 0, 0) :: el_X11_init_52_35
def el_X11_init_52_37 : List zEv := (0, 20, 12, 12, 64, 0) :: el_X11_init_52_36
def el_X11_init_52_38 : List zEv := (2, 52, 24, 64, 20, 12) :: el_X11_init_52_37
def el_X11_init_52_39 : List zEv := (0, 20, 2, 2, 65, 0) :: el_X11_init_52_38
def el_X11_init_52_40 : List zEv := (2, 52, 25, 65, 20, 2) :: el_X11_init_52_39
def el_X11_init_52_41 : List zEv := (0, 20, 9, 9, 66, 0) :: el_X11_init_52_40
def el_X11_init_52_42 : List zEv := (2, 52, 26, 66, 20, 9) :: el_X11_init_52_41
def el_X11_init_52_43 : List zEv := (0, 20, 9, 9, 67, 0) :: el_X11_init_52_42
def el_X11_init_52_44 : List zEv := (2, 52, 27, 67, 20, 9) :: el_X11_init_52_43
def el_X11_init_52_45 : List zEv := (0, 20, 1520, 1520, 68, 0) :: el_X11_init_52_44
def el_X11_init_52_46 : List zEv := (2, 52, 28, 68, 20, 1520) :: el_X11_init_52_45
def el_X11_init_52_47 : List zEv := (0, 20, 5, 5, 69, 0) :: el_X11_init_52_46
def el_X11_init_52_48 : List zEv := (2, 52, 37, 69, 20, 5) :: el_X11_init_52_47
def el_X11_init_52_49 : List zEv := (0, 20, 64, 64, 70, 0) :: el_X11_init_52_48
def el_X11_init_52_50 : List zEv := (2, 52, 38, 70, 20, 64) :: el_X11_init_52_49
def el_X11_init_52_51 : List zEv := (0, 20, 38, 38, 71, 0) :: el_X11_init_52_50
def el_X11_init_52_52 : List zEv := (2, 52, 42, 71, 20, 38) :: el_X11_init_52_51
def el_X11_init_52_53 : List zEv := (0, 20, 60, 60, 72, 0) :: el_X11_init_52_52
def el_X11_init_52_54 : List zEv := (2, 52, 43, 72, 20, 60) :: el_X11_init_52_53
def el_X11_init_52_55 : List zEv := (0, 20, 60, 60, 73, 0) :: el_X11_init_52_54
def el_X11_init_52_56 : List zEv := (2, 52, 44, 73, 20, 60) :: el_X11_init_52_55
def el_X11_init_52_57 : List zEv := (0, 20, 60, 60, 74, 0) :: el_X11_init_52_56
def el_X11_init_52_58 : List zEv := (2, 52, 45, 74, 20, 60) :: el_X11_init_52_57
def el_X11_init_52_59 : List zEv := (0, 20, 2048, 2048, 75, 0) :: el_X11_init_52_58
def el_X11_init_52_60 : List zEv := (2, 52, 47, 75, 20, 2048) :: el_X11_init_52_59
def el_X11_init_52_61 : List zEv := (0, 20, 8, 8, 76, 0) :: el_X11_init_52_60
def el_X11_init_52_62 : List zEv := (2, 52, 48, 76, 20, 8) :: el_X11_init_52_61
def el_X11_init_52_63 : List zEv := (0, 20, 8, 8, 77, 0) :: el_X11_init_52_62
def el_X11_init_52_64 : List zEv := (2, 52, 49, 77, 20, 8) :: el_X11_init_52_63
def el_X11_init_52_65 : List zEv := (0, 20, 38, 38, 78, 0) :: el_X11_init_52_64
def el_X11_init_52_66 : List zEv := (2, 52, 50, 78, 20, 38) :: el_X11_init_52_65
def el_X11_init_52_67 : List zEv := (0, 22, 8, 8, 79, 0) :: el_X11_init_52_66
def el_X11_init_52_68 : List zEv := (2, 52, 51, 79, 22, 8) :: el_X11_init_52_67
def el_X11_init_52_69 : List zEv := (0, 20, 1188, 1188, 80, 0) :: el_X11_init_52_68
def el_X11_init_52_70 : List zEv := (2, 52, 52, 80, 20, 1188) :: el_X11_init_52_69
def el_X11_init_52_71 : List zEv := (0, 20, 23760, 23760, 81, 0) :: el_X11_init_52_70
def el_X11_init_52_72 : List zEv := (2, 52, 53, 81, 20, 23760) :: el_X11_init_52_71
def el_X11_init_52_73 : List zEv := (0, 20, 4096, 4096, 82, 0) :: el_X11_init_52_72
def el_X11_init_52_74 : List zEv := (2, 52, 55, 82, 20, 4096) :: el_X11_init_52_73
def el_X11_init_52_75 : List zEv := (0, 20, 8, 8, 83, 0) :: el_X11_init_52_74
def el_X11_init_52_76 : List zEv := (2, 52, 57, 83, 20, 8) :: el_X11_init_52_75
def el_X11_init_52_77 : List zEv := (0, 20, 38, 38, 84, 0) :: el_X11_init_52_76
def el_X11_init_52_78 : List zEv := (2, 52, 62, 84, 20, 38) :: el_X11_init_52_77
def el_X11_init_52_79 : List zEv := (0, 20, 1520, 1520, 85, 0) :: el_X11_init_52_78
def el_X11_init_52_80 : List zEv := (2, 52, 63, 85, 20, 1520) :: el_X11_init_52_79
def el_X11_init_52_81 : List zEv := (0, 20, 8, 8, 86, 0) :: el_X11_init_52_80
def el_X11_init_52_82 : List zEv := (2, 52, 64, 86, 20, 8) :: el_X11_init_52_81
def el_X11_init_52_83 : List zEv := (0, 20, 8, 8, 87, 0) :: el_X11_init_52_82
def el_X11_init_52_84 : List zEv := (2, 52, 65, 87, 20, 8) :: el_X11_init_52_83
def el_X11_init_52_85 : List zEv := (0, 20, 3, 3, 88, 0) :: el_X11_init_52_84
def el_X11_init_52_86 : List zEv := (2, 52, 66, 88, 20, 3) :: el_X11_init_52_85
def el_X11_init_52_87 : List zEv := (0, 22, 8, 8, 89, 0) :: el_X11_init_52_86
def el_X11_init_52_88 : List zEv := (2, 52, 67, 89, 22, 8) :: el_X11_init_52_87
def el_X11_init_52_89 : List zEv := (1, 56, 2, 3, 0, 0) :: el_X11_init_52_88
def el_X11_init_52_90 : List zEv := (1, 56, 3, 3, 0, 0) :: el_X11_init_52_89
def el_X11_init_52_91 : List zEv := (1, 65, 0, 3, 0, 0) :: el_X11_init_52_90
def el_X11_init_52_92 : List zEv := (1, 65, 1, 3, 0, 0) :: el_X11_init_52_91
def e_X11_init_52 : List zEv := el_X11_init_52_92
set_option maxRecDepth 100000 in
theorem i_X11_init_52 (d : Nat) (h : zH) (hl : (zK h).length = 53) : zcl (d + 0) 15 [zr ((52, 11, 0) : zF)] h (zPv (zof h e_X11_init_52)) := by
  refine ⟨zm_X11_init, rfl, ?_⟩
  show zwp (d + 0) zm_X11_init 0 [some (zr ((52, 11, 0) : zF))] [] h _
  have hg : h = zof h el_X11_init_52_0 := rfl
  refine zwp.go (m := 4) (j := 4) (ls' := [some (zr ((52, 11, 0) : zF))]) (st' := [zi (2 : Int32), zr ((52, 11, 0) : zF)]) (h' := h) rfl ?_
  refine zc_n (n := 53) (x := 24) (len := 2) (y := 2) (E := el_X11_init_52_0) (st' := [zr ((52, 11, 0) : zF)]) hg (by rw [hg, zof_len, hl]; rfl) rfl (fun g1 hg => ?_)
  replace hg : g1 = zof h el_X11_init_52_1 := hg
  refine zwp.go (m := 3) (j := 8) (ls' := [some (zr ((52, 11, 0) : zF))]) (st' := [zr ((29, 30, 0) : zF), zi (0 : Int32), zr ((53, 24, 2) : zF), zr ((53, 24, 2) : zF), zr ((52, 11, 0) : zF)]) (h' := g1) rfl ?_
  refine zc_e (ev := (2, 53, 0, 29, 30, 0)) (E := el_X11_init_52_1) (st' := [zr ((53, 24, 2) : zF), zr ((52, 11, 0) : zF)]) hg rfl (fun g2 hg => ?_)
  replace hg : g2 = zof h el_X11_init_52_2 := hg
  refine zwp.go (m := 3) (j := 12) (ls' := [some (zr ((52, 11, 0) : zF))]) (st' := [zr ((30, 30, 0) : zF), zi (1 : Int32), zr ((53, 24, 2) : zF), zr ((53, 24, 2) : zF), zr ((52, 11, 0) : zF)]) (h' := g2) rfl ?_
  refine zc_e (ev := (2, 53, 1, 30, 30, 0)) (E := el_X11_init_52_2) (st' := [zr ((53, 24, 2) : zF), zr ((52, 11, 0) : zF)]) hg rfl (fun g3 hg => ?_)
  replace hg : g3 = zof h el_X11_init_52_3 := hg
  refine zc_e (ev := (2, 52, 0, 53, 24, 2)) (E := el_X11_init_52_3) (st' := []) hg rfl (fun g4 hg => ?_)
  replace hg : g4 = zof h el_X11_init_52_4 := hg
  refine zwp.go (m := 2) (j := 16) (ls' := [some (zr ((52, 11, 0) : zF))]) (st' := [zi (5 : Int32), zr ((52, 11, 0) : zF)]) (h' := g4) rfl ?_
  refine zc_n (n := 54) (x := 24) (len := 5) (y := 5) (E := el_X11_init_52_4) (st' := [zr ((52, 11, 0) : zF)]) hg (by rw [hg, zof_len, hl]; rfl) rfl (fun g5 hg => ?_)
  replace hg : g5 = zof h el_X11_init_52_5 := hg
  refine zwp.go (m := 3) (j := 20) (ls' := [some (zr ((52, 11, 0) : zF))]) (st' := [zr ((31, 30, 0) : zF), zi (0 : Int32), zr ((54, 24, 5) : zF), zr ((54, 24, 5) : zF), zr ((52, 11, 0) : zF)]) (h' := g5) rfl ?_
  refine zc_e (ev := (2, 54, 0, 31, 30, 0)) (E := el_X11_init_52_5) (st' := [zr ((54, 24, 5) : zF), zr ((52, 11, 0) : zF)]) hg rfl (fun g6 hg => ?_)
  replace hg : g6 = zof h el_X11_init_52_6 := hg
  refine zwp.go (m := 3) (j := 24) (ls' := [some (zr ((52, 11, 0) : zF))]) (st' := [zr ((32, 30, 0) : zF), zi (1 : Int32), zr ((54, 24, 5) : zF), zr ((54, 24, 5) : zF), zr ((52, 11, 0) : zF)]) (h' := g6) rfl ?_
  refine zc_e (ev := (2, 54, 1, 32, 30, 0)) (E := el_X11_init_52_6) (st' := [zr ((54, 24, 5) : zF), zr ((52, 11, 0) : zF)]) hg rfl (fun g7 hg => ?_)
  replace hg : g7 = zof h el_X11_init_52_7 := hg
  refine zwp.go (m := 3) (j := 28) (ls' := [some (zr ((52, 11, 0) : zF))]) (st' := [zr ((33, 30, 0) : zF), zi (2 : Int32), zr ((54, 24, 5) : zF), zr ((54, 24, 5) : zF), zr ((52, 11, 0) : zF)]) (h' := g7) rfl ?_
  refine zc_e (ev := (2, 54, 2, 33, 30, 0)) (E := el_X11_init_52_7) (st' := [zr ((54, 24, 5) : zF), zr ((52, 11, 0) : zF)]) hg rfl (fun g8 hg => ?_)
  replace hg : g8 = zof h el_X11_init_52_8 := hg
  refine zwp.go (m := 3) (j := 32) (ls' := [some (zr ((52, 11, 0) : zF))]) (st' := [zr ((34, 30, 0) : zF), zi (3 : Int32), zr ((54, 24, 5) : zF), zr ((54, 24, 5) : zF), zr ((52, 11, 0) : zF)]) (h' := g8) rfl ?_
  refine zc_e (ev := (2, 54, 3, 34, 30, 0)) (E := el_X11_init_52_8) (st' := [zr ((54, 24, 5) : zF), zr ((52, 11, 0) : zF)]) hg rfl (fun g9 hg => ?_)
  replace hg : g9 = zof h el_X11_init_52_9 := hg
  refine zwp.go (m := 3) (j := 36) (ls' := [some (zr ((52, 11, 0) : zF))]) (st' := [zr ((35, 30, 0) : zF), zi (4 : Int32), zr ((54, 24, 5) : zF), zr ((54, 24, 5) : zF), zr ((52, 11, 0) : zF)]) (h' := g9) rfl ?_
  refine zc_e (ev := (2, 54, 4, 35, 30, 0)) (E := el_X11_init_52_9) (st' := [zr ((54, 24, 5) : zF), zr ((52, 11, 0) : zF)]) hg rfl (fun g10 hg => ?_)
  replace hg : g10 = zof h el_X11_init_52_10 := hg
  refine zc_e (ev := (2, 52, 1, 54, 24, 5)) (E := el_X11_init_52_10) (st' := []) hg rfl (fun g11 hg => ?_)
  replace hg : g11 = zof h el_X11_init_52_11 := hg
  refine zwp.go (m := 2) (j := 40) (ls' := [some (zr ((52, 11, 0) : zF))]) (st' := [zi (5 : Int32), zr ((52, 11, 0) : zF)]) (h' := g11) rfl ?_
  refine zc_n (n := 55) (x := 24) (len := 5) (y := 5) (E := el_X11_init_52_11) (st' := [zr ((52, 11, 0) : zF)]) hg (by rw [hg, zof_len, hl]; rfl) rfl (fun g12 hg => ?_)
  replace hg : g12 = zof h el_X11_init_52_12 := hg
  refine zwp.go (m := 3) (j := 44) (ls' := [some (zr ((52, 11, 0) : zF))]) (st' := [zr ((36, 30, 0) : zF), zi (0 : Int32), zr ((55, 24, 5) : zF), zr ((55, 24, 5) : zF), zr ((52, 11, 0) : zF)]) (h' := g12) rfl ?_
  refine zc_e (ev := (2, 55, 0, 36, 30, 0)) (E := el_X11_init_52_12) (st' := [zr ((55, 24, 5) : zF), zr ((52, 11, 0) : zF)]) hg rfl (fun g13 hg => ?_)
  replace hg : g13 = zof h el_X11_init_52_13 := hg
  refine zwp.go (m := 3) (j := 48) (ls' := [some (zr ((52, 11, 0) : zF))]) (st' := [zr ((31, 30, 0) : zF), zi (1 : Int32), zr ((55, 24, 5) : zF), zr ((55, 24, 5) : zF), zr ((52, 11, 0) : zF)]) (h' := g13) rfl ?_
  refine zc_e (ev := (2, 55, 1, 31, 30, 0)) (E := el_X11_init_52_13) (st' := [zr ((55, 24, 5) : zF), zr ((52, 11, 0) : zF)]) hg rfl (fun g14 hg => ?_)
  replace hg : g14 = zof h el_X11_init_52_14 := hg
  refine zwp.go (m := 3) (j := 52) (ls' := [some (zr ((52, 11, 0) : zF))]) (st' := [zr ((32, 30, 0) : zF), zi (2 : Int32), zr ((55, 24, 5) : zF), zr ((55, 24, 5) : zF), zr ((52, 11, 0) : zF)]) (h' := g14) rfl ?_
  refine zc_e (ev := (2, 55, 2, 32, 30, 0)) (E := el_X11_init_52_14) (st' := [zr ((55, 24, 5) : zF), zr ((52, 11, 0) : zF)]) hg rfl (fun g15 hg => ?_)
  replace hg : g15 = zof h el_X11_init_52_15 := hg
  refine zwp.go (m := 3) (j := 56) (ls' := [some (zr ((52, 11, 0) : zF))]) (st' := [zr ((37, 30, 0) : zF), zi (3 : Int32), zr ((55, 24, 5) : zF), zr ((55, 24, 5) : zF), zr ((52, 11, 0) : zF)]) (h' := g15) rfl ?_
  refine zc_e (ev := (2, 55, 3, 37, 30, 0)) (E := el_X11_init_52_15) (st' := [zr ((55, 24, 5) : zF), zr ((52, 11, 0) : zF)]) hg rfl (fun g16 hg => ?_)
  replace hg : g16 = zof h el_X11_init_52_16 := hg
  refine zwp.go (m := 3) (j := 60) (ls' := [some (zr ((52, 11, 0) : zF))]) (st' := [zr ((35, 30, 0) : zF), zi (4 : Int32), zr ((55, 24, 5) : zF), zr ((55, 24, 5) : zF), zr ((52, 11, 0) : zF)]) (h' := g16) rfl ?_
  refine zc_e (ev := (2, 55, 4, 35, 30, 0)) (E := el_X11_init_52_16) (st' := [zr ((55, 24, 5) : zF), zr ((52, 11, 0) : zF)]) hg rfl (fun g17 hg => ?_)
  replace hg : g17 = zof h el_X11_init_52_17 := hg
  refine zc_e (ev := (2, 52, 2, 55, 24, 5)) (E := el_X11_init_52_17) (st' := []) hg rfl (fun g18 hg => ?_)
  replace hg : g18 = zof h el_X11_init_52_18 := hg
  refine zwp.go (m := 2) (j := 64) (ls' := [some (zr ((52, 11, 0) : zF))]) (st' := [zr ((52, 11, 0) : zF), zr ((52, 11, 0) : zF)]) (h' := g18) rfl ?_
  refine zc_sr (r := ((54, 24, 5) : zF)) (a := 52) (y := 1) (by rw [hg]; rfl) rfl ?_
  refine zc_e (ev := (2, 52, 3, 54, 24, 5)) (E := el_X11_init_52_18) (st' := []) hg rfl (fun g19 hg => ?_)
  replace hg : g19 = zof h el_X11_init_52_19 := hg
  refine zwp.go (m := 2) (j := 68) (ls' := [some (zr ((52, 11, 0) : zF))]) (st' := [zi (12 : Int32), zr ((52, 11, 0) : zF)]) (h' := g19) rfl ?_
  refine zc_n (n := 56) (x := 20) (len := 12) (y := 12) (E := el_X11_init_52_19) (st' := [zr ((52, 11, 0) : zF)]) hg (by rw [hg, zof_len, hl]; rfl) rfl (fun g20 hg => ?_)
  replace hg : g20 = zof h el_X11_init_52_20 := hg
  refine zc_e (ev := (2, 52, 5, 56, 20, 12)) (E := el_X11_init_52_20) (st' := []) hg rfl (fun g21 hg => ?_)
  replace hg : g21 = zof h el_X11_init_52_21 := hg
  refine zwp.go (m := 2) (j := 72) (ls' := [some (zr ((52, 11, 0) : zF))]) (st' := [zi (24 : Int32), zr ((52, 11, 0) : zF)]) (h' := g21) rfl ?_
  refine zc_n (n := 57) (x := 20) (len := 24) (y := 24) (E := el_X11_init_52_21) (st' := [zr ((52, 11, 0) : zF)]) hg (by rw [hg, zof_len, hl]; rfl) rfl (fun g22 hg => ?_)
  replace hg : g22 = zof h el_X11_init_52_22 := hg
  refine zc_e (ev := (2, 52, 6, 57, 20, 24)) (E := el_X11_init_52_22) (st' := []) hg rfl (fun g23 hg => ?_)
  replace hg : g23 = zof h el_X11_init_52_23 := hg
  refine zwp.go (m := 2) (j := 76) (ls' := [some (zr ((52, 11, 0) : zF))]) (st' := [zi (24 : Int32), zr ((52, 11, 0) : zF)]) (h' := g23) rfl ?_
  refine zc_n (n := 58) (x := 20) (len := 24) (y := 24) (E := el_X11_init_52_23) (st' := [zr ((52, 11, 0) : zF)]) hg (by rw [hg, zof_len, hl]; rfl) rfl (fun g24 hg => ?_)
  replace hg : g24 = zof h el_X11_init_52_24 := hg
  refine zc_e (ev := (2, 52, 7, 58, 20, 24)) (E := el_X11_init_52_24) (st' := []) hg rfl (fun g25 hg => ?_)
  replace hg : g25 = zof h el_X11_init_52_25 := hg
  refine zwp.go (m := 2) (j := 80) (ls' := [some (zr ((52, 11, 0) : zF))]) (st' := [zi (16 : Int32), zr ((52, 11, 0) : zF)]) (h' := g25) rfl ?_
  refine zc_n (n := 59) (x := 20) (len := 16) (y := 16) (E := el_X11_init_52_25) (st' := [zr ((52, 11, 0) : zF)]) hg (by rw [hg, zof_len, hl]; rfl) rfl (fun g26 hg => ?_)
  replace hg : g26 = zof h el_X11_init_52_26 := hg
  refine zc_e (ev := (2, 52, 8, 59, 20, 16)) (E := el_X11_init_52_26) (st' := []) hg rfl (fun g27 hg => ?_)
  replace hg : g27 = zof h el_X11_init_52_27 := hg
  refine zwp.go (m := 2) (j := 84) (ls' := [some (zr ((52, 11, 0) : zF))]) (st' := [zi (1400 : Int32), zr ((52, 11, 0) : zF)]) (h' := g27) rfl ?_
  refine zc_n (n := 60) (x := 20) (len := 1400) (y := 1400) (E := el_X11_init_52_27) (st' := [zr ((52, 11, 0) : zF)]) hg (by rw [hg, zof_len, hl]; rfl) rfl (fun g28 hg => ?_)
  replace hg : g28 = zof h el_X11_init_52_28 := hg
  refine zc_e (ev := (2, 52, 9, 60, 20, 1400)) (E := el_X11_init_52_28) (st' := []) hg rfl (fun g29 hg => ?_)
  replace hg : g29 = zof h el_X11_init_52_29 := hg
  refine zwp.go (m := 2) (j := 88) (ls' := [some (zr ((52, 11, 0) : zF))]) (st' := [zi (1400 : Int32), zr ((52, 11, 0) : zF)]) (h' := g29) rfl ?_
  refine zc_n (n := 61) (x := 20) (len := 1400) (y := 1400) (E := el_X11_init_52_29) (st' := [zr ((52, 11, 0) : zF)]) hg (by rw [hg, zof_len, hl]; rfl) rfl (fun g30 hg => ?_)
  replace hg : g30 = zof h el_X11_init_52_30 := hg
  refine zc_e (ev := (2, 52, 10, 61, 20, 1400)) (E := el_X11_init_52_30) (st' := []) hg rfl (fun g31 hg => ?_)
  replace hg : g31 = zof h el_X11_init_52_31 := hg
  refine zwp.go (m := 2) (j := 92) (ls' := [some (zr ((52, 11, 0) : zF))]) (st' := [zi (3 : Int32), zr ((52, 11, 0) : zF)]) (h' := g31) rfl ?_
  refine zc_n (n := 62) (x := 20) (len := 3) (y := 3) (E := el_X11_init_52_31) (st' := [zr ((52, 11, 0) : zF)]) hg (by rw [hg, zof_len, hl]; rfl) rfl (fun g32 hg => ?_)
  replace hg : g32 = zof h el_X11_init_52_32 := hg
  refine zc_e (ev := (2, 52, 11, 62, 20, 3)) (E := el_X11_init_52_32) (st' := []) hg rfl (fun g33 hg => ?_)
  replace hg : g33 = zof h el_X11_init_52_33 := hg
  refine zwp.go (m := 2) (j := 96) (ls' := [some (zr ((52, 11, 0) : zF))]) (st' := [zi (700 : Int32), zr ((52, 11, 0) : zF)]) (h' := g33) rfl ?_
  refine zc_n (n := 63) (x := 20) (len := 700) (y := 700) (E := el_X11_init_52_33) (st' := [zr ((52, 11, 0) : zF)]) hg (by rw [hg, zof_len, hl]; rfl) rfl (fun g34 hg => ?_)
  replace hg : g34 = zof h el_X11_init_52_34 := hg
  refine zc_e (ev := (2, 52, 12, 63, 20, 700)) (E := el_X11_init_52_34) (st' := []) hg rfl (fun g35 hg => ?_)
  replace hg : g35 = zof h el_X11_init_52_35 := hg
  refine zwp.go (m := 2) (j := 100) (ls' := [some (zr ((52, 11, 0) : zF))]) (st' := [zi (-1 : Int32), zr ((52, 11, 0) : zF)]) (h' := g35) rfl ?_
  refine zc_e (ev := (1, 52, 22, 4294967295, 0, 0)) (E := el_X11_init_52_35) (st' := []) hg rfl (fun g36 hg => ?_)
  replace hg : g36 = zof h el_X11_init_52_36 := hg
  refine zwp.go (m := 2) (j := 103) (ls' := [some (zr ((52, 11, 0) : zF))]) (st' := [zi (12 : Int32), zr ((52, 11, 0) : zF)]) (h' := g36) rfl ?_
  refine zc_n (n := 64) (x := 20) (len := 12) (y := 12) (E := el_X11_init_52_36) (st' := [zr ((52, 11, 0) : zF)]) hg (by rw [hg, zof_len, hl]; rfl) rfl (fun g37 hg => ?_)
  replace hg : g37 = zof h el_X11_init_52_37 := hg
  refine zc_e (ev := (2, 52, 24, 64, 20, 12)) (E := el_X11_init_52_37) (st' := []) hg rfl (fun g38 hg => ?_)
  replace hg : g38 = zof h el_X11_init_52_38 := hg
  refine zwp.go (m := 2) (j := 107) (ls' := [some (zr ((52, 11, 0) : zF))]) (st' := [zi (2 : Int32), zr ((52, 11, 0) : zF)]) (h' := g38) rfl ?_
  refine zc_n (n := 65) (x := 20) (len := 2) (y := 2) (E := el_X11_init_52_38) (st' := [zr ((52, 11, 0) : zF)]) hg (by rw [hg, zof_len, hl]; rfl) rfl (fun g39 hg => ?_)
  replace hg : g39 = zof h el_X11_init_52_39 := hg
  refine zc_e (ev := (2, 52, 25, 65, 20, 2)) (E := el_X11_init_52_39) (st' := []) hg rfl (fun g40 hg => ?_)
  replace hg : g40 = zof h el_X11_init_52_40 := hg
  refine zwp.go (m := 2) (j := 111) (ls' := [some (zr ((52, 11, 0) : zF))]) (st' := [zi (9 : Int32), zr ((52, 11, 0) : zF)]) (h' := g40) rfl ?_
  refine zc_n (n := 66) (x := 20) (len := 9) (y := 9) (E := el_X11_init_52_40) (st' := [zr ((52, 11, 0) : zF)]) hg (by rw [hg, zof_len, hl]; rfl) rfl (fun g41 hg => ?_)
  replace hg : g41 = zof h el_X11_init_52_41 := hg
  refine zc_e (ev := (2, 52, 26, 66, 20, 9)) (E := el_X11_init_52_41) (st' := []) hg rfl (fun g42 hg => ?_)
  replace hg : g42 = zof h el_X11_init_52_42 := hg
  refine zwp.go (m := 2) (j := 115) (ls' := [some (zr ((52, 11, 0) : zF))]) (st' := [zi (9 : Int32), zr ((52, 11, 0) : zF)]) (h' := g42) rfl ?_
  refine zc_n (n := 67) (x := 20) (len := 9) (y := 9) (E := el_X11_init_52_42) (st' := [zr ((52, 11, 0) : zF)]) hg (by rw [hg, zof_len, hl]; rfl) rfl (fun g43 hg => ?_)
  replace hg : g43 = zof h el_X11_init_52_43 := hg
  refine zc_e (ev := (2, 52, 27, 67, 20, 9)) (E := el_X11_init_52_43) (st' := []) hg rfl (fun g44 hg => ?_)
  replace hg : g44 = zof h el_X11_init_52_44 := hg
  refine zwp.go (m := 2) (j := 119) (ls' := [some (zr ((52, 11, 0) : zF))]) (st' := [zi (1520 : Int32), zr ((52, 11, 0) : zF)]) (h' := g44) rfl ?_
  refine zc_n (n := 68) (x := 20) (len := 1520) (y := 1520) (E := el_X11_init_52_44) (st' := [zr ((52, 11, 0) : zF)]) hg (by rw [hg, zof_len, hl]; rfl) rfl (fun g45 hg => ?_)
  replace hg : g45 = zof h el_X11_init_52_45 := hg
  refine zc_e (ev := (2, 52, 28, 68, 20, 1520)) (E := el_X11_init_52_45) (st' := []) hg rfl (fun g46 hg => ?_)
  replace hg : g46 = zof h el_X11_init_52_46 := hg
  refine zwp.go (m := 2) (j := 123) (ls' := [some (zr ((52, 11, 0) : zF))]) (st' := [zi (5 : Int32), zr ((52, 11, 0) : zF)]) (h' := g46) rfl ?_
  refine zc_n (n := 69) (x := 20) (len := 5) (y := 5) (E := el_X11_init_52_46) (st' := [zr ((52, 11, 0) : zF)]) hg (by rw [hg, zof_len, hl]; rfl) rfl (fun g47 hg => ?_)
  replace hg : g47 = zof h el_X11_init_52_47 := hg
  refine zc_e (ev := (2, 52, 37, 69, 20, 5)) (E := el_X11_init_52_47) (st' := []) hg rfl (fun g48 hg => ?_)
  replace hg : g48 = zof h el_X11_init_52_48 := hg
  refine zwp.go (m := 2) (j := 127) (ls' := [some (zr ((52, 11, 0) : zF))]) (st' := [zi (64 : Int32), zr ((52, 11, 0) : zF)]) (h' := g48) rfl ?_
  refine zc_n (n := 70) (x := 20) (len := 64) (y := 64) (E := el_X11_init_52_48) (st' := [zr ((52, 11, 0) : zF)]) hg (by rw [hg, zof_len, hl]; rfl) rfl (fun g49 hg => ?_)
  replace hg : g49 = zof h el_X11_init_52_49 := hg
  refine zc_e (ev := (2, 52, 38, 70, 20, 64)) (E := el_X11_init_52_49) (st' := []) hg rfl (fun g50 hg => ?_)
  replace hg : g50 = zof h el_X11_init_52_50 := hg
  refine zwp.go (m := 2) (j := 131) (ls' := [some (zr ((52, 11, 0) : zF))]) (st' := [zi (38 : Int32), zr ((52, 11, 0) : zF)]) (h' := g50) rfl ?_
  refine zc_n (n := 71) (x := 20) (len := 38) (y := 38) (E := el_X11_init_52_50) (st' := [zr ((52, 11, 0) : zF)]) hg (by rw [hg, zof_len, hl]; rfl) rfl (fun g51 hg => ?_)
  replace hg : g51 = zof h el_X11_init_52_51 := hg
  refine zc_e (ev := (2, 52, 42, 71, 20, 38)) (E := el_X11_init_52_51) (st' := []) hg rfl (fun g52 hg => ?_)
  replace hg : g52 = zof h el_X11_init_52_52 := hg
  refine zwp.go (m := 2) (j := 135) (ls' := [some (zr ((52, 11, 0) : zF))]) (st' := [zi (60 : Int32), zr ((52, 11, 0) : zF)]) (h' := g52) rfl ?_
  refine zc_n (n := 72) (x := 20) (len := 60) (y := 60) (E := el_X11_init_52_52) (st' := [zr ((52, 11, 0) : zF)]) hg (by rw [hg, zof_len, hl]; rfl) rfl (fun g53 hg => ?_)
  replace hg : g53 = zof h el_X11_init_52_53 := hg
  refine zc_e (ev := (2, 52, 43, 72, 20, 60)) (E := el_X11_init_52_53) (st' := []) hg rfl (fun g54 hg => ?_)
  replace hg : g54 = zof h el_X11_init_52_54 := hg
  refine zwp.go (m := 2) (j := 139) (ls' := [some (zr ((52, 11, 0) : zF))]) (st' := [zi (60 : Int32), zr ((52, 11, 0) : zF)]) (h' := g54) rfl ?_
  refine zc_n (n := 73) (x := 20) (len := 60) (y := 60) (E := el_X11_init_52_54) (st' := [zr ((52, 11, 0) : zF)]) hg (by rw [hg, zof_len, hl]; rfl) rfl (fun g55 hg => ?_)
  replace hg : g55 = zof h el_X11_init_52_55 := hg
  refine zc_e (ev := (2, 52, 44, 73, 20, 60)) (E := el_X11_init_52_55) (st' := []) hg rfl (fun g56 hg => ?_)
  replace hg : g56 = zof h el_X11_init_52_56 := hg
  refine zwp.go (m := 2) (j := 143) (ls' := [some (zr ((52, 11, 0) : zF))]) (st' := [zi (60 : Int32), zr ((52, 11, 0) : zF)]) (h' := g56) rfl ?_
  refine zc_n (n := 74) (x := 20) (len := 60) (y := 60) (E := el_X11_init_52_56) (st' := [zr ((52, 11, 0) : zF)]) hg (by rw [hg, zof_len, hl]; rfl) rfl (fun g57 hg => ?_)
  replace hg : g57 = zof h el_X11_init_52_57 := hg
  refine zc_e (ev := (2, 52, 45, 74, 20, 60)) (E := el_X11_init_52_57) (st' := []) hg rfl (fun g58 hg => ?_)
  replace hg : g58 = zof h el_X11_init_52_58 := hg
  refine zwp.go (m := 2) (j := 147) (ls' := [some (zr ((52, 11, 0) : zF))]) (st' := [zi (2048 : Int32), zr ((52, 11, 0) : zF)]) (h' := g58) rfl ?_
  refine zc_n (n := 75) (x := 20) (len := 2048) (y := 2048) (E := el_X11_init_52_58) (st' := [zr ((52, 11, 0) : zF)]) hg (by rw [hg, zof_len, hl]; rfl) rfl (fun g59 hg => ?_)
  replace hg : g59 = zof h el_X11_init_52_59 := hg
  refine zc_e (ev := (2, 52, 47, 75, 20, 2048)) (E := el_X11_init_52_59) (st' := []) hg rfl (fun g60 hg => ?_)
  replace hg : g60 = zof h el_X11_init_52_60 := hg
  refine zwp.go (m := 2) (j := 151) (ls' := [some (zr ((52, 11, 0) : zF))]) (st' := [zi (8 : Int32), zr ((52, 11, 0) : zF)]) (h' := g60) rfl ?_
  refine zc_n (n := 76) (x := 20) (len := 8) (y := 8) (E := el_X11_init_52_60) (st' := [zr ((52, 11, 0) : zF)]) hg (by rw [hg, zof_len, hl]; rfl) rfl (fun g61 hg => ?_)
  replace hg : g61 = zof h el_X11_init_52_61 := hg
  refine zc_e (ev := (2, 52, 48, 76, 20, 8)) (E := el_X11_init_52_61) (st' := []) hg rfl (fun g62 hg => ?_)
  replace hg : g62 = zof h el_X11_init_52_62 := hg
  refine zwp.go (m := 2) (j := 155) (ls' := [some (zr ((52, 11, 0) : zF))]) (st' := [zi (8 : Int32), zr ((52, 11, 0) : zF)]) (h' := g62) rfl ?_
  refine zc_n (n := 77) (x := 20) (len := 8) (y := 8) (E := el_X11_init_52_62) (st' := [zr ((52, 11, 0) : zF)]) hg (by rw [hg, zof_len, hl]; rfl) rfl (fun g63 hg => ?_)
  replace hg : g63 = zof h el_X11_init_52_63 := hg
  refine zc_e (ev := (2, 52, 49, 77, 20, 8)) (E := el_X11_init_52_63) (st' := []) hg rfl (fun g64 hg => ?_)
  replace hg : g64 = zof h el_X11_init_52_64 := hg
  refine zwp.go (m := 2) (j := 159) (ls' := [some (zr ((52, 11, 0) : zF))]) (st' := [zi (38 : Int32), zr ((52, 11, 0) : zF)]) (h' := g64) rfl ?_
  refine zc_n (n := 78) (x := 20) (len := 38) (y := 38) (E := el_X11_init_52_64) (st' := [zr ((52, 11, 0) : zF)]) hg (by rw [hg, zof_len, hl]; rfl) rfl (fun g65 hg => ?_)
  replace hg : g65 = zof h el_X11_init_52_65 := hg
  refine zc_e (ev := (2, 52, 50, 78, 20, 38)) (E := el_X11_init_52_65) (st' := []) hg rfl (fun g66 hg => ?_)
  replace hg : g66 = zof h el_X11_init_52_66 := hg
  refine zwp.go (m := 2) (j := 163) (ls' := [some (zr ((52, 11, 0) : zF))]) (st' := [zi (8 : Int32), zr ((52, 11, 0) : zF)]) (h' := g66) rfl ?_
  refine zc_n (n := 79) (x := 22) (len := 8) (y := 8) (E := el_X11_init_52_66) (st' := [zr ((52, 11, 0) : zF)]) hg (by rw [hg, zof_len, hl]; rfl) rfl (fun g67 hg => ?_)
  replace hg : g67 = zof h el_X11_init_52_67 := hg
  refine zc_e (ev := (2, 52, 51, 79, 22, 8)) (E := el_X11_init_52_67) (st' := []) hg rfl (fun g68 hg => ?_)
  replace hg : g68 = zof h el_X11_init_52_68 := hg
  refine zwp.go (m := 2) (j := 167) (ls' := [some (zr ((52, 11, 0) : zF))]) (st' := [zi (1188 : Int32), zr ((52, 11, 0) : zF)]) (h' := g68) rfl ?_
  refine zc_n (n := 80) (x := 20) (len := 1188) (y := 1188) (E := el_X11_init_52_68) (st' := [zr ((52, 11, 0) : zF)]) hg (by rw [hg, zof_len, hl]; rfl) rfl (fun g69 hg => ?_)
  replace hg : g69 = zof h el_X11_init_52_69 := hg
  refine zc_e (ev := (2, 52, 52, 80, 20, 1188)) (E := el_X11_init_52_69) (st' := []) hg rfl (fun g70 hg => ?_)
  replace hg : g70 = zof h el_X11_init_52_70 := hg
  refine zwp.go (m := 2) (j := 171) (ls' := [some (zr ((52, 11, 0) : zF))]) (st' := [zi (23760 : Int32), zr ((52, 11, 0) : zF)]) (h' := g70) rfl ?_
  refine zc_n (n := 81) (x := 20) (len := 23760) (y := 23760) (E := el_X11_init_52_70) (st' := [zr ((52, 11, 0) : zF)]) hg (by rw [hg, zof_len, hl]; rfl) rfl (fun g71 hg => ?_)
  replace hg : g71 = zof h el_X11_init_52_71 := hg
  refine zc_e (ev := (2, 52, 53, 81, 20, 23760)) (E := el_X11_init_52_71) (st' := []) hg rfl (fun g72 hg => ?_)
  replace hg : g72 = zof h el_X11_init_52_72 := hg
  refine zwp.go (m := 2) (j := 175) (ls' := [some (zr ((52, 11, 0) : zF))]) (st' := [zi (4096 : Int32), zr ((52, 11, 0) : zF)]) (h' := g72) rfl ?_
  refine zc_n (n := 82) (x := 20) (len := 4096) (y := 4096) (E := el_X11_init_52_72) (st' := [zr ((52, 11, 0) : zF)]) hg (by rw [hg, zof_len, hl]; rfl) rfl (fun g73 hg => ?_)
  replace hg : g73 = zof h el_X11_init_52_73 := hg
  refine zc_e (ev := (2, 52, 55, 82, 20, 4096)) (E := el_X11_init_52_73) (st' := []) hg rfl (fun g74 hg => ?_)
  replace hg : g74 = zof h el_X11_init_52_74 := hg
  refine zwp.go (m := 2) (j := 179) (ls' := [some (zr ((52, 11, 0) : zF))]) (st' := [zi (8 : Int32), zr ((52, 11, 0) : zF)]) (h' := g74) rfl ?_
  refine zc_n (n := 83) (x := 20) (len := 8) (y := 8) (E := el_X11_init_52_74) (st' := [zr ((52, 11, 0) : zF)]) hg (by rw [hg, zof_len, hl]; rfl) rfl (fun g75 hg => ?_)
  replace hg : g75 = zof h el_X11_init_52_75 := hg
  refine zc_e (ev := (2, 52, 57, 83, 20, 8)) (E := el_X11_init_52_75) (st' := []) hg rfl (fun g76 hg => ?_)
  replace hg : g76 = zof h el_X11_init_52_76 := hg
  refine zwp.go (m := 2) (j := 183) (ls' := [some (zr ((52, 11, 0) : zF))]) (st' := [zi (38 : Int32), zr ((52, 11, 0) : zF)]) (h' := g76) rfl ?_
  refine zc_n (n := 84) (x := 20) (len := 38) (y := 38) (E := el_X11_init_52_76) (st' := [zr ((52, 11, 0) : zF)]) hg (by rw [hg, zof_len, hl]; rfl) rfl (fun g77 hg => ?_)
  replace hg : g77 = zof h el_X11_init_52_77 := hg
  refine zc_e (ev := (2, 52, 62, 84, 20, 38)) (E := el_X11_init_52_77) (st' := []) hg rfl (fun g78 hg => ?_)
  replace hg : g78 = zof h el_X11_init_52_78 := hg
  refine zwp.go (m := 2) (j := 187) (ls' := [some (zr ((52, 11, 0) : zF))]) (st' := [zi (1520 : Int32), zr ((52, 11, 0) : zF)]) (h' := g78) rfl ?_
  refine zc_n (n := 85) (x := 20) (len := 1520) (y := 1520) (E := el_X11_init_52_78) (st' := [zr ((52, 11, 0) : zF)]) hg (by rw [hg, zof_len, hl]; rfl) rfl (fun g79 hg => ?_)
  replace hg : g79 = zof h el_X11_init_52_79 := hg
  refine zc_e (ev := (2, 52, 63, 85, 20, 1520)) (E := el_X11_init_52_79) (st' := []) hg rfl (fun g80 hg => ?_)
  replace hg : g80 = zof h el_X11_init_52_80 := hg
  refine zwp.go (m := 2) (j := 191) (ls' := [some (zr ((52, 11, 0) : zF))]) (st' := [zi (8 : Int32), zr ((52, 11, 0) : zF)]) (h' := g80) rfl ?_
  refine zc_n (n := 86) (x := 20) (len := 8) (y := 8) (E := el_X11_init_52_80) (st' := [zr ((52, 11, 0) : zF)]) hg (by rw [hg, zof_len, hl]; rfl) rfl (fun g81 hg => ?_)
  replace hg : g81 = zof h el_X11_init_52_81 := hg
  refine zc_e (ev := (2, 52, 64, 86, 20, 8)) (E := el_X11_init_52_81) (st' := []) hg rfl (fun g82 hg => ?_)
  replace hg : g82 = zof h el_X11_init_52_82 := hg
  refine zwp.go (m := 2) (j := 195) (ls' := [some (zr ((52, 11, 0) : zF))]) (st' := [zi (8 : Int32), zr ((52, 11, 0) : zF)]) (h' := g82) rfl ?_
  refine zc_n (n := 87) (x := 20) (len := 8) (y := 8) (E := el_X11_init_52_82) (st' := [zr ((52, 11, 0) : zF)]) hg (by rw [hg, zof_len, hl]; rfl) rfl (fun g83 hg => ?_)
  replace hg : g83 = zof h el_X11_init_52_83 := hg
  refine zc_e (ev := (2, 52, 65, 87, 20, 8)) (E := el_X11_init_52_83) (st' := []) hg rfl (fun g84 hg => ?_)
  replace hg : g84 = zof h el_X11_init_52_84 := hg
  refine zwp.go (m := 2) (j := 199) (ls' := [some (zr ((52, 11, 0) : zF))]) (st' := [zi (3 : Int32), zr ((52, 11, 0) : zF)]) (h' := g84) rfl ?_
  refine zc_n (n := 88) (x := 20) (len := 3) (y := 3) (E := el_X11_init_52_84) (st' := [zr ((52, 11, 0) : zF)]) hg (by rw [hg, zof_len, hl]; rfl) rfl (fun g85 hg => ?_)
  replace hg : g85 = zof h el_X11_init_52_85 := hg
  refine zc_e (ev := (2, 52, 66, 88, 20, 3)) (E := el_X11_init_52_85) (st' := []) hg rfl (fun g86 hg => ?_)
  replace hg : g86 = zof h el_X11_init_52_86 := hg
  refine zwp.go (m := 2) (j := 203) (ls' := [some (zr ((52, 11, 0) : zF))]) (st' := [zi (8 : Int32), zr ((52, 11, 0) : zF)]) (h' := g86) rfl ?_
  refine zc_n (n := 89) (x := 22) (len := 8) (y := 8) (E := el_X11_init_52_86) (st' := [zr ((52, 11, 0) : zF)]) hg (by rw [hg, zof_len, hl]; rfl) rfl (fun g87 hg => ?_)
  replace hg : g87 = zof h el_X11_init_52_87 := hg
  refine zc_e (ev := (2, 52, 67, 89, 22, 8)) (E := el_X11_init_52_87) (st' := []) hg rfl (fun g88 hg => ?_)
  replace hg : g88 = zof h el_X11_init_52_88 := hg
  refine zwp.go (m := 1) (j := 206) (ls' := [some (zr ((52, 11, 0) : zF))]) (st' := [zr ((52, 11, 0) : zF)]) (h' := g88) rfl ?_
  refine zc_sr (r := ((56, 20, 12) : zF)) (a := 52) (y := 5) (by rw [hg]; rfl) rfl ?_
  refine zwp.go (m := 2) (j := 209) (ls' := [some (zr ((52, 11, 0) : zF))]) (st' := [zi (3 : Int32), zi (2 : Int32), zr ((56, 20, 12) : zF)]) (h' := g88) rfl ?_
  refine zc_e (ev := (1, 56, 2, 3, 0, 0)) (E := el_X11_init_52_88) (st' := []) hg rfl (fun g89 hg => ?_)
  replace hg : g89 = zof h el_X11_init_52_89 := hg
  refine zwp.go (m := 1) (j := 211) (ls' := [some (zr ((52, 11, 0) : zF))]) (st' := [zr ((52, 11, 0) : zF)]) (h' := g89) rfl ?_
  refine zc_sr (r := ((56, 20, 12) : zF)) (a := 52) (y := 5) (by rw [hg]; rfl) rfl ?_
  refine zwp.go (m := 2) (j := 214) (ls' := [some (zr ((52, 11, 0) : zF))]) (st' := [zi (3 : Int32), zi (3 : Int32), zr ((56, 20, 12) : zF)]) (h' := g89) rfl ?_
  refine zc_e (ev := (1, 56, 3, 3, 0, 0)) (E := el_X11_init_52_89) (st' := []) hg rfl (fun g90 hg => ?_)
  replace hg : g90 = zof h el_X11_init_52_90 := hg
  refine zwp.go (m := 1) (j := 216) (ls' := [some (zr ((52, 11, 0) : zF))]) (st' := [zr ((52, 11, 0) : zF)]) (h' := g90) rfl ?_
  refine zc_sr (r := ((65, 20, 2) : zF)) (a := 52) (y := 25) (by rw [hg]; rfl) rfl ?_
  refine zwp.go (m := 2) (j := 219) (ls' := [some (zr ((52, 11, 0) : zF))]) (st' := [zi (3 : Int32), zi (0 : Int32), zr ((65, 20, 2) : zF)]) (h' := g90) rfl ?_
  refine zc_e (ev := (1, 65, 0, 3, 0, 0)) (E := el_X11_init_52_90) (st' := []) hg rfl (fun g91 hg => ?_)
  replace hg : g91 = zof h el_X11_init_52_91 := hg
  refine zwp.go (m := 1) (j := 221) (ls' := [some (zr ((52, 11, 0) : zF))]) (st' := [zr ((52, 11, 0) : zF)]) (h' := g91) rfl ?_
  refine zc_sr (r := ((65, 20, 2) : zF)) (a := 52) (y := 25) (by rw [hg]; rfl) rfl ?_
  refine zwp.go (m := 2) (j := 224) (ls' := [some (zr ((52, 11, 0) : zF))]) (st' := [zi (3 : Int32), zi (1 : Int32), zr ((65, 20, 2) : zF)]) (h' := g91) rfl ?_
  refine zc_e (ev := (1, 65, 1, 3, 0, 0)) (E := el_X11_init_52_91) (st' := []) hg rfl (fun g92 hg => ?_)
  replace hg : g92 = zof h el_X11_init_52_92 := hg
  exact zwp.rv rfl ⟨rfl, hg⟩
