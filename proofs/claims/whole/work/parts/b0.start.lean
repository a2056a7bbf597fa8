/-! ===== the law's start ===== -/
/-- nothing is made yet -/
def z00 (X : Nat → Int32) : zH := ([], fun _ _ => 0, fun _ _ => none, fun _ _ => 0, X, 0, 0)
noncomputable def zb_head : List zA := [zE4 0 (.new 8) 3 10 16 0 0,
  zE 3 (.dup) 1,
  zE4 4 (.invokespecial 107) 3 14 1 0 10,
  zE4 7 (.astore_n 1) 1 1 0 0 0,
  zE4 8 (.new 108) 3 11 68 0 0,
  zE 11 (.dup) 1,
  zE4 12 (.invokespecial 110) 3 15 1 0 11,
  zE4 15 (.astore_n 2) 1 2 0 0 0,
  zEc 16 (.iconst 1) 1 0 0 (1),
  zEc 17 (.newarray .long) 2 23 1 (1),
  zE4 19 (.astore_n 3) 1 3 0 0 0,
  zEc 20 (.iconst 0) 1 0 0 (0),
  zE4 21 (.istore 4) 2 4 0 0 0,
  zE4 23 (.iload 4) 2 4 0 0 0,
  zE 25 (.aload_n 0) 1,
  zE 26 (.arraylength) 1,
  zEc 27 (.bipush 6) 2 0 0 (6),
  zE 29 (.isub) 1,
  zE4 30 (.if_icmp .gt 2331) 3 1408 0 0 0,
  zE 33 (.aload_n 0) 1,
  zE4 34 (.iload 4) 2 4 0 0 0,
  zE 36 (.iaload) 1,
  zEc 37 (.bipush 63) 2 0 0 (63),
  zE 39 (.iand) 1,
  zEt 40 (.tableswitch 2315 0 40 #[180, 253, 309, 322, 378, 446, 514, 582, 638, 663, 719, 787, 800, 868, 881, 949, 1017, 1073, 1141, 1154, 1210, 1223, 1236, 1304, 1360, 1428, 1496, 1552, 1608, 1664, 1732, 1788, 1856, 1952, 2008, 2064, 2075, 2155, 2211, 2291, 2302]) 180 1406 [(0, 25), (1, 82), (2, 117), (3, 124), (4, 159), (5, 204), (6, 249), (7, 294), (8, 329), (9, 346), (10, 381), (11, 426), (12, 433), (13, 478), (14, 485), (15, 530), (16, 575), (17, 610), (18, 655), (19, 662), (20, 697), (21, 704), (22, 711), (23, 756), (24, 791), (25, 836), (26, 881), (27, 916), (28, 951), (29, 986), (30, 1031), (31, 1066), (32, 1111), (33, 1174), (34, 1209), (35, 1244), (36, 1249), (37, 1304), (38, 1339), (39, 1394), (40, 1399)]]
set_option maxRecDepth 1000000 in
theorem zb_head_at : (zm_L_law.1.drop 0).take 25 = zb_head := rfl
noncomputable def zb_end : List zA := [zEc 2355 (.iinc 4 6) 3 4 0 (6),
  zE4 2358 (.goto (-2335)) 3 13 0 0 0,
  zEc 2361 (.iconst 1) 1 0 0 (1),
  zE4 2362 (.ireturn) 1 1 0 0 0]
set_option maxRecDepth 1000000 in
theorem zb_end_at : (zm_L_law.1.drop 1406).take 4 = zb_end := rfl
def eL0 : List zEv := (0, 10, 0, 16, 0, 0) :: []
def eL1 : List zEv := e_X10_init_0 ++ eL0
def eL2 : List zEv := (0, 11, 0, 68, 52, 0) :: eL1
def eL3 : List zEv := e_X11_init_52 ++ eL2
def eL4 : List zEv := (0, 23, 1, 1, 90, 0) :: eL3
/-- both are made -/
def hI (X : Nat → Int32) : zH := zof (z00 X) eL4
set_option maxRecDepth 1000000 in
theorem eL_n : nAl eL1 = 52 ∧ nAl eL2 = 53 ∧ nAl eL3 = 90 ∧ nAl eL4 = 91 := by decide +kernel
theorem z00_len (X : Nat → Int32) (E : List zEv) : (zK (zof (z00 X) E)).length = nAl E := by
  rw [zof_len]
  exact Nat.zero_add _
theorem w_start {X : Nat → Int32} {n d : Nat} {Q : zO → zH → Prop} (kk : zwp (d + 103) zm_L_law 13 (zLw n 0 none none) [] (hI X) Q) : zwp (d + 103) zm_L_law 0 [some (zr ((0, 32, n) : zF)), none, none, none, none, none, none] [] (z00 X) Q := by
  have hg : z00 X = zof (z00 X) [] := rfl
  refine zc_n (n := 0) (x := 10) (len := 0) (y := 16) (E := []) (st' := []) hg rfl (zsb_e (B := zb_head) (lo := 0) zb_head_at rfl rfl) (fun g0 hg => ?_)
  replace hg : g0 = zof (z00 X) eL0 := hg
  refine zwp.gb (B := zb_head) (lo := 0) zb_head_at (m := 1) (j := 2) (ls' := [some (zr ((0, 32, n) : zF)), none, none, none, none, none, none]) (st' := [zr ((0, 10, 0) : zF), zr ((0, 10, 0) : zF)]) (h' := g0) rfl ?_
  refine zc_c (d := d + 102) (F := e_X10_init_0) (E := eL0) (rest := [zr ((0, 10, 0) : zF)]) hg (i_X10_init_0 (d + 99) g0 (by rw [hg, z00_len]; rfl)) (zsb_e (B := zb_head) (lo := 0) zb_head_at rfl rfl) rfl (fun g1 hg => ?_)
  replace hg : g1 = zof (z00 X) eL1 := hg
  refine zwp.gb (B := zb_head) (lo := 0) zb_head_at (m := 1) (j := 4) (ls' := [some (zr ((0, 32, n) : zF)), some (zr ((0, 10, 0) : zF)), none, none, none, none, none]) (st' := []) (h' := g1) rfl ?_
  refine zc_n (n := 52) (x := 11) (len := 0) (y := 68) (E := eL1) (st' := []) hg (by rw [hg, z00_len]; exact eL_n.1) (zsb_e (B := zb_head) (lo := 0) zb_head_at rfl rfl) (fun g2 hg => ?_)
  replace hg : g2 = zof (z00 X) eL2 := hg
  refine zwp.gb (B := zb_head) (lo := 0) zb_head_at (m := 1) (j := 6) (ls' := [some (zr ((0, 32, n) : zF)), some (zr ((0, 10, 0) : zF)), none, none, none, none, none]) (st' := [zr ((52, 11, 0) : zF), zr ((52, 11, 0) : zF)]) (h' := g2) rfl ?_
  refine zc_c (d := d + 102) (F := e_X11_init_52) (E := eL2) (rest := [zr ((52, 11, 0) : zF)]) hg (i_X11_init_52 (d + 102) g2 (by rw [hg, z00_len]; exact eL_n.2.1)) (zsb_e (B := zb_head) (lo := 0) zb_head_at rfl rfl) rfl (fun g3 hg => ?_)
  replace hg : g3 = zof (z00 X) eL3 := hg
  refine zwp.gb (B := zb_head) (lo := 0) zb_head_at (m := 2) (j := 9) (ls' := [some (zr ((0, 32, n) : zF)), some (zr ((0, 10, 0) : zF)), some (zr ((52, 11, 0) : zF)), none, none, none, none]) (st' := [zi (1 : Int32)]) (h' := g3) rfl ?_
  refine zc_n (n := 90) (x := 23) (len := 1) (y := 1) (E := eL3) (st' := []) hg (by rw [hg, z00_len]; exact eL_n.2.2.1) (zsb_e (B := zb_head) (lo := 0) zb_head_at rfl rfl) (fun g4 hg => ?_)
  replace hg : g4 = hI X := hg
  refine zwp.gb (B := zb_head) (lo := 0) zb_head_at (m := 3) (j := 13) (ls' := zLw n 0 none none) (st' := []) (h' := g4) rfl ?_
  rw [hg]
  exact kk
set_option maxRecDepth 1000000 in
theorem hI_sh (X : Nat → Int32) : zSh (zR (hI X)) := by
  intro a y h
  unfold zfx zρ0 at h
  split at h <;> first
    | (cases h; done)
    | rfl
set_option maxRecDepth 1000000 in
theorem hI_rel (X : Nat → Int32) : zRel 0 (hI X) 2 (dPl d0) (l0 d0 (fun _ => 0)) := by
  refine ⟨Or.inl rfl, dPl_ok d0_ok, ⟨sS_ok d0_ok, Nat.zero_le _, fun i hi => absurd hi (Nat.not_lt_zero i), Nat.zero_le _, fun i hi => absurd hi (Nat.not_lt_zero i)⟩, ?_, ?_, ?_, ?_, ?_, ?_, ?_, ?_, ?_⟩
  · exact ⟨rfl, rfl, rfl, fun r hr => absurd hr (Nat.not_lt_zero r), ⟨rfl, fun n => absurd rfl n⟩, ⟨rfl, fun n => absurd rfl n⟩⟩
  · exact ⟨rfl, rfl, fun r hr => absurd hr (Nat.not_lt_zero r), fun r hr => absurd hr (Nat.not_lt_zero r), rfl, fun r hr => absurd hr (Nat.not_lt_zero r), rfl, fun r hr => absurd hr (Nat.not_lt_zero r)⟩
  · refine ⟨⟨fun r hr => absurd hr (Nat.not_lt_zero r), rfl, rfl, rfl, rfl, rfl, rfl, rfl, rfl, fun r hr => absurd hr (Nat.not_lt_zero r)⟩, rfl, fun r hr => absurd hr (Nat.not_lt_zero r), rfl, fun r hr => absurd hr (Nat.not_lt_zero r), fun i _ => rfl⟩
  · refine ⟨⟨fun r hr => absurd hr (Nat.not_lt_zero r), rfl, rfl, rfl, rfl, rfl, rfl, rfl, rfl, fun r hr => absurd hr (Nat.not_lt_zero r)⟩, rfl, fun r hr => absurd hr (Nat.not_lt_zero r), rfl, fun r hr => absurd hr (Nat.not_lt_zero r), fun i _ => rfl⟩
  · exact ⟨Or.inl rfl, Or.inl rfl, Or.inl rfl⟩
  · exact ⟨0, Nat.zero_le _, rfl, rfl, fun e => absurd e (by decide)⟩
  · exact ⟨0, Nat.zero_le _, rfl, rfl, fun i hi => absurd hi (Nat.not_lt_zero i)⟩
  · rfl
  · exact ⟨0, Nat.zero_le _, rfl, fun k _ => ⟨0, Nat.zero_le _, rfl⟩⟩
set_option maxRecDepth 1000000 in
theorem hI_iv (X : Nat → Int32) : zIv X 0 (hI X) := by
  have e1 : zc (hI X) = 91 := rfl
  have e2 : zs (hI X) = 43857 := rfl
  have e3 : (zK (hI X)).length = 91 := (z00_len X eL4).trans eL_n.2.2.2
  exact ⟨zR (hI X), 2, 9, dPl d0, l0 d0 (fun _ => 0), hI_rel X, fun _ _ _ => rfl, hI_sh X, Or.inl ⟨rfl, rfl⟩, rfl, rfl, Or.inl ⟨rfl, rfl, e3, by omega, by omega⟩, rfl⟩
