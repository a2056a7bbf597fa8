/-! ===== methods as functions, 6 ===== -/
def s_X2_undoAct (a0 : Nat) (h : zH) : Option (zH) := zlt (zwI h a0 6 ((zI h a0 6) - (1 : Int32))) fun h1 => (s_X8_unpack (a0 + 1) (a0 + 11) 1520 ((zI h1 a0 6) * (38 : Int32)) h1).bind fun h2 => some h2
set_option maxRecDepth 100000 in
theorem s_X2_undoAct_ok (d : Nat) (ρ : Nat → Nat → Option zF) (hρ : zSh ρ) (a0 : Nat) (ha0 : zLdS ρ a0) (h : zH) (res : zH) (hR : zRq h ρ) (e : s_X2_undoAct a0 h = some res) : zcl (d + 1) 177 [zr ((a0, 2, 0) : zF)] h (zQv ρ res) := by
  rw [s_X2_undoAct] at e
  refine ⟨zm_X2_undoAct, rfl, ?_⟩
  show zwp (d + 1) zm_X2_undoAct 0 [some (zr ((a0, 2, 0) : zF))] [] h _
  refine zwp.go (m := 5) (j := 5) (ls' := [some (zr ((a0, 2, 0) : zF))]) (st' := [zi ((zI h a0 6) - (1 : Int32)), zr ((a0, 2, 0) : zF)]) (h' := h) rfl ?_
  refine zc_w e rfl hR (fun h1 hR1 e => ?_)
  refine zwp.go (m := 1) (j := 7) (ls' := [some (zr ((a0, 2, 0) : zF))]) (st' := [zr ((a0, 2, 0) : zF)]) (h' := h1) rfl ?_
  refine zc_sr (r := (((a0 + 1), 8, 0) : zF)) (zrf (a := a0) (y := 0) hR1 rfl ha0.2.1) rfl ?_
  refine zwp.go (m := 1) (j := 9) (ls' := [some (zr ((a0, 2, 0) : zF))]) (st' := [zr ((a0, 2, 0) : zF), zr (((a0 + 1), 8, 0) : zF)]) (h' := h1) rfl ?_
  refine zc_sr (r := (((a0 + 11), 20, 1520) : zF)) (zrf (a := a0) (y := 5) hR1 rfl ha0.2.2.2.2.2.2.1) rfl ?_
  refine zwp.go (m := 4) (j := 14) (ls' := [some (zr ((a0, 2, 0) : zF))]) (st' := [zi ((zI h1 a0 6) * (38 : Int32)), zr (((a0 + 11), 20, 1520) : zF), zr (((a0 + 1), 8, 0) : zF)]) (h' := h1) rfl ?_
  refine zc_cv (d := d + 0) e (fun q e => s_X8_unpack_ok (d + 0) ρ hρ (a0 + 1) (a0 + 11) 1520 ((zI h1 a0 6) * (38 : Int32)) ha0.2.2.2.2.2.2.2 h1 q hR1 e) rfl rfl (fun h2 hR2 e => ?_)
  cases e
  exact zwp.rv rfl ⟨⟨rfl, rfl⟩, hR2⟩
def s_X10_undo (pp : Nat) (h : zH) : Option (Int32 × zH) := if ¬ (zI h 18 6) = 0 then ((s_X2_undoAct 18 h).bind fun h1 => (s_X10_noteChange pp h1).bind fun h2 => some ((zI h2 18 6), h2)) else (some ((-1 : Int32), h))
set_option maxRecDepth 100000 in
theorem s_X10_undo_ok (d : Nat) (ρ : Nat → Nat → Option zF) (hρ : zSh ρ) (pp : Nat) (hpp : ρ 0 3 = some (pp, 3, 0) ∧ zPlS ρ pp) (h : zH) (res : Int32 × zH) (hR : zRq h ρ) (e : s_X10_undo pp h = some res) : zcl (d + 2) 178 [zr ((0, 10, 0) : zF)] h (zQi ρ res) := by
  rw [s_X10_undo] at e
  refine ⟨zm_X10_undo, rfl, ?_⟩
  show zwp (d + 2) zm_X10_undo 0 [some (zr ((0, 10, 0) : zF))] [] h _
  refine zwp.go (m := 1) (j := 1) (ls' := [some (zr ((0, 10, 0) : zF))]) (st' := [zr ((0, 10, 0) : zF)]) (h' := h) rfl ?_
  refine zc_sr (r := ((18, 2, 0) : zF)) (zrf (a := 0) (y := 6) hR rfl (hρ 0 6 rfl)) rfl ?_
  refine zwp.go (m := 1) (j := 3) (ls' := [some (zr ((0, 10, 0) : zF))]) (st' := [zi (zI h 18 6)]) (h' := h) rfl ?_
  refine zb_if (j := 6) (j2 := 4) e rfl (fun e => ?_) (fun e => ?_)
  · refine zwp.go (m := 1) (j := 7) (ls' := [some (zr ((0, 10, 0) : zF))]) (st' := [zr ((0, 10, 0) : zF)]) (h' := h) rfl ?_
    refine zc_sr (r := ((18, 2, 0) : zF)) (zrf (a := 0) (y := 6) hR rfl (hρ 0 6 rfl)) rfl ?_
    refine zc_cv (d := d + 1) e (fun q e => s_X2_undoAct_ok (d + 0) ρ hρ 18 (zSh_ld18 hρ) h q hR e) rfl rfl (fun h1 hR1 e => ?_)
    refine zwp.go (m := 1) (j := 10) (ls' := [some (zr ((0, 10, 0) : zF))]) (st' := [zr ((0, 10, 0) : zF)]) (h' := h1) rfl ?_
    refine zc_cv (d := d + 1) e (fun q e => s_X10_noteChange_ok (d + 1) ρ hρ pp hpp h1 q hR1 e) rfl rfl (fun h2 hR2 e => ?_)
    refine zwp.go (m := 1) (j := 12) (ls' := [some (zr ((0, 10, 0) : zF))]) (st' := [zr ((0, 10, 0) : zF)]) (h' := h2) rfl ?_
    refine zc_sr (r := ((18, 2, 0) : zF)) (zrf (a := 0) (y := 6) hR2 rfl (hρ 0 6 rfl)) rfl ?_
    refine zwp.go (m := 1) (j := 14) (ls' := [some (zr ((0, 10, 0) : zF))]) (st' := [zi (zI h2 18 6)]) (h' := h2) rfl ?_
    cases e
    exact zwp.ret rfl rfl ⟨⟨rfl, rfl⟩, hR2⟩
  · refine zwp.go (m := 1) (j := 5) (ls' := [some (zr ((0, 10, 0) : zF))]) (st' := [zi (-1 : Int32)]) (h' := h) rfl ?_
    cases e
    exact zwp.ret rfl rfl ⟨⟨rfl, rfl⟩, hR⟩
def s_X11_unpack_L73 (a1 n1 : Nat) : Nat → Int32 → Int32 → zH → Option (zH)
  | 0, _, _, _ => none
  | n + 1, l2, l3, h => if (12 : Int32) ≤ l3 then (zix ((l2 + (38 : Int32)) - (2 : Int32)) n1 fun i1 => zlt (zwI h 65 0 (zI h a1 i1)) fun h2 => zix ((l2 + (38 : Int32)) - (1 : Int32)) n1 fun i3 => zlt (zwI h2 65 1 (zI h2 a1 i3)) fun h4 => some h4) else (zix (((l2 + (6 : Int32)) + (18 : Int32)) + l3) n1 fun i5 => zix l3 12 fun i7 => zlt (zwI h 64 i7 (zI h a1 i5)) fun h6 => s_X11_unpack_L73 a1 n1 n l2 (l3 + (1 : Int32)) h6)
set_option maxRecDepth 100000 in
theorem s_X11_unpack_L73_ok (d : Nat) (ρ : Nat → Nat → Option zF) (hρ : zSh ρ) (a1 n1 : Nat) : ∀ (n : Nat) (l2 : Int32) (l3 : Int32) (h : zH) (res : zH) (hR : zRq h ρ) (e : s_X11_unpack_L73 a1 n1 n l2 l3 h = some res), zwp d zm_X11_unpack 73 [some (zr ((52, 11, 0) : zF)), some (zr ((a1, 20, n1) : zF)), some (zi l2), some (zi l3)] [] h (zQv ρ res) := by
  intro n
  induction n with
  | zero => intro l2 l3 h res hR e; cases e
  | succ n ih =>
    intro l2 l3 h res hR e
    rw [s_X11_unpack_L73] at e
    refine zwp.go (m := 2) (j := 75) (ls' := [some (zr ((52, 11, 0) : zF)), some (zr ((a1, 20, n1) : zF)), some (zi l2), some (zi l3)]) (st' := [zi (12 : Int32), zi l3]) (h' := h) rfl ?_
    refine zb_if (j := 91) (j2 := 76) e rfl (fun e => ?_) (fun e => ?_)
    · refine zwp.go (m := 1) (j := 92) (ls' := [some (zr ((52, 11, 0) : zF)), some (zr ((a1, 20, n1) : zF)), some (zi l2), some (zi l3)]) (st' := [zr ((52, 11, 0) : zF)]) (h' := h) rfl ?_
      refine zc_sr (r := ((65, 20, 2) : zF)) (zrf (a := 52) (y := 25) hR rfl (hρ 52 25 rfl)) rfl ?_
      refine zwp.go (m := 7) (j := 100) (ls' := [some (zr ((52, 11, 0) : zF)), some (zr ((a1, 20, n1) : zF)), some (zi l2), some (zi l3)]) (st' := [zi ((l2 + (38 : Int32)) - (2 : Int32)), zr ((a1, 20, n1) : zF), zi (0 : Int32), zr ((65, 20, 2) : zF)]) (h' := h) rfl ?_
      refine zc_ai e (fun _ => rfl) (fun i1 e => ?_)
      refine zc_w e rfl hR (fun h2 hR2 e => ?_)
      refine zwp.go (m := 1) (j := 103) (ls' := [some (zr ((52, 11, 0) : zF)), some (zr ((a1, 20, n1) : zF)), some (zi l2), some (zi l3)]) (st' := [zr ((52, 11, 0) : zF)]) (h' := h2) rfl ?_
      refine zc_sr (r := ((65, 20, 2) : zF)) (zrf (a := 52) (y := 25) hR2 rfl (hρ 52 25 rfl)) rfl ?_
      refine zwp.go (m := 7) (j := 111) (ls' := [some (zr ((52, 11, 0) : zF)), some (zr ((a1, 20, n1) : zF)), some (zi l2), some (zi l3)]) (st' := [zi ((l2 + (38 : Int32)) - (1 : Int32)), zr ((a1, 20, n1) : zF), zi (1 : Int32), zr ((65, 20, 2) : zF)]) (h' := h2) rfl ?_
      refine zc_ai e (fun _ => rfl) (fun i3 e => ?_)
      refine zc_w e rfl hR2 (fun h4 hR4 e => ?_)
      cases e
      exact zwp.rv rfl ⟨⟨rfl, rfl⟩, hR4⟩
    · refine zwp.go (m := 1) (j := 77) (ls' := [some (zr ((52, 11, 0) : zF)), some (zr ((a1, 20, n1) : zF)), some (zi l2), some (zi l3)]) (st' := [zr ((52, 11, 0) : zF)]) (h' := h) rfl ?_
      refine zc_sr (r := ((64, 20, 12) : zF)) (zrf (a := 52) (y := 24) hR rfl (hρ 52 24 rfl)) rfl ?_
      refine zwp.go (m := 9) (j := 87) (ls' := [some (zr ((52, 11, 0) : zF)), some (zr ((a1, 20, n1) : zF)), some (zi l2), some (zi l3)]) (st' := [zi (((l2 + (6 : Int32)) + (18 : Int32)) + l3), zr ((a1, 20, n1) : zF), zi l3, zr ((64, 20, 12) : zF)]) (h' := h) rfl ?_
      refine zc_ai e (fun _ => rfl) (fun i5 e => ?_)
      refine zc_si e (fun _ => rfl) hR (fun h6 hR6 e => ?_)
      refine zwp.go (m := 2) (j := 73) (ls' := [some (zr ((52, 11, 0) : zF)), some (zr ((a1, 20, n1) : zF)), some (zi l2), some (zi (l3 + (1 : Int32)))]) (st' := []) (h' := h6) rfl ?_
      exact ih l2 (l3 + (1 : Int32)) h6 _ hR6 e
def s_X11_unpack_L42 (a1 n1 : Nat) : Nat → Int32 → Int32 → zH → Option (zH)
  | 0, _, _, _ => none
  | n + 1, l2, l3, h => if (9 : Int32) ≤ l3 then (s_X11_unpack_L73 a1 n1 zfu l2 (0 : Int32) h) else (zix ((l2 + (6 : Int32)) + l3) n1 fun i1 => zix l3 9 fun i6 => zlt (zwI h 66 i6 (zI h a1 i1)) fun h2 => zix (((l2 + (6 : Int32)) + (9 : Int32)) + l3) n1 fun i3 => zix l3 9 fun i5 => zlt (zwI h2 67 i5 (zI h2 a1 i3)) fun h4 => s_X11_unpack_L42 a1 n1 n l2 (l3 + (1 : Int32)) h4)
set_option maxRecDepth 100000 in
theorem s_X11_unpack_L42_ok (d : Nat) (ρ : Nat → Nat → Option zF) (hρ : zSh ρ) (a1 n1 : Nat) : ∀ (n : Nat) (l2 : Int32) (l3 : Int32) (h : zH) (res : zH) (hR : zRq h ρ) (e : s_X11_unpack_L42 a1 n1 n l2 l3 h = some res), zwp d zm_X11_unpack 42 [some (zr ((52, 11, 0) : zF)), some (zr ((a1, 20, n1) : zF)), some (zi l2), some (zi l3)] [] h (zQv ρ res) := by
  intro n
  induction n with
  | zero => intro l2 l3 h res hR e; cases e
  | succ n ih =>
    intro l2 l3 h res hR e
    rw [s_X11_unpack_L42] at e
    refine zwp.go (m := 2) (j := 44) (ls' := [some (zr ((52, 11, 0) : zF)), some (zr ((a1, 20, n1) : zF)), some (zi l2), some (zi l3)]) (st' := [zi (9 : Int32), zi l3]) (h' := h) rfl ?_
    refine zb_if (j := 71) (j2 := 45) e rfl (fun e => ?_) (fun e => ?_)
    · refine zwp.go (m := 2) (j := 73) (ls' := [some (zr ((52, 11, 0) : zF)), some (zr ((a1, 20, n1) : zF)), some (zi l2), some (zi (0 : Int32))]) (st' := []) (h' := h) rfl ?_
      exact s_X11_unpack_L73_ok d ρ hρ a1 n1 zfu l2 (0 : Int32) h _ hR e
    · refine zwp.go (m := 1) (j := 46) (ls' := [some (zr ((52, 11, 0) : zF)), some (zr ((a1, 20, n1) : zF)), some (zi l2), some (zi l3)]) (st' := [zr ((52, 11, 0) : zF)]) (h' := h) rfl ?_
      refine zc_sr (r := ((66, 20, 9) : zF)) (zrf (a := 52) (y := 26) hR rfl (hρ 52 26 rfl)) rfl ?_
      refine zwp.go (m := 7) (j := 54) (ls' := [some (zr ((52, 11, 0) : zF)), some (zr ((a1, 20, n1) : zF)), some (zi l2), some (zi l3)]) (st' := [zi ((l2 + (6 : Int32)) + l3), zr ((a1, 20, n1) : zF), zi l3, zr ((66, 20, 9) : zF)]) (h' := h) rfl ?_
      refine zc_ai e (fun _ => rfl) (fun i1 e => ?_)
      refine zc_si e (fun _ => rfl) hR (fun h2 hR2 e => ?_)
      refine zwp.go (m := 1) (j := 57) (ls' := [some (zr ((52, 11, 0) : zF)), some (zr ((a1, 20, n1) : zF)), some (zi l2), some (zi l3)]) (st' := [zr ((52, 11, 0) : zF)]) (h' := h2) rfl ?_
      refine zc_sr (r := ((67, 20, 9) : zF)) (zrf (a := 52) (y := 27) hR2 rfl (hρ 52 27 rfl)) rfl ?_
      refine zwp.go (m := 9) (j := 67) (ls' := [some (zr ((52, 11, 0) : zF)), some (zr ((a1, 20, n1) : zF)), some (zi l2), some (zi l3)]) (st' := [zi (((l2 + (6 : Int32)) + (9 : Int32)) + l3), zr ((a1, 20, n1) : zF), zi l3, zr ((67, 20, 9) : zF)]) (h' := h2) rfl ?_
      refine zc_ai e (fun _ => rfl) (fun i3 e => ?_)
      refine zc_si e (fun _ => rfl) hR2 (fun h4 hR4 e => ?_)
      refine zwp.go (m := 2) (j := 42) (ls' := [some (zr ((52, 11, 0) : zF)), some (zr ((a1, 20, n1) : zF)), some (zi l2), some (zi (l3 + (1 : Int32)))]) (st' := []) (h' := h4) rfl ?_
      exact ih l2 (l3 + (1 : Int32)) h4 _ hR4 e
def s_X11_unpack (a1 n1 : Nat) (a2 : Int32) (h : zH) : Option (zH) := zix a2 n1 fun i1 => zlt (zwI h 52 29 (zI h a1 i1)) fun h2 => zix (a2 + (1 : Int32)) n1 fun i3 => zlt (zwI h2 52 30 (zI h2 a1 i3)) fun h4 => zix (a2 + (2 : Int32)) n1 fun i5 => zlt (zwI h4 52 31 (zI h4 a1 i5)) fun h6 => zix (a2 + (3 : Int32)) n1 fun i7 => zlt (zwI h6 52 32 (zI h6 a1 i7)) fun h8 => zix (a2 + (4 : Int32)) n1 fun i9 => zlt (zwI h8 52 33 (zI h8 a1 i9)) fun h10 => zix (a2 + (5 : Int32)) n1 fun i11 => zlt (zwI h10 52 34 (zI h10 a1 i11)) fun h12 => s_X11_unpack_L42 a1 n1 zfu a2 (0 : Int32) h12
set_option maxRecDepth 100000 in
theorem s_X11_unpack_ok (d : Nat) (ρ : Nat → Nat → Option zF) (hρ : zSh ρ) (a1 n1 : Nat) (a2 : Int32) (h : zH) (res : zH) (hR : zRq h ρ) (e : s_X11_unpack a1 n1 a2 h = some res) : zcl d 179 [zr ((52, 11, 0) : zF), zr ((a1, 20, n1) : zF), zi a2] h (zQv ρ res) := by
  rw [s_X11_unpack] at e
  refine ⟨zm_X11_unpack, rfl, ?_⟩
  show zwp d zm_X11_unpack 0 [some (zr ((52, 11, 0) : zF)), some (zr ((a1, 20, n1) : zF)), some (zi a2), none] [] h _
  refine zwp.go (m := 3) (j := 3) (ls' := [some (zr ((52, 11, 0) : zF)), some (zr ((a1, 20, n1) : zF)), some (zi a2), none]) (st' := [zi a2, zr ((a1, 20, n1) : zF), zr ((52, 11, 0) : zF)]) (h' := h) rfl ?_
  refine zc_ai e (fun _ => rfl) (fun i1 e => ?_)
  refine zc_w e rfl hR (fun h2 hR2 e => ?_)
  refine zwp.go (m := 5) (j := 10) (ls' := [some (zr ((52, 11, 0) : zF)), some (zr ((a1, 20, n1) : zF)), some (zi a2), none]) (st' := [zi (a2 + (1 : Int32)), zr ((a1, 20, n1) : zF), zr ((52, 11, 0) : zF)]) (h' := h2) rfl ?_
  refine zc_ai e (fun _ => rfl) (fun i3 e => ?_)
  refine zc_w e rfl hR2 (fun h4 hR4 e => ?_)
  refine zwp.go (m := 5) (j := 17) (ls' := [some (zr ((52, 11, 0) : zF)), some (zr ((a1, 20, n1) : zF)), some (zi a2), none]) (st' := [zi (a2 + (2 : Int32)), zr ((a1, 20, n1) : zF), zr ((52, 11, 0) : zF)]) (h' := h4) rfl ?_
  refine zc_ai e (fun _ => rfl) (fun i5 e => ?_)
  refine zc_w e rfl hR4 (fun h6 hR6 e => ?_)
  refine zwp.go (m := 5) (j := 24) (ls' := [some (zr ((52, 11, 0) : zF)), some (zr ((a1, 20, n1) : zF)), some (zi a2), none]) (st' := [zi (a2 + (3 : Int32)), zr ((a1, 20, n1) : zF), zr ((52, 11, 0) : zF)]) (h' := h6) rfl ?_
  refine zc_ai e (fun _ => rfl) (fun i7 e => ?_)
  refine zc_w e rfl hR6 (fun h8 hR8 e => ?_)
  refine zwp.go (m := 5) (j := 31) (ls' := [some (zr ((52, 11, 0) : zF)), some (zr ((a1, 20, n1) : zF)), some (zi a2), none]) (st' := [zi (a2 + (4 : Int32)), zr ((a1, 20, n1) : zF), zr ((52, 11, 0) : zF)]) (h' := h8) rfl ?_
  refine zc_ai e (fun _ => rfl) (fun i9 e => ?_)
  refine zc_w e rfl hR8 (fun h10 hR10 e => ?_)
  refine zwp.go (m := 5) (j := 38) (ls' := [some (zr ((52, 11, 0) : zF)), some (zr ((a1, 20, n1) : zF)), some (zi a2), none]) (st' := [zi (a2 + (5 : Int32)), zr ((a1, 20, n1) : zF), zr ((52, 11, 0) : zF)]) (h' := h10) rfl ?_
  refine zc_ai e (fun _ => rfl) (fun i11 e => ?_)
  refine zc_w e rfl hR10 (fun h12 hR12 e => ?_)
  refine zwp.go (m := 2) (j := 42) (ls' := [some (zr ((52, 11, 0) : zF)), some (zr ((a1, 20, n1) : zF)), some (zi a2), some (zi (0 : Int32))]) (st' := []) (h' := h12) rfl ?_
  exact s_X11_unpack_L42_ok d ρ hρ a1 n1 zfu a2 (0 : Int32) h12 _ hR12 e
def s_X11_undo (h : zH) : Option (Int32 × zH) := zlt (zwI h 52 4 (0 : Int32)) fun h1 => if ¬ (zI h1 52 35) = 0 then (zlt (zwI h1 52 35 ((zI h1 52 35) - (1 : Int32))) fun h2 => (s_X11_unpack 68 1520 ((38 : Int32) * (zI h2 52 35)) h2).bind fun h3 => some ((zI h3 52 35), h3)) else (some ((-1 : Int32), h1))
set_option maxRecDepth 100000 in
theorem s_X11_undo_ok (d : Nat) (ρ : Nat → Nat → Option zF) (hρ : zSh ρ) (h : zH) (res : Int32 × zH) (hR : zRq h ρ) (e : s_X11_undo  h = some res) : zcl (d + 1) 180 [zr ((52, 11, 0) : zF)] h (zQi ρ res) := by
  rw [s_X11_undo] at e
  refine ⟨zm_X11_undo, rfl, ?_⟩
  show zwp (d + 1) zm_X11_undo 0 [some (zr ((52, 11, 0) : zF))] [] h _
  refine zwp.go (m := 2) (j := 2) (ls' := [some (zr ((52, 11, 0) : zF))]) (st' := [zi (0 : Int32), zr ((52, 11, 0) : zF)]) (h' := h) rfl ?_
  refine zc_w e rfl hR (fun h1 hR1 e => ?_)
  refine zwp.go (m := 2) (j := 5) (ls' := [some (zr ((52, 11, 0) : zF))]) (st' := [zi (zI h1 52 35)]) (h' := h1) rfl ?_
  refine zb_if (j := 8) (j2 := 6) e rfl (fun e => ?_) (fun e => ?_)
  · refine zwp.go (m := 5) (j := 13) (ls' := [some (zr ((52, 11, 0) : zF))]) (st' := [zi ((zI h1 52 35) - (1 : Int32)), zr ((52, 11, 0) : zF)]) (h' := h1) rfl ?_
    refine zc_w e rfl hR1 (fun h2 hR2 e => ?_)
    refine zwp.go (m := 2) (j := 16) (ls' := [some (zr ((52, 11, 0) : zF))]) (st' := [zr ((52, 11, 0) : zF), zr ((52, 11, 0) : zF)]) (h' := h2) rfl ?_
    refine zc_sr (r := ((68, 20, 1520) : zF)) (zrf (a := 52) (y := 28) hR2 rfl (hρ 52 28 rfl)) rfl ?_
    refine zwp.go (m := 4) (j := 21) (ls' := [some (zr ((52, 11, 0) : zF))]) (st' := [zi ((38 : Int32) * (zI h2 52 35)), zr ((68, 20, 1520) : zF), zr ((52, 11, 0) : zF)]) (h' := h2) rfl ?_
    refine zc_cv (d := d + 0) e (fun q e => s_X11_unpack_ok (d + 0) ρ hρ 68 1520 ((38 : Int32) * (zI h2 52 35)) h2 q hR2 e) rfl rfl (fun h3 hR3 e => ?_)
    refine zwp.go (m := 2) (j := 24) (ls' := [some (zr ((52, 11, 0) : zF))]) (st' := [zi (zI h3 52 35)]) (h' := h3) rfl ?_
    cases e
    exact zwp.ret rfl rfl ⟨⟨rfl, rfl⟩, hR3⟩
  · refine zwp.go (m := 1) (j := 7) (ls' := [some (zr ((52, 11, 0) : zF))]) (st' := [zi (-1 : Int32)]) (h' := h1) rfl ?_
    cases e
    exact zwp.ret rfl rfl ⟨⟨rfl, rfl⟩, hR1⟩
def s_X10_needWithin (pp : Nat) (a1 : Int32) (a2 : Int32) (a3 : Int32) (h : zH) : Option ((Unit ⊕ Nat) × zH) := if a1 < a2 then (some (Sum.inr 0, zth h)) else (if a1 ≤ a3 then (some (Sum.inl (), h)) else (some (Sum.inr 0, zth h)))
set_option maxRecDepth 100000 in
theorem s_X10_needWithin_ok (d : Nat) (ρ : Nat → Nat → Option zF) (hρ : zSh ρ) (pp : Nat) (a1 : Int32) (a2 : Int32) (a3 : Int32) (hpp : ρ 0 3 = some (pp, 3, 0) ∧ zPlS ρ pp) (h : zH) (res : (Unit ⊕ Nat) × zH) (hR : zRq h ρ) (e : s_X10_needWithin pp a1 a2 a3 h = some res) : zcl d 181 [zr ((0, 10, 0) : zF), zi a1, zi a2, zi a3] h (zQu ρ res) := by
  rw [s_X10_needWithin] at e
  refine ⟨zm_X10_needWithin, rfl, ?_⟩
  show zwp d zm_X10_needWithin 0 [some (zr ((0, 10, 0) : zF)), some (zi a1), some (zi a2), some (zi a3)] [] h _
  refine zwp.go (m := 2) (j := 2) (ls' := [some (zr ((0, 10, 0) : zF)), some (zi a1), some (zi a2), some (zi a3)]) (st' := [zi a2, zi a1]) (h' := h) rfl ?_
  refine zb_if (j := 6) (j2 := 3) e rfl (fun e => ?_) (fun e => ?_)
  · cases e
    exact zwp.th rfl rfl ⟨⟨rfl, rfl⟩, hR⟩
  · refine zwp.go (m := 2) (j := 5) (ls' := [some (zr ((0, 10, 0) : zF)), some (zi a1), some (zi a2), some (zi a3)]) (st' := [zi a3, zi a1]) (h' := h) rfl ?_
    refine zb_if (j := 11) (j2 := 6) e rfl (fun e => ?_) (fun e => ?_)
    · cases e
      exact zwp.rv rfl ⟨⟨rfl, rfl⟩, hR⟩
    · cases e
      exact zwp.th rfl rfl ⟨⟨rfl, rfl⟩, hR⟩
def s_X8_copyFrom (a0 : Nat) (a1 : Nat) (h : zH) : Option (zH) := zcq (a1 + 1) 12 (0 : Int32) (a0 + 1) 12 (0 : Int32) (12 : Int32) h fun h1 => zcq (a1 + 2) 2 (0 : Int32) (a0 + 2) 2 (0 : Int32) (2 : Int32) h1 fun h2 => zcq (a1 + 3) 2 (0 : Int32) (a0 + 3) 2 (0 : Int32) (2 : Int32) h2 fun h3 => zcq (a1 + 4) 9 (0 : Int32) (a0 + 4) 9 (0 : Int32) (9 : Int32) h3 fun h4 => zcq (a1 + 5) 9 (0 : Int32) (a0 + 5) 9 (0 : Int32) (9 : Int32) h4 fun h5 => zlt (zwI h5 a0 5 (zI h5 a1 5)) fun h6 => zlt (zwI h6 a0 6 (zI h6 a1 6)) fun h7 => zlt (zwI h7 a0 7 (zI h7 a1 7)) fun h8 => zlt (zwI h8 a0 8 (zI h8 a1 8)) fun h9 => some h9
set_option maxRecDepth 100000 in
theorem s_X8_copyFrom_ok (d : Nat) (ρ : Nat → Nat → Option zF) (hρ : zSh ρ) (a0 : Nat) (a1 : Nat) (ha0 : zStS ρ a0) (ha1 : zStS ρ a1) (h : zH) (res : zH) (hR : zRq h ρ) (e : s_X8_copyFrom a0 a1 h = some res) : zcl d 182 [zr ((a0, 8, 0) : zF), zr ((a1, 8, 0) : zF)] h (zQv ρ res) := by
  rw [s_X8_copyFrom] at e
  refine ⟨zm_X8_copyFrom, rfl, ?_⟩
  show zwp d zm_X8_copyFrom 0 [some (zr ((a0, 8, 0) : zF)), some (zr ((a1, 8, 0) : zF))] [] h _
  refine zwp.go (m := 1) (j := 1) (ls' := [some (zr ((a0, 8, 0) : zF)), some (zr ((a1, 8, 0) : zF))]) (st' := [zr ((a1, 8, 0) : zF)]) (h' := h) rfl ?_
  refine zc_sr (r := (((a1 + 1), 20, 12) : zF)) (zrf (a := a1) (y := 0) hR rfl ha1.2.1) rfl ?_
  refine zwp.go (m := 2) (j := 4) (ls' := [some (zr ((a0, 8, 0) : zF)), some (zr ((a1, 8, 0) : zF))]) (st' := [zr ((a0, 8, 0) : zF), zi (0 : Int32), zr (((a1 + 1), 20, 12) : zF)]) (h' := h) rfl ?_
  refine zc_sr (r := (((a0 + 1), 20, 12) : zF)) (zrf (a := a0) (y := 0) hR rfl ha0.2.1) rfl ?_
  refine zwp.go (m := 2) (j := 7) (ls' := [some (zr ((a0, 8, 0) : zF)), some (zr ((a1, 8, 0) : zF))]) (st' := [zi (12 : Int32), zi (0 : Int32), zr (((a0 + 1), 20, 12) : zF), zi (0 : Int32), zr (((a1 + 1), 20, 12) : zF)]) (h' := h) rfl ?_
  refine zc_cq e rfl rfl hR (fun h1 hR1 e => ?_)
  refine zwp.go (m := 1) (j := 9) (ls' := [some (zr ((a0, 8, 0) : zF)), some (zr ((a1, 8, 0) : zF))]) (st' := [zr ((a1, 8, 0) : zF)]) (h' := h1) rfl ?_
  refine zc_sr (r := (((a1 + 2), 20, 2) : zF)) (zrf (a := a1) (y := 1) hR1 rfl ha1.2.2.1) rfl ?_
  refine zwp.go (m := 2) (j := 12) (ls' := [some (zr ((a0, 8, 0) : zF)), some (zr ((a1, 8, 0) : zF))]) (st' := [zr ((a0, 8, 0) : zF), zi (0 : Int32), zr (((a1 + 2), 20, 2) : zF)]) (h' := h1) rfl ?_
  refine zc_sr (r := (((a0 + 2), 20, 2) : zF)) (zrf (a := a0) (y := 1) hR1 rfl ha0.2.2.1) rfl ?_
  refine zwp.go (m := 2) (j := 15) (ls' := [some (zr ((a0, 8, 0) : zF)), some (zr ((a1, 8, 0) : zF))]) (st' := [zi (2 : Int32), zi (0 : Int32), zr (((a0 + 2), 20, 2) : zF), zi (0 : Int32), zr (((a1 + 2), 20, 2) : zF)]) (h' := h1) rfl ?_
  refine zc_cq e rfl rfl hR1 (fun h2 hR2 e => ?_)
  refine zwp.go (m := 1) (j := 17) (ls' := [some (zr ((a0, 8, 0) : zF)), some (zr ((a1, 8, 0) : zF))]) (st' := [zr ((a1, 8, 0) : zF)]) (h' := h2) rfl ?_
  refine zc_sr (r := (((a1 + 3), 20, 2) : zF)) (zrf (a := a1) (y := 2) hR2 rfl ha1.2.2.2.1) rfl ?_
  refine zwp.go (m := 2) (j := 20) (ls' := [some (zr ((a0, 8, 0) : zF)), some (zr ((a1, 8, 0) : zF))]) (st' := [zr ((a0, 8, 0) : zF), zi (0 : Int32), zr (((a1 + 3), 20, 2) : zF)]) (h' := h2) rfl ?_
  refine zc_sr (r := (((a0 + 3), 20, 2) : zF)) (zrf (a := a0) (y := 2) hR2 rfl ha0.2.2.2.1) rfl ?_
  refine zwp.go (m := 2) (j := 23) (ls' := [some (zr ((a0, 8, 0) : zF)), some (zr ((a1, 8, 0) : zF))]) (st' := [zi (2 : Int32), zi (0 : Int32), zr (((a0 + 3), 20, 2) : zF), zi (0 : Int32), zr (((a1 + 3), 20, 2) : zF)]) (h' := h2) rfl ?_
  refine zc_cq e rfl rfl hR2 (fun h3 hR3 e => ?_)
  refine zwp.go (m := 1) (j := 25) (ls' := [some (zr ((a0, 8, 0) : zF)), some (zr ((a1, 8, 0) : zF))]) (st' := [zr ((a1, 8, 0) : zF)]) (h' := h3) rfl ?_
  refine zc_sr (r := (((a1 + 4), 20, 9) : zF)) (zrf (a := a1) (y := 3) hR3 (zmu3 ha1.1) ha1.2.2.2.2.1) rfl ?_
  refine zwp.go (m := 2) (j := 28) (ls' := [some (zr ((a0, 8, 0) : zF)), some (zr ((a1, 8, 0) : zF))]) (st' := [zr ((a0, 8, 0) : zF), zi (0 : Int32), zr (((a1 + 4), 20, 9) : zF)]) (h' := h3) rfl ?_
  refine zc_sr (r := (((a0 + 4), 20, 9) : zF)) (zrf (a := a0) (y := 3) hR3 (zmu3 ha0.1) ha0.2.2.2.2.1) rfl ?_
  refine zwp.go (m := 2) (j := 31) (ls' := [some (zr ((a0, 8, 0) : zF)), some (zr ((a1, 8, 0) : zF))]) (st' := [zi (9 : Int32), zi (0 : Int32), zr (((a0 + 4), 20, 9) : zF), zi (0 : Int32), zr (((a1 + 4), 20, 9) : zF)]) (h' := h3) rfl ?_
  refine zc_cq e rfl rfl hR3 (fun h4 hR4 e => ?_)
  refine zwp.go (m := 1) (j := 33) (ls' := [some (zr ((a0, 8, 0) : zF)), some (zr ((a1, 8, 0) : zF))]) (st' := [zr ((a1, 8, 0) : zF)]) (h' := h4) rfl ?_
  refine zc_sr (r := (((a1 + 5), 20, 9) : zF)) (zrf (a := a1) (y := 4) hR4 rfl ha1.2.2.2.2.2) rfl ?_
  refine zwp.go (m := 2) (j := 36) (ls' := [some (zr ((a0, 8, 0) : zF)), some (zr ((a1, 8, 0) : zF))]) (st' := [zr ((a0, 8, 0) : zF), zi (0 : Int32), zr (((a1 + 5), 20, 9) : zF)]) (h' := h4) rfl ?_
  refine zc_sr (r := (((a0 + 5), 20, 9) : zF)) (zrf (a := a0) (y := 4) hR4 rfl ha0.2.2.2.2.2) rfl ?_
  refine zwp.go (m := 2) (j := 39) (ls' := [some (zr ((a0, 8, 0) : zF)), some (zr ((a1, 8, 0) : zF))]) (st' := [zi (9 : Int32), zi (0 : Int32), zr (((a0 + 5), 20, 9) : zF), zi (0 : Int32), zr (((a1 + 5), 20, 9) : zF)]) (h' := h4) rfl ?_
  refine zc_cq e rfl rfl hR4 (fun h5 hR5 e => ?_)
  refine zwp.go (m := 3) (j := 43) (ls' := [some (zr ((a0, 8, 0) : zF)), some (zr ((a1, 8, 0) : zF))]) (st' := [zi (zI h5 a1 5), zr ((a0, 8, 0) : zF)]) (h' := h5) rfl ?_
  refine zc_w e rfl hR5 (fun h6 hR6 e => ?_)
  refine zwp.go (m := 3) (j := 47) (ls' := [some (zr ((a0, 8, 0) : zF)), some (zr ((a1, 8, 0) : zF))]) (st' := [zi (zI h6 a1 6), zr ((a0, 8, 0) : zF)]) (h' := h6) rfl ?_
  refine zc_w e rfl hR6 (fun h7 hR7 e => ?_)
  refine zwp.go (m := 3) (j := 51) (ls' := [some (zr ((a0, 8, 0) : zF)), some (zr ((a1, 8, 0) : zF))]) (st' := [zi (zI h7 a1 7), zr ((a0, 8, 0) : zF)]) (h' := h7) rfl ?_
  refine zc_w e rfl hR7 (fun h8 hR8 e => ?_)
  refine zwp.go (m := 3) (j := 55) (ls' := [some (zr ((a0, 8, 0) : zF)), some (zr ((a1, 8, 0) : zF))]) (st' := [zi (zI h8 a1 8), zr ((a0, 8, 0) : zF)]) (h' := h8) rfl ?_
  refine zc_w e rfl hR8 (fun h9 hR9 e => ?_)
  cases e
  exact zwp.rv rfl ⟨⟨rfl, rfl⟩, hR9⟩
def s_X10_tryDays_L10 (pp : Nat) : Nat → Int32 → Int32 → Int32 → zH → Option (Int32 × zH)
  | 0, _, _, _, _ => none
  | n + 1, l1, l2, l3, h => if l1 ≤ l3 then (some (l2, h)) else (zbd (s_X9_pass pp 30 h) fun v2 h1 => if v2 = 0 then (s_X10_tryDays_L10 pp n l1 l2 (l3 + (1 : Int32)) h1) else (s_X10_tryDays_L10 pp n l1 (l2 ||| (zI h1 36 2)) (l3 + (1 : Int32)) h1))
set_option maxRecDepth 100000 in
theorem s_X10_tryDays_L10_ok (d : Nat) (ρ : Nat → Nat → Option zF) (hρ : zSh ρ) (pp : Nat) (hpp : ρ 0 3 = some (pp, 3, 0) ∧ zPlS ρ pp) : ∀ (n : Nat) (l1 : Int32) (l2 : Int32) (l3 : Int32) (h : zH) (res : Int32 × zH) (hR : zRq h ρ) (e : s_X10_tryDays_L10 pp n l1 l2 l3 h = some res), zwp (d + 5) zm_X10_tryDays 10 [some (zr ((0, 10, 0) : zF)), some (zi l1), some (zi l2), some (zi l3)] [] h (zQi ρ res) := by
  intro n
  induction n with
  | zero => intro l1 l2 l3 h res hR e; cases e
  | succ n ih =>
    intro l1 l2 l3 h res hR e
    rw [s_X10_tryDays_L10] at e
    refine zwp.go (m := 2) (j := 12) (ls' := [some (zr ((0, 10, 0) : zF)), some (zi l1), some (zi l2), some (zi l3)]) (st' := [zi l1, zi l3]) (h' := h) rfl ?_
    refine zb_if (j := 29) (j2 := 13) e rfl (fun e => ?_) (fun e => ?_)
    · refine zwp.go (m := 1) (j := 30) (ls' := [some (zr ((0, 10, 0) : zF)), some (zi l1), some (zi l2), some (zi l3)]) (st' := [zi l2]) (h' := h) rfl ?_
      cases e
      exact zwp.ret rfl rfl ⟨⟨rfl, rfl⟩, hR⟩
    · refine zwp.go (m := 1) (j := 14) (ls' := [some (zr ((0, 10, 0) : zF)), some (zi l1), some (zi l2), some (zi l3)]) (st' := [zr ((0, 10, 0) : zF)]) (h' := h) rfl ?_
      refine zc_sr (r := ((36, 9, 0) : zF)) (zrf (a := 0) (y := 10) hR rfl (hρ 0 10 rfl)) rfl ?_
      refine zwp.go (m := 1) (j := 16) (ls' := [some (zr ((0, 10, 0) : zF)), some (zi l1), some (zi l2), some (zi l3)]) (st' := [zr ((0, 10, 0) : zF), zr ((36, 9, 0) : zF)]) (h' := h) rfl ?_
      refine zc_sr (r := ((pp, 3, 0) : zF)) (zrf (a := 0) (y := 3) hR rfl hpp.1) rfl ?_
      refine zwp.go (m := 1) (j := 18) (ls' := [some (zr ((0, 10, 0) : zF)), some (zi l1), some (zi l2), some (zi l3)]) (st' := [zr ((0, 10, 0) : zF), zr ((pp, 3, 0) : zF), zr ((36, 9, 0) : zF)]) (h' := h) rfl ?_
      refine zc_sr (r := ((30, 8, 0) : zF)) (zrf (a := 0) (y := 9) hR rfl (hρ 0 9 rfl)) rfl ?_
      refine zc_ci (d := d + 4) e (fun q e => s_X9_pass_ok (d + 0) ρ hρ pp 30 hpp.2 (zSh_st30 hρ) h q hR e) rfl rfl (fun v2 h1 hR1 e => ?_)
      refine zb_if (j := 27) (j2 := 21) e rfl (fun e => ?_) (fun e => ?_)
      · refine zwp.go (m := 2) (j := 10) (ls' := [some (zr ((0, 10, 0) : zF)), some (zi l1), some (zi l2), some (zi (l3 + (1 : Int32)))]) (st' := []) (h' := h1) rfl ?_
        exact ih l1 l2 (l3 + (1 : Int32)) h1 _ hR1 e
      · refine zwp.go (m := 2) (j := 23) (ls' := [some (zr ((0, 10, 0) : zF)), some (zi l1), some (zi l2), some (zi l3)]) (st' := [zr ((0, 10, 0) : zF), zi l2]) (h' := h1) rfl ?_
        refine zc_sr (r := ((36, 9, 0) : zF)) (zrf (a := 0) (y := 10) hR1 rfl (hρ 0 10 rfl)) rfl ?_
        refine zwp.go (m := 5) (j := 10) (ls' := [some (zr ((0, 10, 0) : zF)), some (zi l1), some (zi (l2 ||| (zI h1 36 2))), some (zi (l3 + (1 : Int32)))]) (st' := []) (h' := h1) rfl ?_
        exact ih l1 (l2 ||| (zI h1 36 2)) (l3 + (1 : Int32)) h1 _ hR1 e
def s_X10_tryDays (pp : Nat) (a1 : Int32) (h : zH) : Option (Int32 × zH) := (s_X8_copyFrom 30 19 h).bind fun h1 => s_X10_tryDays_L10 pp zfu a1 (0 : Int32) (0 : Int32) h1
set_option maxRecDepth 100000 in
theorem s_X10_tryDays_ok (d : Nat) (ρ : Nat → Nat → Option zF) (hρ : zSh ρ) (pp : Nat) (a1 : Int32) (hpp : ρ 0 3 = some (pp, 3, 0) ∧ zPlS ρ pp) (h : zH) (res : Int32 × zH) (hR : zRq h ρ) (e : s_X10_tryDays pp a1 h = some res) : zcl (d + 5) 183 [zr ((0, 10, 0) : zF), zi a1] h (zQi ρ res) := by
  rw [s_X10_tryDays] at e
  refine ⟨zm_X10_tryDays, rfl, ?_⟩
  show zwp (d + 5) zm_X10_tryDays 0 [some (zr ((0, 10, 0) : zF)), some (zi a1), none, none] [] h _
  refine zwp.go (m := 1) (j := 1) (ls' := [some (zr ((0, 10, 0) : zF)), some (zi a1), none, none]) (st' := [zr ((0, 10, 0) : zF)]) (h' := h) rfl ?_
  refine zc_sr (r := ((30, 8, 0) : zF)) (zrf (a := 0) (y := 9) hR rfl (hρ 0 9 rfl)) rfl ?_
  refine zwp.go (m := 1) (j := 3) (ls' := [some (zr ((0, 10, 0) : zF)), some (zi a1), none, none]) (st' := [zr ((0, 10, 0) : zF), zr ((30, 8, 0) : zF)]) (h' := h) rfl ?_
  refine zc_sr (r := ((18, 2, 0) : zF)) (zrf (a := 0) (y := 6) hR rfl (hρ 0 6 rfl)) rfl ?_
  refine zc_sr (r := ((19, 8, 0) : zF)) (zrf (a := 18) (y := 0) hR rfl (zSh_ld18 hρ).2.1) rfl ?_
  refine zc_cv (d := d + 4) e (fun q e => s_X8_copyFrom_ok (d + 4) ρ hρ 30 19 (zSh_st30 hρ) (zSh_st19 hρ) h q hR e) rfl rfl (fun h1 hR1 e => ?_)
  refine zwp.go (m := 4) (j := 10) (ls' := [some (zr ((0, 10, 0) : zF)), some (zi a1), some (zi (0 : Int32)), some (zi (0 : Int32))]) (st' := []) (h' := h1) rfl ?_
  exact s_X10_tryDays_L10_ok d ρ hρ pp hpp zfu a1 (0 : Int32) (0 : Int32) h1 _ hR1 e
def s_X10_then (pp : Nat) (a1 : Int32) (a2 : Int32) (h : zH) : Option ((Int32 ⊕ Nat) × zH) := zbx (s_X10_needRib pp a1 h) (fun _ h2 => zbx (s_X10_needWithin pp a2 (0 : Int32) (60 : Int32) h2) (fun _ h4 => zbd (s_X10_tryDays pp a2 h4) fun v6 h5 => zix a1 12 fun i7 => some (Sum.inl (zI h5 31 i7), h5)) (fun x h3 => some (Sum.inr x, h3))) (fun x h1 => some (Sum.inr x, h1))
set_option maxRecDepth 100000 in
theorem s_X10_then_ok (d : Nat) (ρ : Nat → Nat → Option zF) (hρ : zSh ρ) (pp : Nat) (a1 : Int32) (a2 : Int32) (hpp : ρ 0 3 = some (pp, 3, 0) ∧ zPlS ρ pp) (h : zH) (res : (Int32 ⊕ Nat) × zH) (hR : zRq h ρ) (e : s_X10_then pp a1 a2 h = some res) : zcl (d + 6) 184 [zr ((0, 10, 0) : zF), zi a1, zi a2] h (zQx ρ res) := by
  rw [s_X10_then] at e
  refine ⟨zm_X10_then, rfl, ?_⟩
  show zwp (d + 6) zm_X10_then 0 [some (zr ((0, 10, 0) : zF)), some (zi a1), some (zi a2)] [] h _
  refine zwp.go (m := 2) (j := 2) (ls' := [some (zr ((0, 10, 0) : zF)), some (zi a1), some (zi a2)]) (st' := [zi a1, zr ((0, 10, 0) : zF)]) (h' := h) rfl ?_
  refine zc_cu (d := d + 5) e (fun q e => s_X10_needRib_ok (d + 5) ρ hρ pp a1 hpp h q hR e) rfl rfl (fun h2 hR2 e => ?_) (fun x h1 hR1 e => ?_)
  · refine zwp.go (m := 4) (j := 7) (ls' := [some (zr ((0, 10, 0) : zF)), some (zi a1), some (zi a2)]) (st' := [zi (60 : Int32), zi (0 : Int32), zi a2, zr ((0, 10, 0) : zF)]) (h' := h2) rfl ?_
    refine zc_cu (d := d + 5) e (fun q e => s_X10_needWithin_ok (d + 5) ρ hρ pp a2 (0 : Int32) (60 : Int32) hpp h2 q hR2 e) rfl rfl (fun h4 hR4 e => ?_) (fun x h3 hR3 e => ?_)
    · refine zwp.go (m := 2) (j := 10) (ls' := [some (zr ((0, 10, 0) : zF)), some (zi a1), some (zi a2)]) (st' := [zi a2, zr ((0, 10, 0) : zF)]) (h' := h4) rfl ?_
      refine zc_ci (d := d + 5) e (fun q e => s_X10_tryDays_ok (d + 0) ρ hρ pp a2 hpp h4 q hR4 e) rfl rfl (fun v6 h5 hR5 e => ?_)
      refine zwp.go (m := 2) (j := 13) (ls' := [some (zr ((0, 10, 0) : zF)), some (zi a1), some (zi a2)]) (st' := [zr ((0, 10, 0) : zF)]) (h' := h5) rfl ?_
      refine zc_sr (r := ((30, 8, 0) : zF)) (zrf (a := 0) (y := 9) hR5 rfl (hρ 0 9 rfl)) rfl ?_
      refine zc_sr (r := ((31, 20, 12) : zF)) (zrf (a := 30) (y := 0) hR5 rfl (zSh_st30 hρ).2.1) rfl ?_
      refine zwp.go (m := 1) (j := 16) (ls' := [some (zr ((0, 10, 0) : zF)), some (zi a1), some (zi a2)]) (st' := [zi a1, zr ((31, 20, 12) : zF)]) (h' := h5) rfl ?_
      refine zc_ai e (fun _ => rfl) (fun i7 e => ?_)
      cases e
      exact zwp.ret rfl rfl ⟨⟨rfl, rfl⟩, hR5⟩
    · cases e
      exact ⟨rfl, ⟨⟨rfl, rfl⟩, hR3⟩⟩
  · cases e
    exact ⟨rfl, ⟨⟨rfl, rfl⟩, hR1⟩⟩
def s_L_then (pp : Nat) (a1 : Int32) (a2 : Int32) (a3 n3 : Nat) (h : zH) : Option (Int32 × zH) := zbx (s_X10_then pp a1 a2 h) (fun v3 h2 => zix (0 : Int32) n3 fun i5 => zlt (zwL h2 a3 i5 v3.toInt64) fun h4 => some ((0 : Int32), h4)) (fun x h1 => if x = 1 then (some ((1 : Int32), h1)) else if x = 0 then (some ((2 : Int32), h1)) else none)
set_option maxRecDepth 100000 in
theorem s_L_then_ok (d : Nat) (ρ : Nat → Nat → Option zF) (hρ : zSh ρ) (pp : Nat) (a1 : Int32) (a2 : Int32) (a3 n3 : Nat) (hpp : ρ 0 3 = some (pp, 3, 0) ∧ zPlS ρ pp) (h : zH) (res : Int32 × zH) (hR : zRq h ρ) (e : s_L_then pp a1 a2 a3 n3 h = some res) : zcl (d + 7) 185 [zr ((0, 10, 0) : zF), zi a1, zi a2, zr ((a3, 23, n3) : zF)] h (zQi ρ res) := by
  rw [s_L_then] at e
  refine ⟨zm_L_then, rfl, ?_⟩
  show zwp (d + 7) zm_L_then 0 [some (zr ((0, 10, 0) : zF)), some (zi a1), some (zi a2), some (zr ((a3, 23, n3) : zF)), none] [] h _
  refine zwp.go (m := 5) (j := 5) (ls' := [some (zr ((0, 10, 0) : zF)), some (zi a1), some (zi a2), some (zr ((a3, 23, n3) : zF)), none]) (st' := [zi a2, zi a1, zr ((0, 10, 0) : zF), zi (0 : Int32), zr ((a3, 23, n3) : zF)]) (h' := h) rfl ?_
  refine zc_cx (d := d + 6) e (fun q e => s_X10_then_ok (d + 0) ρ hρ pp a1 a2 hpp h q hR e) rfl rfl (fun v3 h2 hR2 e => ?_) (fun x h1 hR1 e => ?_)
  · refine zwp.go (m := 1) (j := 7) (ls' := [some (zr ((0, 10, 0) : zF)), some (zi a1), some (zi a2), some (zr ((a3, 23, n3) : zF)), none]) (st' := [zl v3.toInt64, zi (0 : Int32), zr ((a3, 23, n3) : zF)]) (h' := h2) rfl ?_
    refine zc_sl e (fun _ => rfl) hR2 (fun h4 hR4 e => ?_)
    refine zwp.go (m := 2) (j := 16) (ls' := [some (zr ((0, 10, 0) : zF)), some (zi a1), some (zi a2), some (zr ((a3, 23, n3) : zF)), none]) (st' := [zi (0 : Int32)]) (h' := h4) rfl ?_
    cases e
    exact zwp.ret rfl rfl ⟨⟨rfl, rfl⟩, hR4⟩
  · by_cases q1 : x = 1
    · subst q1
      replace e : (some ((1 : Int32), h1)) = some res := by simpa using e
      show zwp _ _ 10 [some (zr ((0, 10, 0) : zF)), some (zi a1), some (zi a2), some (zr ((a3, 23, n3) : zF)), none] [] _ _
      refine zwp.go (m := 1) (j := 11) (ls' := [some (zr ((0, 10, 0) : zF)), some (zi a1), some (zi a2), some (zr ((a3, 23, n3) : zF)), none]) (st' := [zi (1 : Int32)]) (h' := h1) rfl ?_
      cases e
      exact zwp.ret rfl rfl ⟨⟨rfl, rfl⟩, hR1⟩
    · skip
      by_cases q0 : x = 0
      · subst q0
        replace e : (some ((2 : Int32), h1)) = some res := by simpa using e
        show zwp _ _ 13 [some (zr ((0, 10, 0) : zF)), some (zi a1), some (zi a2), some (zr ((a3, 23, n3) : zF)), none] [] _ _
        refine zwp.go (m := 1) (j := 14) (ls' := [some (zr ((0, 10, 0) : zF)), some (zi a1), some (zi a2), some (zr ((a3, 23, n3) : zF)), none]) (st' := [zi (2 : Int32)]) (h' := h1) rfl ?_
        cases e
        exact zwp.ret rfl rfl ⟨⟨rfl, rfl⟩, hR1⟩
      · skip
        simp [q1, q0] at e
def s_X11_then (a1 : Int32) (a2 : Int32) (h : zH) : Option (Int32 × zH) := zlt (zwI h 52 4 (0 : Int32)) fun h1 => (s_X11_isRib a1 h1).bind fun v2 => if ¬ v2 = 0 then ((s_X11_isIn a2.toInt64 (0 : Int64) (60 : Int64) h1).bind fun v3 => if ¬ v3 = 0 then ((s_X11_pack 71 38 (0 : Int32) h1).bind fun h4 => (s_X11_goOn a2 h4).bind fun h5 => zix a1 12 fun i6 => (s_X11_unpack 71 38 (0 : Int32) h5).bind fun h7 => some ((zI h5 64 i6), h7)) else (zbd (s_X11_fail (2 : Int32) h1) fun v9 h8 => some (v9, h8))) else (zbd (s_X11_fail (1 : Int32) h1) fun v11 h10 => some (v11, h10))
set_option maxRecDepth 100000 in
theorem s_X11_then_ok (d : Nat) (ρ : Nat → Nat → Option zF) (hρ : zSh ρ) (a1 : Int32) (a2 : Int32) (h : zH) (res : Int32 × zH) (hR : zRq h ρ) (e : s_X11_then a1 a2 h = some res) : zcl (d + 6) 186 [zr ((52, 11, 0) : zF), zi a1, zi a2] h (zQi ρ res) := by
  rw [s_X11_then] at e
  refine ⟨zm_X11_then, rfl, ?_⟩
  show zwp (d + 6) zm_X11_then 0 [some (zr ((52, 11, 0) : zF)), some (zi a1), some (zi a2), none] [] h _
  refine zwp.go (m := 2) (j := 2) (ls' := [some (zr ((52, 11, 0) : zF)), some (zi a1), some (zi a2), none]) (st' := [zi (0 : Int32), zr ((52, 11, 0) : zF)]) (h' := h) rfl ?_
  refine zc_w e rfl hR (fun h1 hR1 e => ?_)
  refine zwp.go (m := 2) (j := 5) (ls' := [some (zr ((52, 11, 0) : zF)), some (zi a1), some (zi a2), none]) (st' := [zi a1, zr ((52, 11, 0) : zF)]) (h' := h1) rfl ?_
  refine zc_cp (d := d + 5) e (fun q e => s_X11_isRib_ok (d + 4) ρ hρ a1 h1 q hR1 e) rfl rfl (fun v2 e => ?_)
  refine zb_if (j := 11) (j2 := 7) e rfl (fun e => ?_) (fun e => ?_)
  · refine zwp.go (m := 4) (j := 15) (ls' := [some (zr ((52, 11, 0) : zF)), some (zi a1), some (zi a2), none]) (st' := [zl (60 : Int64), zl (0 : Int64), zl a2.toInt64]) (h' := h1) rfl ?_
    refine zc_cp (d := d + 5) e (fun q e => s_X11_isIn_ok (d + 5) ρ hρ a2.toInt64 (0 : Int64) (60 : Int64) h1 q hR1 e) rfl rfl (fun v3 e => ?_)
    refine zb_if (j := 21) (j2 := 17) e rfl (fun e => ?_) (fun e => ?_)
    · refine zwp.go (m := 2) (j := 23) (ls' := [some (zr ((52, 11, 0) : zF)), some (zi a1), some (zi a2), none]) (st' := [zr ((52, 11, 0) : zF), zr ((52, 11, 0) : zF)]) (h' := h1) rfl ?_
      refine zc_sr (r := ((71, 20, 38) : zF)) (zrf (a := 52) (y := 42) hR1 rfl (hρ 52 42 rfl)) rfl ?_
      refine zwp.go (m := 1) (j := 25) (ls' := [some (zr ((52, 11, 0) : zF)), some (zi a1), some (zi a2), none]) (st' := [zi (0 : Int32), zr ((71, 20, 38) : zF), zr ((52, 11, 0) : zF)]) (h' := h1) rfl ?_
      refine zc_cv (d := d + 5) e (fun q e => s_X11_pack_ok (d + 5) ρ hρ 71 38 (0 : Int32) h1 q hR1 e) rfl rfl (fun h4 hR4 e => ?_)
      refine zwp.go (m := 2) (j := 28) (ls' := [some (zr ((52, 11, 0) : zF)), some (zi a1), some (zi a2), none]) (st' := [zi a2, zr ((52, 11, 0) : zF)]) (h' := h4) rfl ?_
      refine zc_cv (d := d + 5) e (fun q e => s_X11_goOn_ok (d + 0) ρ hρ a2 h4 q hR4 e) rfl rfl (fun h5 hR5 e => ?_)
      refine zwp.go (m := 1) (j := 30) (ls' := [some (zr ((52, 11, 0) : zF)), some (zi a1), some (zi a2), none]) (st' := [zr ((52, 11, 0) : zF)]) (h' := h5) rfl ?_
      refine zc_sr (r := ((64, 20, 12) : zF)) (zrf (a := 52) (y := 24) hR5 rfl (hρ 52 24 rfl)) rfl ?_
      refine zwp.go (m := 1) (j := 32) (ls' := [some (zr ((52, 11, 0) : zF)), some (zi a1), some (zi a2), none]) (st' := [zi a1, zr ((64, 20, 12) : zF)]) (h' := h5) rfl ?_
      refine zc_ai e (fun _ => rfl) (fun i6 e => ?_)
      refine zwp.go (m := 3) (j := 36) (ls' := [some (zr ((52, 11, 0) : zF)), some (zi a1), some (zi a2), some (zi (zI h5 64 i6))]) (st' := [zr ((52, 11, 0) : zF), zr ((52, 11, 0) : zF)]) (h' := h5) rfl ?_
      refine zc_sr (r := ((71, 20, 38) : zF)) (zrf (a := 52) (y := 42) hR5 rfl (hρ 52 42 rfl)) rfl ?_
      refine zwp.go (m := 1) (j := 38) (ls' := [some (zr ((52, 11, 0) : zF)), some (zi a1), some (zi a2), some (zi (zI h5 64 i6))]) (st' := [zi (0 : Int32), zr ((71, 20, 38) : zF), zr ((52, 11, 0) : zF)]) (h' := h5) rfl ?_
      refine zc_cv (d := d + 5) e (fun q e => s_X11_unpack_ok (d + 5) ρ hρ 71 38 (0 : Int32) h5 q hR5 e) rfl rfl (fun h7 hR7 e => ?_)
      refine zwp.go (m := 1) (j := 40) (ls' := [some (zr ((52, 11, 0) : zF)), some (zi a1), some (zi a2), some (zi (zI h5 64 i6))]) (st' := [zi (zI h5 64 i6)]) (h' := h7) rfl ?_
      cases e
      exact zwp.ret rfl rfl ⟨⟨rfl, rfl⟩, hR7⟩
    · refine zwp.go (m := 2) (j := 19) (ls' := [some (zr ((52, 11, 0) : zF)), some (zi a1), some (zi a2), none]) (st' := [zi (2 : Int32), zr ((52, 11, 0) : zF)]) (h' := h1) rfl ?_
      refine zc_ci (d := d + 5) e (fun q e => s_X11_fail_ok (d + 5) ρ hρ (2 : Int32) h1 q hR1 e) rfl rfl (fun v9 h8 hR8 e => ?_)
      cases e
      exact zwp.ret rfl rfl ⟨⟨rfl, rfl⟩, hR8⟩
  · refine zwp.go (m := 2) (j := 9) (ls' := [some (zr ((52, 11, 0) : zF)), some (zi a1), some (zi a2), none]) (st' := [zi (1 : Int32), zr ((52, 11, 0) : zF)]) (h' := h1) rfl ?_
    refine zc_ci (d := d + 5) e (fun q e => s_X11_fail_ok (d + 5) ρ hρ (1 : Int32) h1 q hR1 e) rfl rfl (fun v11 h10 hR10 e => ?_)
    cases e
    exact zwp.ret rfl rfl ⟨⟨rfl, rfl⟩, hR10⟩
def s_X10_later (pp : Nat) (a1 : Int32) (a2 : Int32) (h : zH) : Option ((Int32 ⊕ Nat) × zH) := zbx (s_X10_needWhat pp a2 (4 : Int32) h) (fun _ h2 => zbx (s_X10_needWithin pp a1 (0 : Int32) (60 : Int32) h2) (fun _ h4 => zbd (s_X10_tryDays pp a1 h4) fun v6 h5 => if a2 = 0 then (some (Sum.inl (zI h5 33 0), h5)) else if a2 = 1 then (some (Sum.inl (zI h5 33 1), h5)) else if a2 = 2 then (some (Sum.inl (zI h5 30 7), h5)) else ((s_X8_goneBits 30 (zI h5 pp 6) h5).bind fun v7 => some (Sum.inl v7, h5))) (fun x h3 => some (Sum.inr x, h3))) (fun x h1 => some (Sum.inr x, h1))
set_option maxRecDepth 100000 in
theorem s_X10_later_ok (d : Nat) (ρ : Nat → Nat → Option zF) (hρ : zSh ρ) (pp : Nat) (a1 : Int32) (a2 : Int32) (hpp : ρ 0 3 = some (pp, 3, 0) ∧ zPlS ρ pp) (h : zH) (res : (Int32 ⊕ Nat) × zH) (hR : zRq h ρ) (e : s_X10_later pp a1 a2 h = some res) : zcl (d + 6) 187 [zr ((0, 10, 0) : zF), zi a1, zi a2] h (zQx ρ res) := by
  rw [s_X10_later] at e
  refine ⟨zm_X10_later, rfl, ?_⟩
  show zwp (d + 6) zm_X10_later 0 [some (zr ((0, 10, 0) : zF)), some (zi a1), some (zi a2)] [] h _
  refine zwp.go (m := 3) (j := 3) (ls' := [some (zr ((0, 10, 0) : zF)), some (zi a1), some (zi a2)]) (st' := [zi (4 : Int32), zi a2, zr ((0, 10, 0) : zF)]) (h' := h) rfl ?_
  refine zc_cu (d := d + 5) e (fun q e => s_X10_needWhat_ok (d + 5) ρ hρ pp a2 (4 : Int32) hpp h q hR e) rfl rfl (fun h2 hR2 e => ?_) (fun x h1 hR1 e => ?_)
  · refine zwp.go (m := 4) (j := 8) (ls' := [some (zr ((0, 10, 0) : zF)), some (zi a1), some (zi a2)]) (st' := [zi (60 : Int32), zi (0 : Int32), zi a1, zr ((0, 10, 0) : zF)]) (h' := h2) rfl ?_
    refine zc_cu (d := d + 5) e (fun q e => s_X10_needWithin_ok (d + 5) ρ hρ pp a1 (0 : Int32) (60 : Int32) hpp h2 q hR2 e) rfl rfl (fun h4 hR4 e => ?_) (fun x h3 hR3 e => ?_)
    · refine zwp.go (m := 2) (j := 11) (ls' := [some (zr ((0, 10, 0) : zF)), some (zi a1), some (zi a2)]) (st' := [zi a1, zr ((0, 10, 0) : zF)]) (h' := h4) rfl ?_
      refine zc_ci (d := d + 5) e (fun q e => s_X10_tryDays_ok (d + 0) ρ hρ pp a1 hpp h4 q hR4 e) rfl rfl (fun v6 h5 hR5 e => ?_)
      refine zwp.go (m := 2) (j := 14) (ls' := [some (zr ((0, 10, 0) : zF)), some (zi a1), some (zi a2)]) (st' := [zi a2]) (h' := h5) rfl ?_
      refine zwp.nx (j := zsw [(0, 15), (1, 21), (2, 27)] 31 a2) (ls' := [some (zr ((0, 10, 0) : zF)), some (zi a1), some (zi a2)]) (st' := []) (h' := h5) rfl ?_
      refine zb_sw e (fun e => ?_) (fun e => ?_)
      · refine zwp.go (m := 1) (j := 16) (ls' := [some (zr ((0, 10, 0) : zF)), some (zi a1), some (zi a2)]) (st' := [zr ((0, 10, 0) : zF)]) (h' := h5) rfl ?_
        refine zc_sr (r := ((30, 8, 0) : zF)) (zrf (a := 0) (y := 9) hR5 rfl (hρ 0 9 rfl)) rfl ?_
        refine zc_sr (r := ((33, 20, 2) : zF)) (zrf (a := 30) (y := 2) hR5 rfl (zSh_st30 hρ).2.2.2.1) rfl ?_
        refine zwp.go (m := 2) (j := 20) (ls' := [some (zr ((0, 10, 0) : zF)), some (zi a1), some (zi a2)]) (st' := [zi (zI h5 33 0)]) (h' := h5) rfl ?_
        cases e
        exact zwp.ret rfl rfl ⟨⟨rfl, rfl⟩, hR5⟩
      refine zb_sw e (fun e => ?_) (fun e => ?_)
      · refine zwp.go (m := 1) (j := 22) (ls' := [some (zr ((0, 10, 0) : zF)), some (zi a1), some (zi a2)]) (st' := [zr ((0, 10, 0) : zF)]) (h' := h5) rfl ?_
        refine zc_sr (r := ((30, 8, 0) : zF)) (zrf (a := 0) (y := 9) hR5 rfl (hρ 0 9 rfl)) rfl ?_
        refine zc_sr (r := ((33, 20, 2) : zF)) (zrf (a := 30) (y := 2) hR5 rfl (zSh_st30 hρ).2.2.2.1) rfl ?_
        refine zwp.go (m := 2) (j := 26) (ls' := [some (zr ((0, 10, 0) : zF)), some (zi a1), some (zi a2)]) (st' := [zi (zI h5 33 1)]) (h' := h5) rfl ?_
        cases e
        exact zwp.ret rfl rfl ⟨⟨rfl, rfl⟩, hR5⟩
      refine zb_sw e (fun e => ?_) (fun e => ?_)
      · refine zwp.go (m := 1) (j := 28) (ls' := [some (zr ((0, 10, 0) : zF)), some (zi a1), some (zi a2)]) (st' := [zr ((0, 10, 0) : zF)]) (h' := h5) rfl ?_
        refine zc_sr (r := ((30, 8, 0) : zF)) (zrf (a := 0) (y := 9) hR5 rfl (hρ 0 9 rfl)) rfl ?_
        refine zwp.go (m := 1) (j := 30) (ls' := [some (zr ((0, 10, 0) : zF)), some (zi a1), some (zi a2)]) (st' := [zi (zI h5 30 7)]) (h' := h5) rfl ?_
        cases e
        exact zwp.ret rfl rfl ⟨⟨rfl, rfl⟩, hR5⟩
      refine zwp.go (m := 1) (j := 32) (ls' := [some (zr ((0, 10, 0) : zF)), some (zi a1), some (zi a2)]) (st' := [zr ((0, 10, 0) : zF)]) (h' := h5) rfl ?_
      refine zc_sr (r := ((30, 8, 0) : zF)) (zrf (a := 0) (y := 9) hR5 rfl (hρ 0 9 rfl)) rfl ?_
      refine zwp.go (m := 1) (j := 34) (ls' := [some (zr ((0, 10, 0) : zF)), some (zi a1), some (zi a2)]) (st' := [zr ((0, 10, 0) : zF), zr ((30, 8, 0) : zF)]) (h' := h5) rfl ?_
      refine zc_sr (r := ((pp, 3, 0) : zF)) (zrf (a := 0) (y := 3) hR5 rfl hpp.1) rfl ?_
      refine zwp.go (m := 1) (j := 36) (ls' := [some (zr ((0, 10, 0) : zF)), some (zi a1), some (zi a2)]) (st' := [zi (zI h5 pp 6), zr ((30, 8, 0) : zF)]) (h' := h5) rfl ?_
      refine zc_cp (d := d + 5) e (fun q e => s_X8_goneBits_ok (d + 4) ρ hρ 30 (zI h5 pp 6) (zSh_st30 hρ) h5 q hR5 e) rfl rfl (fun v7 e => ?_)
      cases e
      exact zwp.ret rfl rfl ⟨⟨rfl, rfl⟩, hR5⟩
    · cases e
      exact ⟨rfl, ⟨⟨rfl, rfl⟩, hR3⟩⟩
  · cases e
    exact ⟨rfl, ⟨⟨rfl, rfl⟩, hR1⟩⟩
def s_L_later (pp : Nat) (a1 : Int32) (a2 : Int32) (a3 n3 : Nat) (h : zH) : Option (Int32 × zH) := zbx (s_X10_later pp a1 a2 h) (fun v3 h2 => zix (0 : Int32) n3 fun i5 => zlt (zwL h2 a3 i5 v3.toInt64) fun h4 => some ((0 : Int32), h4)) (fun x h1 => if x = 1 then (some ((1 : Int32), h1)) else if x = 0 then (some ((2 : Int32), h1)) else none)
set_option maxRecDepth 100000 in
theorem s_L_later_ok (d : Nat) (ρ : Nat → Nat → Option zF) (hρ : zSh ρ) (pp : Nat) (a1 : Int32) (a2 : Int32) (a3 n3 : Nat) (hpp : ρ 0 3 = some (pp, 3, 0) ∧ zPlS ρ pp) (h : zH) (res : Int32 × zH) (hR : zRq h ρ) (e : s_L_later pp a1 a2 a3 n3 h = some res) : zcl (d + 7) 188 [zr ((0, 10, 0) : zF), zi a1, zi a2, zr ((a3, 23, n3) : zF)] h (zQi ρ res) := by
  rw [s_L_later] at e
  refine ⟨zm_L_later, rfl, ?_⟩
  show zwp (d + 7) zm_L_later 0 [some (zr ((0, 10, 0) : zF)), some (zi a1), some (zi a2), some (zr ((a3, 23, n3) : zF)), none] [] h _
  refine zwp.go (m := 5) (j := 5) (ls' := [some (zr ((0, 10, 0) : zF)), some (zi a1), some (zi a2), some (zr ((a3, 23, n3) : zF)), none]) (st' := [zi a2, zi a1, zr ((0, 10, 0) : zF), zi (0 : Int32), zr ((a3, 23, n3) : zF)]) (h' := h) rfl ?_
  refine zc_cx (d := d + 6) e (fun q e => s_X10_later_ok (d + 0) ρ hρ pp a1 a2 hpp h q hR e) rfl rfl (fun v3 h2 hR2 e => ?_) (fun x h1 hR1 e => ?_)
  · refine zwp.go (m := 1) (j := 7) (ls' := [some (zr ((0, 10, 0) : zF)), some (zi a1), some (zi a2), some (zr ((a3, 23, n3) : zF)), none]) (st' := [zl v3.toInt64, zi (0 : Int32), zr ((a3, 23, n3) : zF)]) (h' := h2) rfl ?_
    refine zc_sl e (fun _ => rfl) hR2 (fun h4 hR4 e => ?_)
    refine zwp.go (m := 2) (j := 16) (ls' := [some (zr ((0, 10, 0) : zF)), some (zi a1), some (zi a2), some (zr ((a3, 23, n3) : zF)), none]) (st' := [zi (0 : Int32)]) (h' := h4) rfl ?_
    cases e
    exact zwp.ret rfl rfl ⟨⟨rfl, rfl⟩, hR4⟩
  · by_cases q1 : x = 1
    · subst q1
      replace e : (some ((1 : Int32), h1)) = some res := by simpa using e
      show zwp _ _ 10 [some (zr ((0, 10, 0) : zF)), some (zi a1), some (zi a2), some (zr ((a3, 23, n3) : zF)), none] [] _ _
      refine zwp.go (m := 1) (j := 11) (ls' := [some (zr ((0, 10, 0) : zF)), some (zi a1), some (zi a2), some (zr ((a3, 23, n3) : zF)), none]) (st' := [zi (1 : Int32)]) (h' := h1) rfl ?_
      cases e
      exact zwp.ret rfl rfl ⟨⟨rfl, rfl⟩, hR1⟩
    · skip
      by_cases q0 : x = 0
      · subst q0
        replace e : (some ((2 : Int32), h1)) = some res := by simpa using e
        show zwp _ _ 13 [some (zr ((0, 10, 0) : zF)), some (zi a1), some (zi a2), some (zr ((a3, 23, n3) : zF)), none] [] _ _
        refine zwp.go (m := 1) (j := 14) (ls' := [some (zr ((0, 10, 0) : zF)), some (zi a1), some (zi a2), some (zr ((a3, 23, n3) : zF)), none]) (st' := [zi (2 : Int32)]) (h' := h1) rfl ?_
        cases e
        exact zwp.ret rfl rfl ⟨⟨rfl, rfl⟩, hR1⟩
      · skip
        simp [q1, q0] at e
def s_X11_later_J50 (s0 : Int32) (h : zH) : Option (Int32 × zH) := (s_X11_unpack 71 38 (0 : Int32) h).bind fun h1 => some (s0, h1)
set_option maxRecDepth 100000 in
theorem s_X11_later_J50_ok (d : Nat) (ρ : Nat → Nat → Option zF) (hρ : zSh ρ) (s0 : Int32) (h : zH) (res : Int32 × zH) (hR : zRq h ρ) (e : s_X11_later_J50  s0 h = some res) : zwp (d + 6) zm_X11_later 50 [some (zr ((52, 11, 0) : zF)), none, none, none] [zi s0] h (zQi ρ res) := by
  rw [s_X11_later_J50] at e
  refine zwp.go (m := 3) (j := 53) (ls' := [some (zr ((52, 11, 0) : zF)), none, none, some (zi s0)]) (st' := [zr ((52, 11, 0) : zF), zr ((52, 11, 0) : zF)]) (h' := h) rfl ?_
  refine zc_sr (r := ((71, 20, 38) : zF)) (zrf (a := 52) (y := 42) hR rfl (hρ 52 42 rfl)) rfl ?_
  refine zwp.go (m := 1) (j := 55) (ls' := [some (zr ((52, 11, 0) : zF)), none, none, some (zi s0)]) (st' := [zi (0 : Int32), zr ((71, 20, 38) : zF), zr ((52, 11, 0) : zF)]) (h' := h) rfl ?_
  refine zc_cv (d := d + 5) e (fun q e => s_X11_unpack_ok (d + 5) ρ hρ 71 38 (0 : Int32) h q hR e) rfl rfl (fun h1 hR1 e => ?_)
  refine zwp.go (m := 1) (j := 57) (ls' := [some (zr ((52, 11, 0) : zF)), none, none, some (zi s0)]) (st' := [zi s0]) (h' := h1) rfl ?_
  cases e
  exact zwp.ret rfl rfl ⟨⟨rfl, rfl⟩, hR1⟩
def s_X11_later (a1 : Int32) (a2 : Int32) (h : zH) : Option (Int32 × zH) := zlt (zwI h 52 4 (0 : Int32)) fun h1 => (s_X11_isIn a2.toInt64 (0 : Int64) (3 : Int64) h1).bind fun v2 => if ¬ v2 = 0 then ((s_X11_isIn a1.toInt64 (0 : Int64) (60 : Int64) h1).bind fun v3 => if ¬ v3 = 0 then ((s_X11_pack 71 38 (0 : Int32) h1).bind fun h4 => (s_X11_goOn a1 h4).bind fun h5 => if ¬ a2 = 0 then (if ¬ a2 = (1 : Int32) then (if ¬ a2 = (2 : Int32) then ((s_X11_goneNow h5).bind fun v6 => s_X11_later_J50 v6 h5) else (s_X11_later_J50 (zI h5 52 33) h5)) else (s_X11_later_J50 (zI h5 52 31) h5)) else (s_X11_later_J50 (zI h5 52 30) h5)) else (zbd (s_X11_fail (2 : Int32) h1) fun v8 h7 => some (v8, h7))) else (zbd (s_X11_fail (1 : Int32) h1) fun v10 h9 => some (v10, h9))
set_option maxRecDepth 100000 in
theorem s_X11_later_ok (d : Nat) (ρ : Nat → Nat → Option zF) (hρ : zSh ρ) (a1 : Int32) (a2 : Int32) (h : zH) (res : Int32 × zH) (hR : zRq h ρ) (e : s_X11_later a1 a2 h = some res) : zcl (d + 6) 189 [zr ((52, 11, 0) : zF), zi a1, zi a2] h (zQi ρ res) := by
  rw [s_X11_later] at e
  refine ⟨zm_X11_later, rfl, ?_⟩
  show zwp (d + 6) zm_X11_later 0 [some (zr ((52, 11, 0) : zF)), some (zi a1), some (zi a2), none] [] h _
  refine zwp.go (m := 2) (j := 2) (ls' := [some (zr ((52, 11, 0) : zF)), some (zi a1), some (zi a2), none]) (st' := [zi (0 : Int32), zr ((52, 11, 0) : zF)]) (h' := h) rfl ?_
  refine zc_w e rfl hR (fun h1 hR1 e => ?_)
  refine zwp.go (m := 4) (j := 7) (ls' := [some (zr ((52, 11, 0) : zF)), some (zi a1), some (zi a2), none]) (st' := [zl (3 : Int64), zl (0 : Int64), zl a2.toInt64]) (h' := h1) rfl ?_
  refine zc_cp (d := d + 5) e (fun q e => s_X11_isIn_ok (d + 5) ρ hρ a2.toInt64 (0 : Int64) (3 : Int64) h1 q hR1 e) rfl rfl (fun v2 e => ?_)
  refine zb_if (j := 13) (j2 := 9) e rfl (fun e => ?_) (fun e => ?_)
  · refine zwp.go (m := 4) (j := 17) (ls' := [some (zr ((52, 11, 0) : zF)), some (zi a1), some (zi a2), none]) (st' := [zl (60 : Int64), zl (0 : Int64), zl a1.toInt64]) (h' := h1) rfl ?_
    refine zc_cp (d := d + 5) e (fun q e => s_X11_isIn_ok (d + 5) ρ hρ a1.toInt64 (0 : Int64) (60 : Int64) h1 q hR1 e) rfl rfl (fun v3 e => ?_)
    refine zb_if (j := 23) (j2 := 19) e rfl (fun e => ?_) (fun e => ?_)
    · refine zwp.go (m := 2) (j := 25) (ls' := [some (zr ((52, 11, 0) : zF)), some (zi a1), some (zi a2), none]) (st' := [zr ((52, 11, 0) : zF), zr ((52, 11, 0) : zF)]) (h' := h1) rfl ?_
      refine zc_sr (r := ((71, 20, 38) : zF)) (zrf (a := 52) (y := 42) hR1 rfl (hρ 52 42 rfl)) rfl ?_
      refine zwp.go (m := 1) (j := 27) (ls' := [some (zr ((52, 11, 0) : zF)), some (zi a1), some (zi a2), none]) (st' := [zi (0 : Int32), zr ((71, 20, 38) : zF), zr ((52, 11, 0) : zF)]) (h' := h1) rfl ?_
      refine zc_cv (d := d + 5) e (fun q e => s_X11_pack_ok (d + 5) ρ hρ 71 38 (0 : Int32) h1 q hR1 e) rfl rfl (fun h4 hR4 e => ?_)
      refine zwp.go (m := 2) (j := 30) (ls' := [some (zr ((52, 11, 0) : zF)), some (zi a1), some (zi a2), none]) (st' := [zi a1, zr ((52, 11, 0) : zF)]) (h' := h4) rfl ?_
      refine zc_cv (d := d + 5) e (fun q e => s_X11_goOn_ok (d + 0) ρ hρ a1 h4 q hR4 e) rfl rfl (fun h5 hR5 e => ?_)
      refine zwp.go (m := 1) (j := 32) (ls' := [some (zr ((52, 11, 0) : zF)), some (zi a1), some (zi a2), none]) (st' := [zi a2]) (h' := h5) rfl ?_
      refine zb_if (j := 36) (j2 := 33) e rfl (fun e => ?_) (fun e => ?_)
      · refine zwp.go (m := 2) (j := 38) (ls' := [some (zr ((52, 11, 0) : zF)), some (zi a1), some (zi a2), none]) (st' := [zi (1 : Int32), zi a2]) (h' := h5) rfl ?_
        refine zb_if (j := 42) (j2 := 39) e rfl (fun e => ?_) (fun e => ?_)
        · refine zwp.go (m := 2) (j := 44) (ls' := [some (zr ((52, 11, 0) : zF)), some (zi a1), some (zi a2), none]) (st' := [zi (2 : Int32), zi a2]) (h' := h5) rfl ?_
          refine zb_if (j := 48) (j2 := 45) e rfl (fun e => ?_) (fun e => ?_)
          · refine zwp.go (m := 1) (j := 49) (ls' := [some (zr ((52, 11, 0) : zF)), some (zi a1), some (zi a2), none]) (st' := [zr ((52, 11, 0) : zF)]) (h' := h5) rfl ?_
            refine zc_cp (d := d + 5) e (fun q e => s_X11_goneNow_ok (d + 5) ρ hρ h5 q hR5 e) rfl rfl (fun v6 e => ?_)
            refine zwp.fg (a := [some (zr ((52, 11, 0) : zF)), none, none, none]) (And.intro rfl trivial) ?_
            exact s_X11_later_J50_ok d ρ hρ v6 h5 _ hR5 e
          · refine zwp.go (m := 3) (j := 50) (ls' := [some (zr ((52, 11, 0) : zF)), some (zi a1), some (zi a2), none]) (st' := [zi (zI h5 52 33)]) (h' := h5) rfl ?_
            refine zwp.fg (a := [some (zr ((52, 11, 0) : zF)), none, none, none]) (And.intro rfl trivial) ?_
            exact s_X11_later_J50_ok d ρ hρ (zI h5 52 33) h5 _ hR5 e
        · refine zwp.go (m := 3) (j := 50) (ls' := [some (zr ((52, 11, 0) : zF)), some (zi a1), some (zi a2), none]) (st' := [zi (zI h5 52 31)]) (h' := h5) rfl ?_
          refine zwp.fg (a := [some (zr ((52, 11, 0) : zF)), none, none, none]) (And.intro rfl trivial) ?_
          exact s_X11_later_J50_ok d ρ hρ (zI h5 52 31) h5 _ hR5 e
      · refine zwp.go (m := 3) (j := 50) (ls' := [some (zr ((52, 11, 0) : zF)), some (zi a1), some (zi a2), none]) (st' := [zi (zI h5 52 30)]) (h' := h5) rfl ?_
        refine zwp.fg (a := [some (zr ((52, 11, 0) : zF)), none, none, none]) (And.intro rfl trivial) ?_
        exact s_X11_later_J50_ok d ρ hρ (zI h5 52 30) h5 _ hR5 e
    · refine zwp.go (m := 2) (j := 21) (ls' := [some (zr ((52, 11, 0) : zF)), some (zi a1), some (zi a2), none]) (st' := [zi (2 : Int32), zr ((52, 11, 0) : zF)]) (h' := h1) rfl ?_
      refine zc_ci (d := d + 5) e (fun q e => s_X11_fail_ok (d + 5) ρ hρ (2 : Int32) h1 q hR1 e) rfl rfl (fun v8 h7 hR7 e => ?_)
      cases e
      exact zwp.ret rfl rfl ⟨⟨rfl, rfl⟩, hR7⟩
  · refine zwp.go (m := 2) (j := 11) (ls' := [some (zr ((52, 11, 0) : zF)), some (zi a1), some (zi a2), none]) (st' := [zi (1 : Int32), zr ((52, 11, 0) : zF)]) (h' := h1) rfl ?_
    refine zc_ci (d := d + 5) e (fun q e => s_X11_fail_ok (d + 5) ρ hρ (1 : Int32) h1 q hR1 e) rfl rfl (fun v10 h9 hR9 e => ?_)
    cases e
    exact zwp.ret rfl rfl ⟨⟨rfl, rfl⟩, hR9⟩
def s_X1_begin_L5 : Nat → Int32 → zH → Option (zH)
  | 0, _, _ => none
  | n + 1, l1, h => if (12 : Int32) ≤ l1 then (some h) else (zix l1 12 fun i2 => zlt (zwI h 43 i2 (-1 : Int32)) fun h1 => s_X1_begin_L5 n (l1 + (1 : Int32)) h1)
set_option maxRecDepth 100000 in
theorem s_X1_begin_L5_ok (d : Nat) (ρ : Nat → Nat → Option zF) (hρ : zSh ρ) : ∀ (n : Nat) (l1 : Int32) (h : zH) (res : zH) (hR : zRq h ρ) (e : s_X1_begin_L5  n l1 h = some res), zwp d zm_X1_begin 5 [some (zr ((39, 1, 0) : zF)), some (zi l1)] [] h (zQv ρ res) := by
  intro n
  induction n with
  | zero => intro l1 h res hR e; cases e
  | succ n ih =>
    intro l1 h res hR e
    rw [s_X1_begin_L5] at e
    refine zwp.go (m := 2) (j := 7) (ls' := [some (zr ((39, 1, 0) : zF)), some (zi l1)]) (st' := [zi (12 : Int32), zi l1]) (h' := h) rfl ?_
    refine zb_if (j := 15) (j2 := 8) e rfl (fun e => ?_) (fun e => ?_)
    · cases e
      exact zwp.rv rfl ⟨⟨rfl, rfl⟩, hR⟩
    · refine zwp.go (m := 1) (j := 9) (ls' := [some (zr ((39, 1, 0) : zF)), some (zi l1)]) (st' := [zr ((39, 1, 0) : zF)]) (h' := h) rfl ?_
      refine zc_sr (r := ((43, 20, 12) : zF)) (zrf (a := 39) (y := 3) hR rfl (hρ 39 3 rfl)) rfl ?_
      refine zwp.go (m := 2) (j := 12) (ls' := [some (zr ((39, 1, 0) : zF)), some (zi l1)]) (st' := [zi (-1 : Int32), zi l1, zr ((43, 20, 12) : zF)]) (h' := h) rfl ?_
      refine zc_si e (fun _ => rfl) hR (fun h1 hR1 e => ?_)
      refine zwp.go (m := 2) (j := 5) (ls' := [some (zr ((39, 1, 0) : zF)), some (zi (l1 + (1 : Int32)))]) (st' := []) (h' := h1) rfl ?_
      exact ih (l1 + (1 : Int32)) h1 _ hR1 e
def s_X1_begin (h : zH) : Option (zH) := zlt (zwI h 39 4 (0 : Int32)) fun h1 => s_X1_begin_L5 zfu (0 : Int32) h1
set_option maxRecDepth 100000 in
theorem s_X1_begin_ok (d : Nat) (ρ : Nat → Nat → Option zF) (hρ : zSh ρ) (h : zH) (res : zH) (hR : zRq h ρ) (e : s_X1_begin  h = some res) : zcl d 190 [zr ((39, 1, 0) : zF)] h (zQv ρ res) := by
  rw [s_X1_begin] at e
  refine ⟨zm_X1_begin, rfl, ?_⟩
  show zwp d zm_X1_begin 0 [some (zr ((39, 1, 0) : zF)), none] [] h _
  refine zwp.go (m := 2) (j := 2) (ls' := [some (zr ((39, 1, 0) : zF)), none]) (st' := [zi (0 : Int32), zr ((39, 1, 0) : zF)]) (h' := h) rfl ?_
  refine zc_w e rfl hR (fun h1 hR1 e => ?_)
  refine zwp.go (m := 2) (j := 5) (ls' := [some (zr ((39, 1, 0) : zF)), some (zi (0 : Int32))]) (st' := []) (h' := h1) rfl ?_
  exact s_X1_begin_L5_ok d ρ hρ zfu (0 : Int32) h1 _ hR1 e
def s_X1_noteGone_L2 (a2 : Nat) : Nat → Int32 → Int32 → Int32 → zH → Option (zH)
  | 0, _, _, _, _ => none
  | n + 1, l1, l3, l4, h => if l3 ≤ l4 then (some h) else (zix l4 12 fun i1 => if ¬ (zI h 43 i1) = (-1 : Int32) then (s_X1_noteGone_L2 a2 n l1 l3 (l4 + (1 : Int32)) h) else (zix l4 12 fun i2 => if ¬ (zI h (a2 + 1) i2) = 0 then (s_X1_noteGone_L2 a2 n l1 l3 (l4 + (1 : Int32)) h) else (zix l4 12 fun i4 => zlt (zwI h 43 i4 l1) fun h3 => s_X1_noteGone_L2 a2 n l1 l3 (l4 + (1 : Int32)) h3)))
set_option maxRecDepth 100000 in
theorem s_X1_noteGone_L2_ok (d : Nat) (ρ : Nat → Nat → Option zF) (hρ : zSh ρ) (a2 : Nat) (ha2 : zStS ρ a2) : ∀ (n : Nat) (l1 : Int32) (l3 : Int32) (l4 : Int32) (h : zH) (res : zH) (hR : zRq h ρ) (e : s_X1_noteGone_L2 a2 n l1 l3 l4 h = some res), zwp d zm_X1_noteGone 2 [some (zr ((39, 1, 0) : zF)), some (zi l1), some (zr ((a2, 8, 0) : zF)), some (zi l3), some (zi l4)] [] h (zQv ρ res) := by
  intro n
  induction n with
  | zero => intro l1 l3 l4 h res hR e; cases e
  | succ n ih =>
    intro l1 l3 l4 h res hR e
    rw [s_X1_noteGone_L2] at e
    refine zwp.go (m := 2) (j := 4) (ls' := [some (zr ((39, 1, 0) : zF)), some (zi l1), some (zr ((a2, 8, 0) : zF)), some (zi l3), some (zi l4)]) (st' := [zi l3, zi l4]) (h' := h) rfl ?_
    refine zb_if (j := 23) (j2 := 5) e rfl (fun e => ?_) (fun e => ?_)
    · cases e
      exact zwp.rv rfl ⟨⟨rfl, rfl⟩, hR⟩
    · refine zwp.go (m := 1) (j := 6) (ls' := [some (zr ((39, 1, 0) : zF)), some (zi l1), some (zr ((a2, 8, 0) : zF)), some (zi l3), some (zi l4)]) (st' := [zr ((39, 1, 0) : zF)]) (h' := h) rfl ?_
      refine zc_sr (r := ((43, 20, 12) : zF)) (zrf (a := 39) (y := 3) hR rfl (hρ 39 3 rfl)) rfl ?_
      refine zwp.go (m := 1) (j := 8) (ls' := [some (zr ((39, 1, 0) : zF)), some (zi l1), some (zr ((a2, 8, 0) : zF)), some (zi l3), some (zi l4)]) (st' := [zi l4, zr ((43, 20, 12) : zF)]) (h' := h) rfl ?_
      refine zc_ai e (fun _ => rfl) (fun i1 e => ?_)
      refine zwp.go (m := 1) (j := 10) (ls' := [some (zr ((39, 1, 0) : zF)), some (zi l1), some (zr ((a2, 8, 0) : zF)), some (zi l3), some (zi l4)]) (st' := [zi (-1 : Int32), zi (zI h 43 i1)]) (h' := h) rfl ?_
      refine zb_if (j := 21) (j2 := 11) e rfl (fun e => ?_) (fun e => ?_)
      · refine zwp.go (m := 2) (j := 2) (ls' := [some (zr ((39, 1, 0) : zF)), some (zi l1), some (zr ((a2, 8, 0) : zF)), some (zi l3), some (zi (l4 + (1 : Int32)))]) (st' := []) (h' := h) rfl ?_
        exact ih l1 l3 (l4 + (1 : Int32)) h _ hR e
      · refine zwp.go (m := 1) (j := 12) (ls' := [some (zr ((39, 1, 0) : zF)), some (zi l1), some (zr ((a2, 8, 0) : zF)), some (zi l3), some (zi l4)]) (st' := [zr ((a2, 8, 0) : zF)]) (h' := h) rfl ?_
        refine zc_sr (r := (((a2 + 1), 20, 12) : zF)) (zrf (a := a2) (y := 0) hR rfl ha2.2.1) rfl ?_
        refine zwp.go (m := 1) (j := 14) (ls' := [some (zr ((39, 1, 0) : zF)), some (zi l1), some (zr ((a2, 8, 0) : zF)), some (zi l3), some (zi l4)]) (st' := [zi l4, zr (((a2 + 1), 20, 12) : zF)]) (h' := h) rfl ?_
        refine zc_ai e (fun _ => rfl) (fun i2 e => ?_)
        refine zb_if (j := 21) (j2 := 16) e rfl (fun e => ?_) (fun e => ?_)
        · refine zwp.go (m := 2) (j := 2) (ls' := [some (zr ((39, 1, 0) : zF)), some (zi l1), some (zr ((a2, 8, 0) : zF)), some (zi l3), some (zi (l4 + (1 : Int32)))]) (st' := []) (h' := h) rfl ?_
          exact ih l1 l3 (l4 + (1 : Int32)) h _ hR e
        · refine zwp.go (m := 1) (j := 17) (ls' := [some (zr ((39, 1, 0) : zF)), some (zi l1), some (zr ((a2, 8, 0) : zF)), some (zi l3), some (zi l4)]) (st' := [zr ((39, 1, 0) : zF)]) (h' := h) rfl ?_
          refine zc_sr (r := ((43, 20, 12) : zF)) (zrf (a := 39) (y := 3) hR rfl (hρ 39 3 rfl)) rfl ?_
          refine zwp.go (m := 2) (j := 20) (ls' := [some (zr ((39, 1, 0) : zF)), some (zi l1), some (zr ((a2, 8, 0) : zF)), some (zi l3), some (zi l4)]) (st' := [zi l1, zi l4, zr ((43, 20, 12) : zF)]) (h' := h) rfl ?_
          refine zc_si e (fun _ => rfl) hR (fun h3 hR3 e => ?_)
          refine zwp.go (m := 2) (j := 2) (ls' := [some (zr ((39, 1, 0) : zF)), some (zi l1), some (zr ((a2, 8, 0) : zF)), some (zi l3), some (zi (l4 + (1 : Int32)))]) (st' := []) (h' := h3) rfl ?_
          exact ih l1 l3 (l4 + (1 : Int32)) h3 _ hR3 e
def s_X1_noteGone (a1 : Int32) (a2 : Nat) (a3 : Int32) (h : zH) : Option (zH) := s_X1_noteGone_L2 a2 zfu a1 a3 (0 : Int32) h
set_option maxRecDepth 100000 in
theorem s_X1_noteGone_ok (d : Nat) (ρ : Nat → Nat → Option zF) (hρ : zSh ρ) (a1 : Int32) (a2 : Nat) (a3 : Int32) (ha2 : zStS ρ a2) (h : zH) (res : zH) (hR : zRq h ρ) (e : s_X1_noteGone a1 a2 a3 h = some res) : zcl d 191 [zr ((39, 1, 0) : zF), zi a1, zr ((a2, 8, 0) : zF), zi a3] h (zQv ρ res) := by
  rw [s_X1_noteGone] at e
  refine ⟨zm_X1_noteGone, rfl, ?_⟩
  show zwp d zm_X1_noteGone 0 [some (zr ((39, 1, 0) : zF)), some (zi a1), some (zr ((a2, 8, 0) : zF)), some (zi a3), none] [] h _
  refine zwp.go (m := 2) (j := 2) (ls' := [some (zr ((39, 1, 0) : zF)), some (zi a1), some (zr ((a2, 8, 0) : zF)), some (zi a3), some (zi (0 : Int32))]) (st' := []) (h' := h) rfl ?_
  exact s_X1_noteGone_L2_ok d ρ hρ a2 ha2 zfu a1 a3 (0 : Int32) h _ hR e
def s_X1_addSail (a1 : Int32) (a2 : Int32) (a3 : Int32) (h : zH) : Option (zH) := if (60 : Int32) ≤ (zI h 39 4) then (some h) else (zix (zI h 39 4) 60 fun i7 => zlt (zwI h 40 i7 a1) fun h1 => zix (zI h1 39 4) 60 fun i6 => zlt (zwI h1 41 i6 a2) fun h2 => zix (zI h2 39 4) 60 fun i5 => zlt (zwI h2 42 i5 a3) fun h3 => zlt (zwI h3 39 4 ((zI h3 39 4) + (1 : Int32))) fun h4 => some h4)
set_option maxRecDepth 100000 in
theorem s_X1_addSail_ok (d : Nat) (ρ : Nat → Nat → Option zF) (hρ : zSh ρ) (a1 : Int32) (a2 : Int32) (a3 : Int32) (h : zH) (res : zH) (hR : zRq h ρ) (e : s_X1_addSail a1 a2 a3 h = some res) : zcl d 192 [zr ((39, 1, 0) : zF), zi a1, zi a2, zi a3] h (zQv ρ res) := by
  rw [s_X1_addSail] at e
  refine ⟨zm_X1_addSail, rfl, ?_⟩
  show zwp d zm_X1_addSail 0 [some (zr ((39, 1, 0) : zF)), some (zi a1), some (zi a2), some (zi a3)] [] h _
  refine zwp.go (m := 3) (j := 3) (ls' := [some (zr ((39, 1, 0) : zF)), some (zi a1), some (zi a2), some (zi a3)]) (st' := [zi (60 : Int32), zi (zI h 39 4)]) (h' := h) rfl ?_
  refine zb_if (j := 28) (j2 := 4) e rfl (fun e => ?_) (fun e => ?_)
  · cases e
    exact zwp.rv rfl ⟨⟨rfl, rfl⟩, hR⟩
  · refine zwp.go (m := 1) (j := 5) (ls' := [some (zr ((39, 1, 0) : zF)), some (zi a1), some (zi a2), some (zi a3)]) (st' := [zr ((39, 1, 0) : zF)]) (h' := h) rfl ?_
    refine zc_sr (r := ((40, 20, 60) : zF)) (zrf (a := 39) (y := 0) hR rfl (hρ 39 0 rfl)) rfl ?_
    refine zwp.go (m := 3) (j := 9) (ls' := [some (zr ((39, 1, 0) : zF)), some (zi a1), some (zi a2), some (zi a3)]) (st' := [zi a1, zi (zI h 39 4), zr ((40, 20, 60) : zF)]) (h' := h) rfl ?_
    refine zc_si e (fun _ => rfl) hR (fun h1 hR1 e => ?_)
    refine zwp.go (m := 1) (j := 11) (ls' := [some (zr ((39, 1, 0) : zF)), some (zi a1), some (zi a2), some (zi a3)]) (st' := [zr ((39, 1, 0) : zF)]) (h' := h1) rfl ?_
    refine zc_sr (r := ((41, 20, 60) : zF)) (zrf (a := 39) (y := 1) hR1 rfl (hρ 39 1 rfl)) rfl ?_
    refine zwp.go (m := 3) (j := 15) (ls' := [some (zr ((39, 1, 0) : zF)), some (zi a1), some (zi a2), some (zi a3)]) (st' := [zi a2, zi (zI h1 39 4), zr ((41, 20, 60) : zF)]) (h' := h1) rfl ?_
    refine zc_si e (fun _ => rfl) hR1 (fun h2 hR2 e => ?_)
    refine zwp.go (m := 1) (j := 17) (ls' := [some (zr ((39, 1, 0) : zF)), some (zi a1), some (zi a2), some (zi a3)]) (st' := [zr ((39, 1, 0) : zF)]) (h' := h2) rfl ?_
    refine zc_sr (r := ((42, 20, 60) : zF)) (zrf (a := 39) (y := 2) hR2 rfl (hρ 39 2 rfl)) rfl ?_
    refine zwp.go (m := 3) (j := 21) (ls' := [some (zr ((39, 1, 0) : zF)), some (zi a1), some (zi a2), some (zi a3)]) (st' := [zi a3, zi (zI h2 39 4), zr ((42, 20, 60) : zF)]) (h' := h2) rfl ?_
    refine zc_si e (fun _ => rfl) hR2 (fun h3 hR3 e => ?_)
    refine zwp.go (m := 5) (j := 27) (ls' := [some (zr ((39, 1, 0) : zF)), some (zi a1), some (zi a2), some (zi a3)]) (st' := [zi ((zI h3 39 4) + (1 : Int32)), zr ((39, 1, 0) : zF)]) (h' := h3) rfl ?_
    refine zc_w e rfl hR3 (fun h4 hR4 e => ?_)
    cases e
    exact zwp.rv rfl ⟨⟨rfl, rfl⟩, hR4⟩
def s_X10_foresee_J46 (pp : Nat) (k25 : (Int32 → zH → Option (zH))) (l1 : Int32) (h : zH) : Option (zH) := (s_X1_noteGone l1 30 (zI h pp 6) h).bind fun h1 => k25 (l1 + (1 : Int32)) h1
set_option maxRecDepth 100000 in
theorem s_X10_foresee_J46_ok (d : Nat) (ρ : Nat → Nat → Option zF) (hρ : zSh ρ) (pp : Nat) (hpp : ρ 0 3 = some (pp, 3, 0) ∧ zPlS ρ pp) (k25 : (Int32 → zH → Option (zH))) (hk25 : ∀ l1 h res, zRq h ρ → k25 l1 h = some res → zwp (d + 5) zm_X10_foresee 25 [some (zr ((0, 10, 0) : zF)), some (zi l1)] [] h (zQv ρ res)) (l1 : Int32) (h : zH) (res : zH) (hR : zRq h ρ) (e : s_X10_foresee_J46 pp k25 l1 h = some res) : zwp (d + 5) zm_X10_foresee 46 [some (zr ((0, 10, 0) : zF)), some (zi l1)] [] h (zQv ρ res) := by
  rw [s_X10_foresee_J46] at e
  refine zwp.go (m := 1) (j := 47) (ls' := [some (zr ((0, 10, 0) : zF)), some (zi l1)]) (st' := [zr ((0, 10, 0) : zF)]) (h' := h) rfl ?_
  refine zc_sr (r := ((39, 1, 0) : zF)) (zrf (a := 0) (y := 11) hR rfl (hρ 0 11 rfl)) rfl ?_
  refine zwp.go (m := 2) (j := 50) (ls' := [some (zr ((0, 10, 0) : zF)), some (zi l1)]) (st' := [zr ((0, 10, 0) : zF), zi l1, zr ((39, 1, 0) : zF)]) (h' := h) rfl ?_
  refine zc_sr (r := ((30, 8, 0) : zF)) (zrf (a := 0) (y := 9) hR rfl (hρ 0 9 rfl)) rfl ?_
  refine zwp.go (m := 1) (j := 52) (ls' := [some (zr ((0, 10, 0) : zF)), some (zi l1)]) (st' := [zr ((0, 10, 0) : zF), zr ((30, 8, 0) : zF), zi l1, zr ((39, 1, 0) : zF)]) (h' := h) rfl ?_
  refine zc_sr (r := ((pp, 3, 0) : zF)) (zrf (a := 0) (y := 3) hR rfl hpp.1) rfl ?_
  refine zwp.go (m := 1) (j := 54) (ls' := [some (zr ((0, 10, 0) : zF)), some (zi l1)]) (st' := [zi (zI h pp 6), zr ((30, 8, 0) : zF), zi l1, zr ((39, 1, 0) : zF)]) (h' := h) rfl ?_
  refine zc_cv (d := d + 4) e (fun q e => s_X1_noteGone_ok (d + 4) ρ hρ l1 30 (zI h pp 6) (zSh_st30 hρ) h q hR e) rfl rfl (fun h1 hR1 e => ?_)
  refine zwp.go (m := 2) (j := 25) (ls' := [some (zr ((0, 10, 0) : zF)), some (zi (l1 + (1 : Int32)))]) (st' := []) (h' := h1) rfl ?_
  exact hk25 (l1 + (1 : Int32)) h1 _ hR1 e
def s_X10_foresee_L25 (pp : Nat) : Nat → Int32 → zH → Option (zH)
  | 0, _, _ => none
  | n + 1, l1, h => if (60 : Int32) < l1 then (zlt (zwI h 39 5 (1 : Int32)) fun h1 => some h1) else (zbd (s_X9_pass pp 30 h) fun v3 h2 => if v3 = 0 then (s_X10_foresee_J46 pp (s_X10_foresee_L25 pp n) l1 h2) else ((s_X1_addSail l1 (zI h2 36 2) (zI h2 36 3) h2).bind fun h4 => s_X10_foresee_J46 pp (s_X10_foresee_L25 pp n) l1 h4))
set_option maxRecDepth 100000 in
theorem s_X10_foresee_L25_ok (d : Nat) (ρ : Nat → Nat → Option zF) (hρ : zSh ρ) (pp : Nat) (hpp : ρ 0 3 = some (pp, 3, 0) ∧ zPlS ρ pp) : ∀ (n : Nat) (l1 : Int32) (h : zH) (res : zH) (hR : zRq h ρ) (e : s_X10_foresee_L25 pp n l1 h = some res), zwp (d + 5) zm_X10_foresee 25 [some (zr ((0, 10, 0) : zF)), some (zi l1)] [] h (zQv ρ res) := by
  intro n
  induction n with
  | zero => intro l1 h res hR e; cases e
  | succ n ih =>
    intro l1 h res hR e
    rw [s_X10_foresee_L25] at e
    refine zwp.go (m := 2) (j := 27) (ls' := [some (zr ((0, 10, 0) : zF)), some (zi l1)]) (st' := [zi (60 : Int32), zi l1]) (h' := h) rfl ?_
    refine zb_if (j := 57) (j2 := 28) e rfl (fun e => ?_) (fun e => ?_)
    · refine zwp.go (m := 1) (j := 58) (ls' := [some (zr ((0, 10, 0) : zF)), some (zi l1)]) (st' := [zr ((0, 10, 0) : zF)]) (h' := h) rfl ?_
      refine zc_sr (r := ((39, 1, 0) : zF)) (zrf (a := 0) (y := 11) hR rfl (hρ 0 11 rfl)) rfl ?_
      refine zwp.go (m := 1) (j := 60) (ls' := [some (zr ((0, 10, 0) : zF)), some (zi l1)]) (st' := [zi (1 : Int32), zr ((39, 1, 0) : zF)]) (h' := h) rfl ?_
      refine zc_w e rfl hR (fun h1 hR1 e => ?_)
      cases e
      exact zwp.rv rfl ⟨⟨rfl, rfl⟩, hR1⟩
    · refine zwp.go (m := 1) (j := 29) (ls' := [some (zr ((0, 10, 0) : zF)), some (zi l1)]) (st' := [zr ((0, 10, 0) : zF)]) (h' := h) rfl ?_
      refine zc_sr (r := ((36, 9, 0) : zF)) (zrf (a := 0) (y := 10) hR rfl (hρ 0 10 rfl)) rfl ?_
      refine zwp.go (m := 1) (j := 31) (ls' := [some (zr ((0, 10, 0) : zF)), some (zi l1)]) (st' := [zr ((0, 10, 0) : zF), zr ((36, 9, 0) : zF)]) (h' := h) rfl ?_
      refine zc_sr (r := ((pp, 3, 0) : zF)) (zrf (a := 0) (y := 3) hR rfl hpp.1) rfl ?_
      refine zwp.go (m := 1) (j := 33) (ls' := [some (zr ((0, 10, 0) : zF)), some (zi l1)]) (st' := [zr ((0, 10, 0) : zF), zr ((pp, 3, 0) : zF), zr ((36, 9, 0) : zF)]) (h' := h) rfl ?_
      refine zc_sr (r := ((30, 8, 0) : zF)) (zrf (a := 0) (y := 9) hR rfl (hρ 0 9 rfl)) rfl ?_
      refine zc_ci (d := d + 4) e (fun q e => s_X9_pass_ok (d + 0) ρ hρ pp 30 hpp.2 (zSh_st30 hρ) h q hR e) rfl rfl (fun v3 h2 hR2 e => ?_)
      refine zb_if (j := 46) (j2 := 36) e rfl (fun e => ?_) (fun e => ?_)
      · exact s_X10_foresee_J46_ok d ρ hρ pp hpp (s_X10_foresee_L25 pp n) ih l1 h2 _ hR2 e
      · refine zwp.go (m := 1) (j := 37) (ls' := [some (zr ((0, 10, 0) : zF)), some (zi l1)]) (st' := [zr ((0, 10, 0) : zF)]) (h' := h2) rfl ?_
        refine zc_sr (r := ((39, 1, 0) : zF)) (zrf (a := 0) (y := 11) hR2 rfl (hρ 0 11 rfl)) rfl ?_
        refine zwp.go (m := 2) (j := 40) (ls' := [some (zr ((0, 10, 0) : zF)), some (zi l1)]) (st' := [zr ((0, 10, 0) : zF), zi l1, zr ((39, 1, 0) : zF)]) (h' := h2) rfl ?_
        refine zc_sr (r := ((36, 9, 0) : zF)) (zrf (a := 0) (y := 10) hR2 rfl (hρ 0 10 rfl)) rfl ?_
        refine zwp.go (m := 2) (j := 43) (ls' := [some (zr ((0, 10, 0) : zF)), some (zi l1)]) (st' := [zr ((0, 10, 0) : zF), zi (zI h2 36 2), zi l1, zr ((39, 1, 0) : zF)]) (h' := h2) rfl ?_
        refine zc_sr (r := ((36, 9, 0) : zF)) (zrf (a := 0) (y := 10) hR2 rfl (hρ 0 10 rfl)) rfl ?_
        refine zwp.go (m := 1) (j := 45) (ls' := [some (zr ((0, 10, 0) : zF)), some (zi l1)]) (st' := [zi (zI h2 36 3), zi (zI h2 36 2), zi l1, zr ((39, 1, 0) : zF)]) (h' := h2) rfl ?_
        refine zc_cv (d := d + 4) e (fun q e => s_X1_addSail_ok (d + 4) ρ hρ l1 (zI h2 36 2) (zI h2 36 3) h2 q hR2 e) rfl rfl (fun h4 hR4 e => ?_)
        exact s_X10_foresee_J46_ok d ρ hρ pp hpp (s_X10_foresee_L25 pp n) ih l1 h4 _ hR4 e
def s_X10_foresee (pp : Nat) (h : zH) : Option (zH) := if (zI h 39 5) = 0 then ((s_X8_copyFrom 30 19 h).bind fun h1 => (s_X1_begin h1).bind fun h2 => (s_X1_noteGone (0 : Int32) 30 (zI h2 pp 6) h2).bind fun h3 => s_X10_foresee_L25 pp zfu (1 : Int32) h3) else (some h)
set_option maxRecDepth 100000 in
theorem s_X10_foresee_ok (d : Nat) (ρ : Nat → Nat → Option zF) (hρ : zSh ρ) (pp : Nat) (hpp : ρ 0 3 = some (pp, 3, 0) ∧ zPlS ρ pp) (h : zH) (res : zH) (hR : zRq h ρ) (e : s_X10_foresee pp h = some res) : zcl (d + 5) 193 [zr ((0, 10, 0) : zF)] h (zQv ρ res) := by
  rw [s_X10_foresee] at e
  refine ⟨zm_X10_foresee, rfl, ?_⟩
  show zwp (d + 5) zm_X10_foresee 0 [some (zr ((0, 10, 0) : zF)), none] [] h _
  refine zwp.go (m := 1) (j := 1) (ls' := [some (zr ((0, 10, 0) : zF)), none]) (st' := [zr ((0, 10, 0) : zF)]) (h' := h) rfl ?_
  refine zc_sr (r := ((39, 1, 0) : zF)) (zrf (a := 0) (y := 11) hR rfl (hρ 0 11 rfl)) rfl ?_
  refine zwp.go (m := 1) (j := 3) (ls' := [some (zr ((0, 10, 0) : zF)), none]) (st' := [zi (zI h 39 5)]) (h' := h) rfl ?_
  refine zb_if (j := 5) (j2 := 4) e rfl (fun e => ?_) (fun e => ?_)
  · refine zwp.go (m := 1) (j := 6) (ls' := [some (zr ((0, 10, 0) : zF)), none]) (st' := [zr ((0, 10, 0) : zF)]) (h' := h) rfl ?_
    refine zc_sr (r := ((30, 8, 0) : zF)) (zrf (a := 0) (y := 9) hR rfl (hρ 0 9 rfl)) rfl ?_
    refine zwp.go (m := 1) (j := 8) (ls' := [some (zr ((0, 10, 0) : zF)), none]) (st' := [zr ((0, 10, 0) : zF), zr ((30, 8, 0) : zF)]) (h' := h) rfl ?_
    refine zc_sr (r := ((18, 2, 0) : zF)) (zrf (a := 0) (y := 6) hR rfl (hρ 0 6 rfl)) rfl ?_
    refine zc_sr (r := ((19, 8, 0) : zF)) (zrf (a := 18) (y := 0) hR rfl (zSh_ld18 hρ).2.1) rfl ?_
    refine zc_cv (d := d + 4) e (fun q e => s_X8_copyFrom_ok (d + 4) ρ hρ 30 19 (zSh_st30 hρ) (zSh_st19 hρ) h q hR e) rfl rfl (fun h1 hR1 e => ?_)
    refine zwp.go (m := 1) (j := 12) (ls' := [some (zr ((0, 10, 0) : zF)), none]) (st' := [zr ((0, 10, 0) : zF)]) (h' := h1) rfl ?_
    refine zc_sr (r := ((39, 1, 0) : zF)) (zrf (a := 0) (y := 11) hR1 rfl (hρ 0 11 rfl)) rfl ?_
    refine zc_cv (d := d + 4) e (fun q e => s_X1_begin_ok (d + 4) ρ hρ h1 q hR1 e) rfl rfl (fun h2 hR2 e => ?_)
    refine zwp.go (m := 1) (j := 15) (ls' := [some (zr ((0, 10, 0) : zF)), none]) (st' := [zr ((0, 10, 0) : zF)]) (h' := h2) rfl ?_
    refine zc_sr (r := ((39, 1, 0) : zF)) (zrf (a := 0) (y := 11) hR2 rfl (hρ 0 11 rfl)) rfl ?_
    refine zwp.go (m := 2) (j := 18) (ls' := [some (zr ((0, 10, 0) : zF)), none]) (st' := [zr ((0, 10, 0) : zF), zi (0 : Int32), zr ((39, 1, 0) : zF)]) (h' := h2) rfl ?_
    refine zc_sr (r := ((30, 8, 0) : zF)) (zrf (a := 0) (y := 9) hR2 rfl (hρ 0 9 rfl)) rfl ?_
    refine zwp.go (m := 1) (j := 20) (ls' := [some (zr ((0, 10, 0) : zF)), none]) (st' := [zr ((0, 10, 0) : zF), zr ((30, 8, 0) : zF), zi (0 : Int32), zr ((39, 1, 0) : zF)]) (h' := h2) rfl ?_
    refine zc_sr (r := ((pp, 3, 0) : zF)) (zrf (a := 0) (y := 3) hR2 rfl hpp.1) rfl ?_
    refine zwp.go (m := 1) (j := 22) (ls' := [some (zr ((0, 10, 0) : zF)), none]) (st' := [zi (zI h2 pp 6), zr ((30, 8, 0) : zF), zi (0 : Int32), zr ((39, 1, 0) : zF)]) (h' := h2) rfl ?_
    refine zc_cv (d := d + 4) e (fun q e => s_X1_noteGone_ok (d + 4) ρ hρ (0 : Int32) 30 (zI h2 pp 6) (zSh_st30 hρ) h2 q hR2 e) rfl rfl (fun h3 hR3 e => ?_)
    refine zwp.go (m := 2) (j := 25) (ls' := [some (zr ((0, 10, 0) : zF)), some (zi (1 : Int32))]) (st' := []) (h' := h3) rfl ?_
    exact s_X10_foresee_L25_ok d ρ hρ pp hpp zfu (1 : Int32) h3 _ hR3 e
  · cases e
    exact zwp.rv rfl ⟨⟨rfl, rfl⟩, hR⟩
def s_X10_gone (pp : Nat) (a1 : Int32) (h : zH) : Option ((Int32 ⊕ Nat) × zH) := zbx (s_X10_needRib pp a1 h) (fun _ h2 => (s_X10_foresee pp h2).bind fun h3 => zix a1 12 fun i4 => some (Sum.inl (zI h3 43 i4), h3)) (fun x h1 => some (Sum.inr x, h1))
set_option maxRecDepth 100000 in
theorem s_X10_gone_ok (d : Nat) (ρ : Nat → Nat → Option zF) (hρ : zSh ρ) (pp : Nat) (a1 : Int32) (hpp : ρ 0 3 = some (pp, 3, 0) ∧ zPlS ρ pp) (h : zH) (res : (Int32 ⊕ Nat) × zH) (hR : zRq h ρ) (e : s_X10_gone pp a1 h = some res) : zcl (d + 6) 194 [zr ((0, 10, 0) : zF), zi a1] h (zQx ρ res) := by
  rw [s_X10_gone] at e
  refine ⟨zm_X10_gone, rfl, ?_⟩
  show zwp (d + 6) zm_X10_gone 0 [some (zr ((0, 10, 0) : zF)), some (zi a1)] [] h _
  refine zwp.go (m := 2) (j := 2) (ls' := [some (zr ((0, 10, 0) : zF)), some (zi a1)]) (st' := [zi a1, zr ((0, 10, 0) : zF)]) (h' := h) rfl ?_
  refine zc_cu (d := d + 5) e (fun q e => s_X10_needRib_ok (d + 5) ρ hρ pp a1 hpp h q hR e) rfl rfl (fun h2 hR2 e => ?_) (fun x h1 hR1 e => ?_)
  · refine zwp.go (m := 1) (j := 4) (ls' := [some (zr ((0, 10, 0) : zF)), some (zi a1)]) (st' := [zr ((0, 10, 0) : zF)]) (h' := h2) rfl ?_
    refine zc_cv (d := d + 5) e (fun q e => s_X10_foresee_ok (d + 0) ρ hρ pp hpp h2 q hR2 e) rfl rfl (fun h3 hR3 e => ?_)
    refine zwp.go (m := 1) (j := 6) (ls' := [some (zr ((0, 10, 0) : zF)), some (zi a1)]) (st' := [zr ((0, 10, 0) : zF)]) (h' := h3) rfl ?_
    refine zc_sr (r := ((39, 1, 0) : zF)) (zrf (a := 0) (y := 11) hR3 rfl (hρ 0 11 rfl)) rfl ?_
    refine zc_sr (r := ((43, 20, 12) : zF)) (zrf (a := 39) (y := 3) hR3 rfl (hρ 39 3 rfl)) rfl ?_
    refine zwp.go (m := 1) (j := 9) (ls' := [some (zr ((0, 10, 0) : zF)), some (zi a1)]) (st' := [zi a1, zr ((43, 20, 12) : zF)]) (h' := h3) rfl ?_
    refine zc_ai e (fun _ => rfl) (fun i4 e => ?_)
    cases e
    exact zwp.ret rfl rfl ⟨⟨rfl, rfl⟩, hR3⟩
  · cases e
    exact ⟨rfl, ⟨⟨rfl, rfl⟩, hR1⟩⟩
def s_L_gone (pp : Nat) (a1 : Int32) (a2 n2 : Nat) (h : zH) : Option (Int32 × zH) := zbx (s_X10_gone pp a1 h) (fun v3 h2 => zix (0 : Int32) n2 fun i5 => zlt (zwL h2 a2 i5 v3.toInt64) fun h4 => some ((0 : Int32), h4)) (fun x h1 => if x = 1 then (some ((1 : Int32), h1)) else none)
set_option maxRecDepth 100000 in
theorem s_L_gone_ok (d : Nat) (ρ : Nat → Nat → Option zF) (hρ : zSh ρ) (pp : Nat) (a1 : Int32) (a2 n2 : Nat) (hpp : ρ 0 3 = some (pp, 3, 0) ∧ zPlS ρ pp) (h : zH) (res : Int32 × zH) (hR : zRq h ρ) (e : s_L_gone pp a1 a2 n2 h = some res) : zcl (d + 7) 195 [zr ((0, 10, 0) : zF), zi a1, zr ((a2, 23, n2) : zF)] h (zQi ρ res) := by
  rw [s_L_gone] at e
  refine ⟨zm_L_gone, rfl, ?_⟩
  show zwp (d + 7) zm_L_gone 0 [some (zr ((0, 10, 0) : zF)), some (zi a1), some (zr ((a2, 23, n2) : zF)), none] [] h _
  refine zwp.go (m := 4) (j := 4) (ls' := [some (zr ((0, 10, 0) : zF)), some (zi a1), some (zr ((a2, 23, n2) : zF)), none]) (st' := [zi a1, zr ((0, 10, 0) : zF), zi (0 : Int32), zr ((a2, 23, n2) : zF)]) (h' := h) rfl ?_
  refine zc_cx (d := d + 6) e (fun q e => s_X10_gone_ok (d + 0) ρ hρ pp a1 hpp h q hR e) rfl rfl (fun v3 h2 hR2 e => ?_) (fun x h1 hR1 e => ?_)
  · refine zwp.go (m := 1) (j := 6) (ls' := [some (zr ((0, 10, 0) : zF)), some (zi a1), some (zr ((a2, 23, n2) : zF)), none]) (st' := [zl v3.toInt64, zi (0 : Int32), zr ((a2, 23, n2) : zF)]) (h' := h2) rfl ?_
    refine zc_sl e (fun _ => rfl) hR2 (fun h4 hR4 e => ?_)
    refine zwp.go (m := 2) (j := 12) (ls' := [some (zr ((0, 10, 0) : zF)), some (zi a1), some (zr ((a2, 23, n2) : zF)), none]) (st' := [zi (0 : Int32)]) (h' := h4) rfl ?_
    cases e
    exact zwp.ret rfl rfl ⟨⟨rfl, rfl⟩, hR4⟩
  · by_cases q1 : x = 1
    · subst q1
      replace e : (some ((1 : Int32), h1)) = some res := by simpa using e
      show zwp _ _ 9 [some (zr ((0, 10, 0) : zF)), some (zi a1), some (zr ((a2, 23, n2) : zF)), none] [] _ _
      refine zwp.go (m := 1) (j := 10) (ls' := [some (zr ((0, 10, 0) : zF)), some (zi a1), some (zr ((a2, 23, n2) : zF)), none]) (st' := [zi (1 : Int32)]) (h' := h1) rfl ?_
      cases e
      exact zwp.ret rfl rfl ⟨⟨rfl, rfl⟩, hR1⟩
    · skip
      simp [q1] at e
def s_X11_goneIn_J25 (l2 : Int32) (h : zH) : Option (Int32 × zH) := (s_X11_unpack 71 38 (0 : Int32) h).bind fun h1 => some (l2, h1)
set_option maxRecDepth 100000 in
theorem s_X11_goneIn_J25_ok (d : Nat) (ρ : Nat → Nat → Option zF) (hρ : zSh ρ) (l2 : Int32) (h : zH) (res : Int32 × zH) (hR : zRq h ρ) (e : s_X11_goneIn_J25  l2 h = some res) : zwp (d + 5) zm_X11_goneIn 25 [some (zr ((52, 11, 0) : zF)), none, some (zi l2), none] [] h (zQi ρ res) := by
  rw [s_X11_goneIn_J25] at e
  refine zwp.go (m := 2) (j := 27) (ls' := [some (zr ((52, 11, 0) : zF)), none, some (zi l2), none]) (st' := [zr ((52, 11, 0) : zF), zr ((52, 11, 0) : zF)]) (h' := h) rfl ?_
  refine zc_sr (r := ((71, 20, 38) : zF)) (zrf (a := 52) (y := 42) hR rfl (hρ 52 42 rfl)) rfl ?_
  refine zwp.go (m := 1) (j := 29) (ls' := [some (zr ((52, 11, 0) : zF)), none, some (zi l2), none]) (st' := [zi (0 : Int32), zr ((71, 20, 38) : zF), zr ((52, 11, 0) : zF)]) (h' := h) rfl ?_
  refine zc_cv (d := d + 4) e (fun q e => s_X11_unpack_ok (d + 4) ρ hρ 71 38 (0 : Int32) h q hR e) rfl rfl (fun h1 hR1 e => ?_)
  refine zwp.go (m := 1) (j := 31) (ls' := [some (zr ((52, 11, 0) : zF)), none, some (zi l2), none]) (st' := [zi l2]) (h' := h1) rfl ?_
  cases e
  exact zwp.ret rfl rfl ⟨⟨rfl, rfl⟩, hR1⟩
def s_X11_goneIn_J21 (k9 : (Int32 → Int32 → Int32 → zH → Option (Int32 × zH))) (l1 : Int32) (l2 : Int32) (l3 : Int32) (h : zH) : Option (Int32 × zH) := (s_X11_aDay h).bind fun h1 => k9 l1 l2 (l3 + (1 : Int32)) h1
set_option maxRecDepth 100000 in
theorem s_X11_goneIn_J21_ok (d : Nat) (ρ : Nat → Nat → Option zF) (hρ : zSh ρ) (k9 : (Int32 → Int32 → Int32 → zH → Option (Int32 × zH))) (hk9 : ∀ l1 l2 l3 h res, zRq h ρ → k9 l1 l2 l3 h = some res → zwp (d + 5) zm_X11_goneIn 9 [some (zr ((52, 11, 0) : zF)), some (zi l1), some (zi l2), some (zi l3)] [] h (zQi ρ res)) (l1 : Int32) (l2 : Int32) (l3 : Int32) (h : zH) (res : Int32 × zH) (hR : zRq h ρ) (e : s_X11_goneIn_J21 k9 l1 l2 l3 h = some res) : zwp (d + 5) zm_X11_goneIn 21 [some (zr ((52, 11, 0) : zF)), some (zi l1), some (zi l2), some (zi l3)] [] h (zQi ρ res) := by
  rw [s_X11_goneIn_J21] at e
  refine zwp.go (m := 1) (j := 22) (ls' := [some (zr ((52, 11, 0) : zF)), some (zi l1), some (zi l2), some (zi l3)]) (st' := [zr ((52, 11, 0) : zF)]) (h' := h) rfl ?_
  refine zc_cv (d := d + 4) e (fun q e => s_X11_aDay_ok (d + 0) ρ hρ h q hR e) rfl rfl (fun h1 hR1 e => ?_)
  refine zwp.go (m := 2) (j := 9) (ls' := [some (zr ((52, 11, 0) : zF)), some (zi l1), some (zi l2), some (zi (l3 + (1 : Int32)))]) (st' := []) (h' := h1) rfl ?_
  exact hk9 l1 l2 (l3 + (1 : Int32)) h1 _ hR1 e
def s_X11_goneIn_L9 : Nat → Int32 → Int32 → Int32 → zH → Option (Int32 × zH)
  | 0, _, _, _, _ => none
  | n + 1, l1, l2, l3, h => if (60 : Int32) < l3 then (s_X11_goneIn_J25 l2 h) else (if ¬ l2 = (-1 : Int32) then (s_X11_goneIn_J25 l2 h) else ((s_X11_isGone l1 h).bind fun v1 => if v1 = 0 then (s_X11_goneIn_J21 (s_X11_goneIn_L9 n) l1 l2 l3 h) else (s_X11_goneIn_J21 (s_X11_goneIn_L9 n) l1 l3 l3 h)))
set_option maxRecDepth 100000 in
theorem s_X11_goneIn_L9_ok (d : Nat) (ρ : Nat → Nat → Option zF) (hρ : zSh ρ) : ∀ (n : Nat) (l1 : Int32) (l2 : Int32) (l3 : Int32) (h : zH) (res : Int32 × zH) (hR : zRq h ρ) (e : s_X11_goneIn_L9  n l1 l2 l3 h = some res), zwp (d + 5) zm_X11_goneIn 9 [some (zr ((52, 11, 0) : zF)), some (zi l1), some (zi l2), some (zi l3)] [] h (zQi ρ res) := by
  intro n
  induction n with
  | zero => intro l1 l2 l3 h res hR e; cases e
  | succ n ih =>
    intro l1 l2 l3 h res hR e
    rw [s_X11_goneIn_L9] at e
    refine zwp.go (m := 2) (j := 11) (ls' := [some (zr ((52, 11, 0) : zF)), some (zi l1), some (zi l2), some (zi l3)]) (st' := [zi (60 : Int32), zi l3]) (h' := h) rfl ?_
    refine zb_if (j := 25) (j2 := 12) e rfl (fun e => ?_) (fun e => ?_)
    · refine zwp.fg (a := [some (zr ((52, 11, 0) : zF)), none, some (zi l2), none]) (And.intro rfl (And.intro rfl trivial)) ?_
      exact s_X11_goneIn_J25_ok d ρ hρ l2 h _ hR e
    · refine zwp.go (m := 2) (j := 14) (ls' := [some (zr ((52, 11, 0) : zF)), some (zi l1), some (zi l2), some (zi l3)]) (st' := [zi (-1 : Int32), zi l2]) (h' := h) rfl ?_
      refine zb_if (j := 25) (j2 := 15) e rfl (fun e => ?_) (fun e => ?_)
      · refine zwp.fg (a := [some (zr ((52, 11, 0) : zF)), none, some (zi l2), none]) (And.intro rfl (And.intro rfl trivial)) ?_
        exact s_X11_goneIn_J25_ok d ρ hρ l2 h _ hR e
      · refine zwp.go (m := 2) (j := 17) (ls' := [some (zr ((52, 11, 0) : zF)), some (zi l1), some (zi l2), some (zi l3)]) (st' := [zi l1, zr ((52, 11, 0) : zF)]) (h' := h) rfl ?_
        refine zc_cp (d := d + 4) e (fun q e => s_X11_isGone_ok (d + 4) ρ hρ l1 h q hR e) rfl rfl (fun v1 e => ?_)
        refine zb_if (j := 21) (j2 := 19) e rfl (fun e => ?_) (fun e => ?_)
        · exact s_X11_goneIn_J21_ok d ρ hρ (s_X11_goneIn_L9 n) ih l1 l2 l3 h _ hR e
        · refine zwp.go (m := 2) (j := 21) (ls' := [some (zr ((52, 11, 0) : zF)), some (zi l1), some (zi l3), some (zi l3)]) (st' := []) (h' := h) rfl ?_
          exact s_X11_goneIn_J21_ok d ρ hρ (s_X11_goneIn_L9 n) ih l1 l3 l3 h _ hR e
def s_X11_goneIn (a1 : Int32) (h : zH) : Option (Int32 × zH) := (s_X11_pack 71 38 (0 : Int32) h).bind fun h1 => s_X11_goneIn_L9 zfu a1 (-1 : Int32) (0 : Int32) h1
set_option maxRecDepth 100000 in
theorem s_X11_goneIn_ok (d : Nat) (ρ : Nat → Nat → Option zF) (hρ : zSh ρ) (a1 : Int32) (h : zH) (res : Int32 × zH) (hR : zRq h ρ) (e : s_X11_goneIn a1 h = some res) : zcl (d + 5) 196 [zr ((52, 11, 0) : zF), zi a1] h (zQi ρ res) := by
  rw [s_X11_goneIn] at e
  refine ⟨zm_X11_goneIn, rfl, ?_⟩
  show zwp (d + 5) zm_X11_goneIn 0 [some (zr ((52, 11, 0) : zF)), some (zi a1), none, none] [] h _
  refine zwp.go (m := 2) (j := 2) (ls' := [some (zr ((52, 11, 0) : zF)), some (zi a1), none, none]) (st' := [zr ((52, 11, 0) : zF), zr ((52, 11, 0) : zF)]) (h' := h) rfl ?_
  refine zc_sr (r := ((71, 20, 38) : zF)) (zrf (a := 52) (y := 42) hR rfl (hρ 52 42 rfl)) rfl ?_
  refine zwp.go (m := 1) (j := 4) (ls' := [some (zr ((52, 11, 0) : zF)), some (zi a1), none, none]) (st' := [zi (0 : Int32), zr ((71, 20, 38) : zF), zr ((52, 11, 0) : zF)]) (h' := h) rfl ?_
  refine zc_cv (d := d + 4) e (fun q e => s_X11_pack_ok (d + 4) ρ hρ 71 38 (0 : Int32) h q hR e) rfl rfl (fun h1 hR1 e => ?_)
  refine zwp.go (m := 4) (j := 9) (ls' := [some (zr ((52, 11, 0) : zF)), some (zi a1), some (zi (-1 : Int32)), some (zi (0 : Int32))]) (st' := []) (h' := h1) rfl ?_
  exact s_X11_goneIn_L9_ok d ρ hρ zfu a1 (-1 : Int32) (0 : Int32) h1 _ hR1 e
def s_X11_gone (a1 : Int32) (h : zH) : Option (Int32 × zH) := zlt (zwI h 52 4 (0 : Int32)) fun h1 => (s_X11_isRib a1 h1).bind fun v2 => if v2 = 0 then (zbd (s_X11_fail (1 : Int32) h1) fun v4 h3 => some (v4, h3)) else (zbd (s_X11_goneIn a1 h1) fun v6 h5 => some (v6, h5))
set_option maxRecDepth 100000 in
theorem s_X11_gone_ok (d : Nat) (ρ : Nat → Nat → Option zF) (hρ : zSh ρ) (a1 : Int32) (h : zH) (res : Int32 × zH) (hR : zRq h ρ) (e : s_X11_gone a1 h = some res) : zcl (d + 6) 197 [zr ((52, 11, 0) : zF), zi a1] h (zQi ρ res) := by
  rw [s_X11_gone] at e
  refine ⟨zm_X11_gone, rfl, ?_⟩
  show zwp (d + 6) zm_X11_gone 0 [some (zr ((52, 11, 0) : zF)), some (zi a1)] [] h _
  refine zwp.go (m := 2) (j := 2) (ls' := [some (zr ((52, 11, 0) : zF)), some (zi a1)]) (st' := [zi (0 : Int32), zr ((52, 11, 0) : zF)]) (h' := h) rfl ?_
  refine zc_w e rfl hR (fun h1 hR1 e => ?_)
  refine zwp.go (m := 2) (j := 5) (ls' := [some (zr ((52, 11, 0) : zF)), some (zi a1)]) (st' := [zi a1, zr ((52, 11, 0) : zF)]) (h' := h1) rfl ?_
  refine zc_cp (d := d + 5) e (fun q e => s_X11_isRib_ok (d + 4) ρ hρ a1 h1 q hR1 e) rfl rfl (fun v2 e => ?_)
  refine zb_if (j := 11) (j2 := 7) e rfl (fun e => ?_) (fun e => ?_)
  · refine zwp.go (m := 2) (j := 13) (ls' := [some (zr ((52, 11, 0) : zF)), some (zi a1)]) (st' := [zi (1 : Int32), zr ((52, 11, 0) : zF)]) (h' := h1) rfl ?_
    refine zc_ci (d := d + 5) e (fun q e => s_X11_fail_ok (d + 5) ρ hρ (1 : Int32) h1 q hR1 e) rfl rfl (fun v4 h3 hR3 e => ?_)
    cases e
    exact zwp.ret rfl rfl ⟨⟨rfl, rfl⟩, hR3⟩
  · refine zwp.go (m := 2) (j := 9) (ls' := [some (zr ((52, 11, 0) : zF)), some (zi a1)]) (st' := [zi a1, zr ((52, 11, 0) : zF)]) (h' := h1) rfl ?_
    refine zc_ci (d := d + 5) e (fun q e => s_X11_goneIn_ok (d + 0) ρ hρ a1 h1 q hR1 e) rfl rfl (fun v6 h5 hR5 e => ?_)
    refine zwp.go (m := 1) (j := 14) (ls' := [some (zr ((52, 11, 0) : zF)), some (zi a1)]) (st' := [zi v6]) (h' := h5) rfl ?_
    cases e
    exact zwp.ret rfl rfl ⟨⟨rfl, rfl⟩, hR5⟩
def s_X10_done (pp : Nat) (a1 : Int32) (a2 : Int32) (h : zH) : Option ((Int32 ⊕ Nat) × zH) := zbx (s_X10_needWhat pp a2 (3 : Int32) h) (fun _ h2 => zbx (s_X10_needWithin pp a1 (1 : Int32) (60 : Int32) h2) (fun _ h4 => (s_X10_foresee pp h4).bind fun h5 => if a1 ≤ (zI h5 39 4) then (if a2 = 0 then (zix (a1 - (1 : Int32)) 60 fun i6 => some (Sum.inl (zI h5 40 i6), h5)) else if a2 = 1 then (zix (a1 - (1 : Int32)) 60 fun i7 => some (Sum.inl (zI h5 41 i7), h5)) else (zix (a1 - (1 : Int32)) 60 fun i8 => some (Sum.inl (zI h5 42 i8), h5))) else (some (Sum.inl (-1 : Int32), h5))) (fun x h3 => some (Sum.inr x, h3))) (fun x h1 => some (Sum.inr x, h1))
set_option maxRecDepth 100000 in
theorem s_X10_done_ok (d : Nat) (ρ : Nat → Nat → Option zF) (hρ : zSh ρ) (pp : Nat) (a1 : Int32) (a2 : Int32) (hpp : ρ 0 3 = some (pp, 3, 0) ∧ zPlS ρ pp) (h : zH) (res : (Int32 ⊕ Nat) × zH) (hR : zRq h ρ) (e : s_X10_done pp a1 a2 h = some res) : zcl (d + 6) 198 [zr ((0, 10, 0) : zF), zi a1, zi a2] h (zQx ρ res) := by
  rw [s_X10_done] at e
  refine ⟨zm_X10_done, rfl, ?_⟩
  show zwp (d + 6) zm_X10_done 0 [some (zr ((0, 10, 0) : zF)), some (zi a1), some (zi a2)] [] h _
  refine zwp.go (m := 3) (j := 3) (ls' := [some (zr ((0, 10, 0) : zF)), some (zi a1), some (zi a2)]) (st' := [zi (3 : Int32), zi a2, zr ((0, 10, 0) : zF)]) (h' := h) rfl ?_
  refine zc_cu (d := d + 5) e (fun q e => s_X10_needWhat_ok (d + 5) ρ hρ pp a2 (3 : Int32) hpp h q hR e) rfl rfl (fun h2 hR2 e => ?_) (fun x h1 hR1 e => ?_)
  · refine zwp.go (m := 4) (j := 8) (ls' := [some (zr ((0, 10, 0) : zF)), some (zi a1), some (zi a2)]) (st' := [zi (60 : Int32), zi (1 : Int32), zi a1, zr ((0, 10, 0) : zF)]) (h' := h2) rfl ?_
    refine zc_cu (d := d + 5) e (fun q e => s_X10_needWithin_ok (d + 5) ρ hρ pp a1 (1 : Int32) (60 : Int32) hpp h2 q hR2 e) rfl rfl (fun h4 hR4 e => ?_) (fun x h3 hR3 e => ?_)
    · refine zwp.go (m := 1) (j := 10) (ls' := [some (zr ((0, 10, 0) : zF)), some (zi a1), some (zi a2)]) (st' := [zr ((0, 10, 0) : zF)]) (h' := h4) rfl ?_
      refine zc_cv (d := d + 5) e (fun q e => s_X10_foresee_ok (d + 0) ρ hρ pp hpp h4 q hR4 e) rfl rfl (fun h5 hR5 e => ?_)
      refine zwp.go (m := 2) (j := 13) (ls' := [some (zr ((0, 10, 0) : zF)), some (zi a1), some (zi a2)]) (st' := [zr ((0, 10, 0) : zF), zi a1]) (h' := h5) rfl ?_
      refine zc_sr (r := ((39, 1, 0) : zF)) (zrf (a := 0) (y := 11) hR5 rfl (hρ 0 11 rfl)) rfl ?_
      refine zwp.go (m := 1) (j := 15) (ls' := [some (zr ((0, 10, 0) : zF)), some (zi a1), some (zi a2)]) (st' := [zi (zI h5 39 4), zi a1]) (h' := h5) rfl ?_
      refine zb_if (j := 18) (j2 := 16) e rfl (fun e => ?_) (fun e => ?_)
      · refine zwp.go (m := 1) (j := 19) (ls' := [some (zr ((0, 10, 0) : zF)), some (zi a1), some (zi a2)]) (st' := [zi a2]) (h' := h5) rfl ?_
        refine zwp.nx (j := zsw [(0, 20), (1, 28)] 36 a2) (ls' := [some (zr ((0, 10, 0) : zF)), some (zi a1), some (zi a2)]) (st' := []) (h' := h5) rfl ?_
        refine zb_sw e (fun e => ?_) (fun e => ?_)
        · refine zwp.go (m := 1) (j := 21) (ls' := [some (zr ((0, 10, 0) : zF)), some (zi a1), some (zi a2)]) (st' := [zr ((0, 10, 0) : zF)]) (h' := h5) rfl ?_
          refine zc_sr (r := ((39, 1, 0) : zF)) (zrf (a := 0) (y := 11) hR5 rfl (hρ 0 11 rfl)) rfl ?_
          refine zc_sr (r := ((40, 20, 60) : zF)) (zrf (a := 39) (y := 0) hR5 rfl (hρ 39 0 rfl)) rfl ?_
          refine zwp.go (m := 3) (j := 26) (ls' := [some (zr ((0, 10, 0) : zF)), some (zi a1), some (zi a2)]) (st' := [zi (a1 - (1 : Int32)), zr ((40, 20, 60) : zF)]) (h' := h5) rfl ?_
          refine zc_ai e (fun _ => rfl) (fun i6 e => ?_)
          cases e
          exact zwp.ret rfl rfl ⟨⟨rfl, rfl⟩, hR5⟩
        refine zb_sw e (fun e => ?_) (fun e => ?_)
        · refine zwp.go (m := 1) (j := 29) (ls' := [some (zr ((0, 10, 0) : zF)), some (zi a1), some (zi a2)]) (st' := [zr ((0, 10, 0) : zF)]) (h' := h5) rfl ?_
          refine zc_sr (r := ((39, 1, 0) : zF)) (zrf (a := 0) (y := 11) hR5 rfl (hρ 0 11 rfl)) rfl ?_
          refine zc_sr (r := ((41, 20, 60) : zF)) (zrf (a := 39) (y := 1) hR5 rfl (hρ 39 1 rfl)) rfl ?_
          refine zwp.go (m := 3) (j := 34) (ls' := [some (zr ((0, 10, 0) : zF)), some (zi a1), some (zi a2)]) (st' := [zi (a1 - (1 : Int32)), zr ((41, 20, 60) : zF)]) (h' := h5) rfl ?_
          refine zc_ai e (fun _ => rfl) (fun i7 e => ?_)
          cases e
          exact zwp.ret rfl rfl ⟨⟨rfl, rfl⟩, hR5⟩
        refine zwp.go (m := 1) (j := 37) (ls' := [some (zr ((0, 10, 0) : zF)), some (zi a1), some (zi a2)]) (st' := [zr ((0, 10, 0) : zF)]) (h' := h5) rfl ?_
        refine zc_sr (r := ((39, 1, 0) : zF)) (zrf (a := 0) (y := 11) hR5 rfl (hρ 0 11 rfl)) rfl ?_
        refine zc_sr (r := ((42, 20, 60) : zF)) (zrf (a := 39) (y := 2) hR5 rfl (hρ 39 2 rfl)) rfl ?_
        refine zwp.go (m := 3) (j := 42) (ls' := [some (zr ((0, 10, 0) : zF)), some (zi a1), some (zi a2)]) (st' := [zi (a1 - (1 : Int32)), zr ((42, 20, 60) : zF)]) (h' := h5) rfl ?_
        refine zc_ai e (fun _ => rfl) (fun i8 e => ?_)
        cases e
        exact zwp.ret rfl rfl ⟨⟨rfl, rfl⟩, hR5⟩
      · refine zwp.go (m := 1) (j := 17) (ls' := [some (zr ((0, 10, 0) : zF)), some (zi a1), some (zi a2)]) (st' := [zi (-1 : Int32)]) (h' := h5) rfl ?_
        cases e
        exact zwp.ret rfl rfl ⟨⟨rfl, rfl⟩, hR5⟩
    · cases e
      exact ⟨rfl, ⟨⟨rfl, rfl⟩, hR3⟩⟩
  · cases e
    exact ⟨rfl, ⟨⟨rfl, rfl⟩, hR1⟩⟩
def s_L_done (pp : Nat) (a1 : Int32) (a2 : Int32) (a3 n3 : Nat) (h : zH) : Option (Int32 × zH) := zbx (s_X10_done pp a1 a2 h) (fun v3 h2 => zix (0 : Int32) n3 fun i5 => zlt (zwL h2 a3 i5 v3.toInt64) fun h4 => some ((0 : Int32), h4)) (fun x h1 => if x = 1 then (some ((1 : Int32), h1)) else if x = 0 then (some ((2 : Int32), h1)) else none)
set_option maxRecDepth 100000 in
theorem s_L_done_ok (d : Nat) (ρ : Nat → Nat → Option zF) (hρ : zSh ρ) (pp : Nat) (a1 : Int32) (a2 : Int32) (a3 n3 : Nat) (hpp : ρ 0 3 = some (pp, 3, 0) ∧ zPlS ρ pp) (h : zH) (res : Int32 × zH) (hR : zRq h ρ) (e : s_L_done pp a1 a2 a3 n3 h = some res) : zcl (d + 7) 199 [zr ((0, 10, 0) : zF), zi a1, zi a2, zr ((a3, 23, n3) : zF)] h (zQi ρ res) := by
  rw [s_L_done] at e
  refine ⟨zm_L_done, rfl, ?_⟩
  show zwp (d + 7) zm_L_done 0 [some (zr ((0, 10, 0) : zF)), some (zi a1), some (zi a2), some (zr ((a3, 23, n3) : zF)), none] [] h _
  refine zwp.go (m := 5) (j := 5) (ls' := [some (zr ((0, 10, 0) : zF)), some (zi a1), some (zi a2), some (zr ((a3, 23, n3) : zF)), none]) (st' := [zi a2, zi a1, zr ((0, 10, 0) : zF), zi (0 : Int32), zr ((a3, 23, n3) : zF)]) (h' := h) rfl ?_
  refine zc_cx (d := d + 6) e (fun q e => s_X10_done_ok (d + 0) ρ hρ pp a1 a2 hpp h q hR e) rfl rfl (fun v3 h2 hR2 e => ?_) (fun x h1 hR1 e => ?_)
  · refine zwp.go (m := 1) (j := 7) (ls' := [some (zr ((0, 10, 0) : zF)), some (zi a1), some (zi a2), some (zr ((a3, 23, n3) : zF)), none]) (st' := [zl v3.toInt64, zi (0 : Int32), zr ((a3, 23, n3) : zF)]) (h' := h2) rfl ?_
    refine zc_sl e (fun _ => rfl) hR2 (fun h4 hR4 e => ?_)
    refine zwp.go (m := 2) (j := 16) (ls' := [some (zr ((0, 10, 0) : zF)), some (zi a1), some (zi a2), some (zr ((a3, 23, n3) : zF)), none]) (st' := [zi (0 : Int32)]) (h' := h4) rfl ?_
    cases e
    exact zwp.ret rfl rfl ⟨⟨rfl, rfl⟩, hR4⟩
  · by_cases q1 : x = 1
    · subst q1
      replace e : (some ((1 : Int32), h1)) = some res := by simpa using e
      show zwp _ _ 10 [some (zr ((0, 10, 0) : zF)), some (zi a1), some (zi a2), some (zr ((a3, 23, n3) : zF)), none] [] _ _
      refine zwp.go (m := 1) (j := 11) (ls' := [some (zr ((0, 10, 0) : zF)), some (zi a1), some (zi a2), some (zr ((a3, 23, n3) : zF)), none]) (st' := [zi (1 : Int32)]) (h' := h1) rfl ?_
      cases e
      exact zwp.ret rfl rfl ⟨⟨rfl, rfl⟩, hR1⟩
    · skip
      by_cases q0 : x = 0
      · subst q0
        replace e : (some ((2 : Int32), h1)) = some res := by simpa using e
        show zwp _ _ 13 [some (zr ((0, 10, 0) : zF)), some (zi a1), some (zi a2), some (zr ((a3, 23, n3) : zF)), none] [] _ _
        refine zwp.go (m := 1) (j := 14) (ls' := [some (zr ((0, 10, 0) : zF)), some (zi a1), some (zi a2), some (zr ((a3, 23, n3) : zF)), none]) (st' := [zi (2 : Int32)]) (h' := h1) rfl ?_
        cases e
        exact zwp.ret rfl rfl ⟨⟨rfl, rfl⟩, hR1⟩
      · skip
        simp [q1, q0] at e
def s_X11_tellSails_L10 : Nat → Int32 → Int32 → zH → Option (zH)
  | 0, _, _, _ => none
  | n + 1, l1, l2, h => if l1 < l2 then ((s_X11_unpack 71 38 (0 : Int32) h).bind fun h1 => some h1) else ((s_X11_aDay h).bind fun h2 => if ¬ (zI h2 52 39) = 0 then (zix (zI h2 52 46) 60 fun i9 => zlt (zwI h2 72 i9 l2) fun h3 => zix (zI h3 52 46) 60 fun i8 => zlt (zwI h3 73 i8 (zI h3 52 40)) fun h4 => zix (zI h4 52 46) 60 fun i7 => zlt (zwI h4 74 i7 (zI h4 52 41)) fun h5 => zlt (zwI h5 52 46 ((zI h5 52 46) + (1 : Int32))) fun h6 => s_X11_tellSails_L10 n l1 (l2 + (1 : Int32)) h6) else (s_X11_tellSails_L10 n l1 (l2 + (1 : Int32)) h2))
set_option maxRecDepth 100000 in
theorem s_X11_tellSails_L10_ok (d : Nat) (ρ : Nat → Nat → Option zF) (hρ : zSh ρ) : ∀ (n : Nat) (l1 : Int32) (l2 : Int32) (h : zH) (res : zH) (hR : zRq h ρ) (e : s_X11_tellSails_L10  n l1 l2 h = some res), zwp (d + 5) zm_X11_tellSails 10 [some (zr ((52, 11, 0) : zF)), some (zi l1), some (zi l2)] [] h (zQv ρ res) := by
  intro n
  induction n with
  | zero => intro l1 l2 h res hR e; cases e
  | succ n ih =>
    intro l1 l2 h res hR e
    rw [s_X11_tellSails_L10] at e
    refine zwp.go (m := 2) (j := 12) (ls' := [some (zr ((52, 11, 0) : zF)), some (zi l1), some (zi l2)]) (st' := [zi l1, zi l2]) (h' := h) rfl ?_
    refine zb_if (j := 47) (j2 := 13) e rfl (fun e => ?_) (fun e => ?_)
    · refine zwp.go (m := 2) (j := 49) (ls' := [some (zr ((52, 11, 0) : zF)), some (zi l1), some (zi l2)]) (st' := [zr ((52, 11, 0) : zF), zr ((52, 11, 0) : zF)]) (h' := h) rfl ?_
      refine zc_sr (r := ((71, 20, 38) : zF)) (zrf (a := 52) (y := 42) hR rfl (hρ 52 42 rfl)) rfl ?_
      refine zwp.go (m := 1) (j := 51) (ls' := [some (zr ((52, 11, 0) : zF)), some (zi l1), some (zi l2)]) (st' := [zi (0 : Int32), zr ((71, 20, 38) : zF), zr ((52, 11, 0) : zF)]) (h' := h) rfl ?_
      refine zc_cv (d := d + 4) e (fun q e => s_X11_unpack_ok (d + 4) ρ hρ 71 38 (0 : Int32) h q hR e) rfl rfl (fun h1 hR1 e => ?_)
      cases e
      exact zwp.rv rfl ⟨⟨rfl, rfl⟩, hR1⟩
    · refine zwp.go (m := 1) (j := 14) (ls' := [some (zr ((52, 11, 0) : zF)), some (zi l1), some (zi l2)]) (st' := [zr ((52, 11, 0) : zF)]) (h' := h) rfl ?_
      refine zc_cv (d := d + 4) e (fun q e => s_X11_aDay_ok (d + 0) ρ hρ h q hR e) rfl rfl (fun h2 hR2 e => ?_)
      refine zwp.go (m := 2) (j := 17) (ls' := [some (zr ((52, 11, 0) : zF)), some (zi l1), some (zi l2)]) (st' := [zi (zI h2 52 39)]) (h' := h2) rfl ?_
      refine zb_if (j := 19) (j2 := 18) e rfl (fun e => ?_) (fun e => ?_)
      · refine zwp.go (m := 1) (j := 20) (ls' := [some (zr ((52, 11, 0) : zF)), some (zi l1), some (zi l2)]) (st' := [zr ((52, 11, 0) : zF)]) (h' := h2) rfl ?_
        refine zc_sr (r := ((72, 20, 60) : zF)) (zrf (a := 52) (y := 43) hR2 rfl (hρ 52 43 rfl)) rfl ?_
        refine zwp.go (m := 3) (j := 24) (ls' := [some (zr ((52, 11, 0) : zF)), some (zi l1), some (zi l2)]) (st' := [zi l2, zi (zI h2 52 46), zr ((72, 20, 60) : zF)]) (h' := h2) rfl ?_
        refine zc_si e (fun _ => rfl) hR2 (fun h3 hR3 e => ?_)
        refine zwp.go (m := 1) (j := 26) (ls' := [some (zr ((52, 11, 0) : zF)), some (zi l1), some (zi l2)]) (st' := [zr ((52, 11, 0) : zF)]) (h' := h3) rfl ?_
        refine zc_sr (r := ((73, 20, 60) : zF)) (zrf (a := 52) (y := 44) hR3 rfl (hρ 52 44 rfl)) rfl ?_
        refine zwp.go (m := 4) (j := 31) (ls' := [some (zr ((52, 11, 0) : zF)), some (zi l1), some (zi l2)]) (st' := [zi (zI h3 52 40), zi (zI h3 52 46), zr ((73, 20, 60) : zF)]) (h' := h3) rfl ?_
        refine zc_si e (fun _ => rfl) hR3 (fun h4 hR4 e => ?_)
        refine zwp.go (m := 1) (j := 33) (ls' := [some (zr ((52, 11, 0) : zF)), some (zi l1), some (zi l2)]) (st' := [zr ((52, 11, 0) : zF)]) (h' := h4) rfl ?_
        refine zc_sr (r := ((74, 20, 60) : zF)) (zrf (a := 52) (y := 45) hR4 rfl (hρ 52 45 rfl)) rfl ?_
        refine zwp.go (m := 4) (j := 38) (ls' := [some (zr ((52, 11, 0) : zF)), some (zi l1), some (zi l2)]) (st' := [zi (zI h4 52 41), zi (zI h4 52 46), zr ((74, 20, 60) : zF)]) (h' := h4) rfl ?_
        refine zc_si e (fun _ => rfl) hR4 (fun h5 hR5 e => ?_)
        refine zwp.go (m := 5) (j := 44) (ls' := [some (zr ((52, 11, 0) : zF)), some (zi l1), some (zi l2)]) (st' := [zi ((zI h5 52 46) + (1 : Int32)), zr ((52, 11, 0) : zF)]) (h' := h5) rfl ?_
        refine zc_w e rfl hR5 (fun h6 hR6 e => ?_)
        refine zwp.go (m := 2) (j := 10) (ls' := [some (zr ((52, 11, 0) : zF)), some (zi l1), some (zi (l2 + (1 : Int32)))]) (st' := []) (h' := h6) rfl ?_
        exact ih l1 (l2 + (1 : Int32)) h6 _ hR6 e
      · refine zwp.go (m := 3) (j := 10) (ls' := [some (zr ((52, 11, 0) : zF)), some (zi l1), some (zi (l2 + (1 : Int32)))]) (st' := []) (h' := h2) rfl ?_
        exact ih l1 (l2 + (1 : Int32)) h2 _ hR2 e
def s_X11_tellSails (a1 : Int32) (h : zH) : Option (zH) := zlt (zwI h 52 46 (0 : Int32)) fun h1 => (s_X11_pack 71 38 (0 : Int32) h1).bind fun h2 => s_X11_tellSails_L10 zfu a1 (1 : Int32) h2
set_option maxRecDepth 100000 in
theorem s_X11_tellSails_ok (d : Nat) (ρ : Nat → Nat → Option zF) (hρ : zSh ρ) (a1 : Int32) (h : zH) (res : zH) (hR : zRq h ρ) (e : s_X11_tellSails a1 h = some res) : zcl (d + 5) 200 [zr ((52, 11, 0) : zF), zi a1] h (zQv ρ res) := by
  rw [s_X11_tellSails] at e
  refine ⟨zm_X11_tellSails, rfl, ?_⟩
  show zwp (d + 5) zm_X11_tellSails 0 [some (zr ((52, 11, 0) : zF)), some (zi a1), none] [] h _
  refine zwp.go (m := 2) (j := 2) (ls' := [some (zr ((52, 11, 0) : zF)), some (zi a1), none]) (st' := [zi (0 : Int32), zr ((52, 11, 0) : zF)]) (h' := h) rfl ?_
  refine zc_w e rfl hR (fun h1 hR1 e => ?_)
  refine zwp.go (m := 2) (j := 5) (ls' := [some (zr ((52, 11, 0) : zF)), some (zi a1), none]) (st' := [zr ((52, 11, 0) : zF), zr ((52, 11, 0) : zF)]) (h' := h1) rfl ?_
  refine zc_sr (r := ((71, 20, 38) : zF)) (zrf (a := 52) (y := 42) hR1 rfl (hρ 52 42 rfl)) rfl ?_
  refine zwp.go (m := 1) (j := 7) (ls' := [some (zr ((52, 11, 0) : zF)), some (zi a1), none]) (st' := [zi (0 : Int32), zr ((71, 20, 38) : zF), zr ((52, 11, 0) : zF)]) (h' := h1) rfl ?_
  refine zc_cv (d := d + 4) e (fun q e => s_X11_pack_ok (d + 4) ρ hρ 71 38 (0 : Int32) h1 q hR1 e) rfl rfl (fun h2 hR2 e => ?_)
  refine zwp.go (m := 2) (j := 10) (ls' := [some (zr ((52, 11, 0) : zF)), some (zi a1), some (zi (1 : Int32))]) (st' := []) (h' := h2) rfl ?_
  exact s_X11_tellSails_L10_ok d ρ hρ zfu a1 (1 : Int32) h2 _ hR2 e
def s_X11_done (a1 : Int32) (a2 : Int32) (h : zH) : Option (Int32 × zH) := zlt (zwI h 52 4 (0 : Int32)) fun h1 => (s_X11_isIn a2.toInt64 (0 : Int64) (2 : Int64) h1).bind fun v2 => if ¬ v2 = 0 then ((s_X11_isIn a1.toInt64 (1 : Int64) (60 : Int64) h1).bind fun v3 => if ¬ v3 = 0 then ((s_X11_tellSails (60 : Int32) h1).bind fun h4 => if a1 ≤ (zI h4 52 46) then (if ¬ a2 = 0 then (if ¬ a2 = (1 : Int32) then (zix (a1 - (1 : Int32)) 60 fun i5 => some ((zI h4 74 i5), h4)) else (zix (a1 - (1 : Int32)) 60 fun i6 => some ((zI h4 73 i6), h4))) else (zix (a1 - (1 : Int32)) 60 fun i7 => some ((zI h4 72 i7), h4))) else (some ((-1 : Int32), h4))) else (zbd (s_X11_fail (2 : Int32) h1) fun v9 h8 => some (v9, h8))) else (zbd (s_X11_fail (1 : Int32) h1) fun v11 h10 => some (v11, h10))
set_option maxRecDepth 100000 in
theorem s_X11_done_ok (d : Nat) (ρ : Nat → Nat → Option zF) (hρ : zSh ρ) (a1 : Int32) (a2 : Int32) (h : zH) (res : Int32 × zH) (hR : zRq h ρ) (e : s_X11_done a1 a2 h = some res) : zcl (d + 6) 201 [zr ((52, 11, 0) : zF), zi a1, zi a2] h (zQi ρ res) := by
  rw [s_X11_done] at e
  refine ⟨zm_X11_done, rfl, ?_⟩
  show zwp (d + 6) zm_X11_done 0 [some (zr ((52, 11, 0) : zF)), some (zi a1), some (zi a2)] [] h _
  refine zwp.go (m := 2) (j := 2) (ls' := [some (zr ((52, 11, 0) : zF)), some (zi a1), some (zi a2)]) (st' := [zi (0 : Int32), zr ((52, 11, 0) : zF)]) (h' := h) rfl ?_
  refine zc_w e rfl hR (fun h1 hR1 e => ?_)
  refine zwp.go (m := 4) (j := 7) (ls' := [some (zr ((52, 11, 0) : zF)), some (zi a1), some (zi a2)]) (st' := [zl (2 : Int64), zl (0 : Int64), zl a2.toInt64]) (h' := h1) rfl ?_
  refine zc_cp (d := d + 5) e (fun q e => s_X11_isIn_ok (d + 5) ρ hρ a2.toInt64 (0 : Int64) (2 : Int64) h1 q hR1 e) rfl rfl (fun v2 e => ?_)
  refine zb_if (j := 13) (j2 := 9) e rfl (fun e => ?_) (fun e => ?_)
  · refine zwp.go (m := 4) (j := 17) (ls' := [some (zr ((52, 11, 0) : zF)), some (zi a1), some (zi a2)]) (st' := [zl (60 : Int64), zl (1 : Int64), zl a1.toInt64]) (h' := h1) rfl ?_
    refine zc_cp (d := d + 5) e (fun q e => s_X11_isIn_ok (d + 5) ρ hρ a1.toInt64 (1 : Int64) (60 : Int64) h1 q hR1 e) rfl rfl (fun v3 e => ?_)
    refine zb_if (j := 23) (j2 := 19) e rfl (fun e => ?_) (fun e => ?_)
    · refine zwp.go (m := 2) (j := 25) (ls' := [some (zr ((52, 11, 0) : zF)), some (zi a1), some (zi a2)]) (st' := [zi (60 : Int32), zr ((52, 11, 0) : zF)]) (h' := h1) rfl ?_
      refine zc_cv (d := d + 5) e (fun q e => s_X11_tellSails_ok (d + 0) ρ hρ (60 : Int32) h1 q hR1 e) rfl rfl (fun h4 hR4 e => ?_)
      refine zwp.go (m := 3) (j := 29) (ls' := [some (zr ((52, 11, 0) : zF)), some (zi a1), some (zi a2)]) (st' := [zi (zI h4 52 46), zi a1]) (h' := h4) rfl ?_
      refine zb_if (j := 32) (j2 := 30) e rfl (fun e => ?_) (fun e => ?_)
      · refine zwp.go (m := 1) (j := 33) (ls' := [some (zr ((52, 11, 0) : zF)), some (zi a1), some (zi a2)]) (st' := [zi a2]) (h' := h4) rfl ?_
        refine zb_if (j := 41) (j2 := 34) e rfl (fun e => ?_) (fun e => ?_)
        · refine zwp.go (m := 2) (j := 43) (ls' := [some (zr ((52, 11, 0) : zF)), some (zi a1), some (zi a2)]) (st' := [zi (1 : Int32), zi a2]) (h' := h4) rfl ?_
          refine zb_if (j := 51) (j2 := 44) e rfl (fun e => ?_) (fun e => ?_)
          · refine zwp.go (m := 1) (j := 52) (ls' := [some (zr ((52, 11, 0) : zF)), some (zi a1), some (zi a2)]) (st' := [zr ((52, 11, 0) : zF)]) (h' := h4) rfl ?_
            refine zc_sr (r := ((74, 20, 60) : zF)) (zrf (a := 52) (y := 45) hR4 rfl (hρ 52 45 rfl)) rfl ?_
            refine zwp.go (m := 3) (j := 56) (ls' := [some (zr ((52, 11, 0) : zF)), some (zi a1), some (zi a2)]) (st' := [zi (a1 - (1 : Int32)), zr ((74, 20, 60) : zF)]) (h' := h4) rfl ?_
            refine zc_ai e (fun _ => rfl) (fun i5 e => ?_)
            cases e
            exact zwp.ret rfl rfl ⟨⟨rfl, rfl⟩, hR4⟩
          · refine zwp.go (m := 1) (j := 45) (ls' := [some (zr ((52, 11, 0) : zF)), some (zi a1), some (zi a2)]) (st' := [zr ((52, 11, 0) : zF)]) (h' := h4) rfl ?_
            refine zc_sr (r := ((73, 20, 60) : zF)) (zrf (a := 52) (y := 44) hR4 rfl (hρ 52 44 rfl)) rfl ?_
            refine zwp.go (m := 3) (j := 49) (ls' := [some (zr ((52, 11, 0) : zF)), some (zi a1), some (zi a2)]) (st' := [zi (a1 - (1 : Int32)), zr ((73, 20, 60) : zF)]) (h' := h4) rfl ?_
            refine zc_ai e (fun _ => rfl) (fun i6 e => ?_)
            refine zwp.go (m := 1) (j := 57) (ls' := [some (zr ((52, 11, 0) : zF)), some (zi a1), some (zi a2)]) (st' := [zi (zI h4 73 i6)]) (h' := h4) rfl ?_
            cases e
            exact zwp.ret rfl rfl ⟨⟨rfl, rfl⟩, hR4⟩
        · refine zwp.go (m := 1) (j := 35) (ls' := [some (zr ((52, 11, 0) : zF)), some (zi a1), some (zi a2)]) (st' := [zr ((52, 11, 0) : zF)]) (h' := h4) rfl ?_
          refine zc_sr (r := ((72, 20, 60) : zF)) (zrf (a := 52) (y := 43) hR4 rfl (hρ 52 43 rfl)) rfl ?_
          refine zwp.go (m := 3) (j := 39) (ls' := [some (zr ((52, 11, 0) : zF)), some (zi a1), some (zi a2)]) (st' := [zi (a1 - (1 : Int32)), zr ((72, 20, 60) : zF)]) (h' := h4) rfl ?_
          refine zc_ai e (fun _ => rfl) (fun i7 e => ?_)
          refine zwp.go (m := 1) (j := 57) (ls' := [some (zr ((52, 11, 0) : zF)), some (zi a1), some (zi a2)]) (st' := [zi (zI h4 72 i7)]) (h' := h4) rfl ?_
          cases e
          exact zwp.ret rfl rfl ⟨⟨rfl, rfl⟩, hR4⟩
      · refine zwp.go (m := 1) (j := 31) (ls' := [some (zr ((52, 11, 0) : zF)), some (zi a1), some (zi a2)]) (st' := [zi (-1 : Int32)]) (h' := h4) rfl ?_
        cases e
        exact zwp.ret rfl rfl ⟨⟨rfl, rfl⟩, hR4⟩
    · refine zwp.go (m := 2) (j := 21) (ls' := [some (zr ((52, 11, 0) : zF)), some (zi a1), some (zi a2)]) (st' := [zi (2 : Int32), zr ((52, 11, 0) : zF)]) (h' := h1) rfl ?_
      refine zc_ci (d := d + 5) e (fun q e => s_X11_fail_ok (d + 5) ρ hρ (2 : Int32) h1 q hR1 e) rfl rfl (fun v9 h8 hR8 e => ?_)
      cases e
      exact zwp.ret rfl rfl ⟨⟨rfl, rfl⟩, hR8⟩
  · refine zwp.go (m := 2) (j := 11) (ls' := [some (zr ((52, 11, 0) : zF)), some (zi a1), some (zi a2)]) (st' := [zi (1 : Int32), zr ((52, 11, 0) : zF)]) (h' := h1) rfl ?_
    refine zc_ci (d := d + 5) e (fun q e => s_X11_fail_ok (d + 5) ρ hρ (1 : Int32) h1 q hR1 e) rfl rfl (fun v11 h10 hR10 e => ?_)
    cases e
    exact zwp.ret rfl rfl ⟨⟨rfl, rfl⟩, hR10⟩
def s_X1_widestSail_L6 : Nat → Int32 → Int32 → Int32 → zH → Option (Int32)
  | 0, _, _, _, _ => none
  | n + 1, l1, l2, l3, h => if (zI h 39 4) ≤ l3 then (some l1) else (zix l3 60 fun i1 => (s_J6_bitCount_0f7a4 (zI h 41 i1) h).bind fun v2 => if l2 ≤ v2 then (s_X1_widestSail_L6 n l1 l2 (l3 + (1 : Int32)) h) else (s_X1_widestSail_L6 n (l3 + (1 : Int32)) v2 (l3 + (1 : Int32)) h))
set_option maxRecDepth 100000 in
theorem s_X1_widestSail_L6_ok (d : Nat) (ρ : Nat → Nat → Option zF) (hρ : zSh ρ) : ∀ (n : Nat) (l1 : Int32) (l2 : Int32) (l3 : Int32) (h : zH) (res : Int32) (hR : zRq h ρ) (e : s_X1_widestSail_L6  n l1 l2 l3 h = some res), zwp (d + 1) zm_X1_widestSail 6 [some (zr ((39, 1, 0) : zF)), some (zi l1), some (zi l2), some (zi l3), none] [] h (zQp h res) := by
  intro n
  induction n with
  | zero => intro l1 l2 l3 h res hR e; cases e
  | succ n ih =>
    intro l1 l2 l3 h res hR e
    rw [s_X1_widestSail_L6] at e
    refine zwp.go (m := 3) (j := 9) (ls' := [some (zr ((39, 1, 0) : zF)), some (zi l1), some (zi l2), some (zi l3), none]) (st' := [zi (zI h 39 4), zi l3]) (h' := h) rfl ?_
    refine zb_if (j := 27) (j2 := 10) e rfl (fun e => ?_) (fun e => ?_)
    · refine zwp.go (m := 1) (j := 28) (ls' := [some (zr ((39, 1, 0) : zF)), some (zi l1), some (zi l2), some (zi l3), none]) (st' := [zi l1]) (h' := h) rfl ?_
      cases e
      exact zwp.ret rfl rfl ⟨rfl, rfl⟩
    · refine zwp.go (m := 1) (j := 11) (ls' := [some (zr ((39, 1, 0) : zF)), some (zi l1), some (zi l2), some (zi l3), none]) (st' := [zr ((39, 1, 0) : zF)]) (h' := h) rfl ?_
      refine zc_sr (r := ((41, 20, 60) : zF)) (zrf (a := 39) (y := 1) hR rfl (hρ 39 1 rfl)) rfl ?_
      refine zwp.go (m := 1) (j := 13) (ls' := [some (zr ((39, 1, 0) : zF)), some (zi l1), some (zi l2), some (zi l3), none]) (st' := [zi l3, zr ((41, 20, 60) : zF)]) (h' := h) rfl ?_
      refine zc_ai e (fun _ => rfl) (fun i1 e => ?_)
      refine zc_cp (d := d + 0) e (fun q e => s_J6_bitCount_0f7a4_ok (d + 0) ρ hρ (zI h 41 i1) h q hR e) rfl rfl (fun v2 e => ?_)
      refine zwp.go (m := 3) (j := 18) (ls' := [some (zr ((39, 1, 0) : zF)), some (zi l1), some (zi l2), some (zi l3), some (zi v2)]) (st' := [zi l2, zi v2]) (h' := h) rfl ?_
      refine zb_if (j := 25) (j2 := 19) e rfl (fun e => ?_) (fun e => ?_)
      · refine zwp.go (m := 2) (j := 6) (ls' := [some (zr ((39, 1, 0) : zF)), some (zi l1), some (zi l2), some (zi (l3 + (1 : Int32))), some (zi v2)]) (st' := []) (h' := h) rfl ?_
        refine zwp.fg (a := [some (zr ((39, 1, 0) : zF)), some (zi l1), some (zi l2), some (zi (l3 + (1 : Int32))), none]) (And.intro rfl (And.intro rfl (And.intro rfl (And.intro rfl trivial)))) ?_
        exact ih l1 l2 (l3 + (1 : Int32)) h _ hR e
      · refine zwp.go (m := 8) (j := 6) (ls' := [some (zr ((39, 1, 0) : zF)), some (zi (l3 + (1 : Int32))), some (zi v2), some (zi (l3 + (1 : Int32))), some (zi v2)]) (st' := []) (h' := h) rfl ?_
        refine zwp.fg (a := [some (zr ((39, 1, 0) : zF)), some (zi (l3 + (1 : Int32))), some (zi v2), some (zi (l3 + (1 : Int32))), none]) (And.intro rfl (And.intro rfl (And.intro rfl (And.intro rfl trivial)))) ?_
        exact ih (l3 + (1 : Int32)) v2 (l3 + (1 : Int32)) h _ hR e
def s_X1_widestSail (h : zH) : Option (Int32) := s_X1_widestSail_L6 zfu (-1 : Int32) (13 : Int32) (0 : Int32) h
set_option maxRecDepth 100000 in
theorem s_X1_widestSail_ok (d : Nat) (ρ : Nat → Nat → Option zF) (hρ : zSh ρ) (h : zH) (res : Int32) (hR : zRq h ρ) (e : s_X1_widestSail  h = some res) : zcl (d + 1) 202 [zr ((39, 1, 0) : zF)] h (zQp h res) := by
  rw [s_X1_widestSail] at e
  refine ⟨zm_X1_widestSail, rfl, ?_⟩
  show zwp (d + 1) zm_X1_widestSail 0 [some (zr ((39, 1, 0) : zF)), none, none, none, none] [] h _
  refine zwp.go (m := 6) (j := 6) (ls' := [some (zr ((39, 1, 0) : zF)), some (zi (-1 : Int32)), some (zi (13 : Int32)), some (zi (0 : Int32)), none]) (st' := []) (h' := h) rfl ?_
  exact s_X1_widestSail_L6_ok d ρ hρ zfu (-1 : Int32) (13 : Int32) (0 : Int32) h _ hR e
def s_X10_widest (pp : Nat) (h : zH) : Option (Int32 × zH) := (s_X10_foresee pp h).bind fun h1 => (s_X1_widestSail h1).bind fun v2 => some (v2, h1)
set_option maxRecDepth 100000 in
theorem s_X10_widest_ok (d : Nat) (ρ : Nat → Nat → Option zF) (hρ : zSh ρ) (pp : Nat) (hpp : ρ 0 3 = some (pp, 3, 0) ∧ zPlS ρ pp) (h : zH) (res : Int32 × zH) (hR : zRq h ρ) (e : s_X10_widest pp h = some res) : zcl (d + 6) 203 [zr ((0, 10, 0) : zF)] h (zQi ρ res) := by
  rw [s_X10_widest] at e
  refine ⟨zm_X10_widest, rfl, ?_⟩
  show zwp (d + 6) zm_X10_widest 0 [some (zr ((0, 10, 0) : zF))] [] h _
  refine zwp.go (m := 1) (j := 1) (ls' := [some (zr ((0, 10, 0) : zF))]) (st' := [zr ((0, 10, 0) : zF)]) (h' := h) rfl ?_
  refine zc_cv (d := d + 5) e (fun q e => s_X10_foresee_ok (d + 0) ρ hρ pp hpp h q hR e) rfl rfl (fun h1 hR1 e => ?_)
  refine zwp.go (m := 1) (j := 3) (ls' := [some (zr ((0, 10, 0) : zF))]) (st' := [zr ((0, 10, 0) : zF)]) (h' := h1) rfl ?_
  refine zc_sr (r := ((39, 1, 0) : zF)) (zrf (a := 0) (y := 11) hR1 rfl (hρ 0 11 rfl)) rfl ?_
  refine zc_cp (d := d + 5) e (fun q e => s_X1_widestSail_ok (d + 4) ρ hρ h1 q hR1 e) rfl rfl (fun v2 e => ?_)
  cases e
  exact zwp.ret rfl rfl ⟨⟨rfl, rfl⟩, hR1⟩
def s_X11_bitsOf_L4 : Nat → Int32 → Int32 → zH → Option (Int32)
  | 0, _, _, _ => none
  | n + 1, l1, l2, h => if l2 = 0 then (some l1) else (s_X11_bitsOf_L4 n (l1 + (1 : Int32)) (l2 &&& (l2 - (1 : Int32))) h)
set_option maxRecDepth 100000 in
theorem s_X11_bitsOf_L4_ok (d : Nat) (ρ : Nat → Nat → Option zF) (hρ : zSh ρ) : ∀ (n : Nat) (l1 : Int32) (l2 : Int32) (h : zH) (res : Int32) (hR : zRq h ρ) (e : s_X11_bitsOf_L4  n l1 l2 h = some res), zwp d zm_X11_bitsOf 4 [none, some (zi l1), some (zi l2)] [] h (zQp h res) := by
  intro n
  induction n with
  | zero => intro l1 l2 h res hR e; cases e
  | succ n ih =>
    intro l1 l2 h res hR e
    rw [s_X11_bitsOf_L4] at e
    refine zwp.go (m := 1) (j := 5) (ls' := [none, some (zi l1), some (zi l2)]) (st' := [zi l2]) (h' := h) rfl ?_
    refine zb_if (j := 14) (j2 := 6) e rfl (fun e => ?_) (fun e => ?_)
    · refine zwp.go (m := 1) (j := 15) (ls' := [none, some (zi l1), some (zi l2)]) (st' := [zi l1]) (h' := h) rfl ?_
      cases e
      exact zwp.ret rfl rfl ⟨rfl, rfl⟩
    · refine zwp.go (m := 8) (j := 4) (ls' := [none, some (zi (l1 + (1 : Int32))), some (zi (l2 &&& (l2 - (1 : Int32))))]) (st' := []) (h' := h) rfl ?_
      exact ih (l1 + (1 : Int32)) (l2 &&& (l2 - (1 : Int32))) h _ hR e
def s_X11_bitsOf (a0 : Int32) (h : zH) : Option (Int32) := s_X11_bitsOf_L4 zfu (0 : Int32) a0 h
set_option maxRecDepth 100000 in
theorem s_X11_bitsOf_ok (d : Nat) (ρ : Nat → Nat → Option zF) (hρ : zSh ρ) (a0 : Int32) (h : zH) (res : Int32) (hR : zRq h ρ) (e : s_X11_bitsOf a0 h = some res) : zcl d 204 [zi a0] h (zQp h res) := by
  rw [s_X11_bitsOf] at e
  refine ⟨zm_X11_bitsOf, rfl, ?_⟩
  show zwp d zm_X11_bitsOf 0 [some (zi a0), none, none] [] h _
  refine zwp.go (m := 4) (j := 4) (ls' := [some (zi a0), some (zi (0 : Int32)), some (zi a0)]) (st' := []) (h' := h) rfl ?_
  refine zwp.fg (a := [none, some (zi (0 : Int32)), some (zi a0)]) (And.intro rfl (And.intro rfl trivial)) ?_
  exact s_X11_bitsOf_L4_ok d ρ hρ zfu (0 : Int32) a0 h _ hR e
def s_X11_widest_L10 : Nat → Int32 → Int32 → zH → Option (Int32 × zH)
  | 0, _, _, _ => none
  | n + 1, l1, l2, h => if (zI h 52 46) ≤ l2 then (some (l1, h)) else (if l1 = (-1 : Int32) then (s_X11_widest_L10 n (l2 + (1 : Int32)) (l2 + (1 : Int32)) h) else (zix l2 60 fun i1 => (s_X11_bitsOf (zI h 73 i1) h).bind fun v2 => zix (l1 - (1 : Int32)) 60 fun i3 => (s_X11_bitsOf (zI h 73 i3) h).bind fun v4 => if v4 ≤ v2 then (s_X11_widest_L10 n l1 (l2 + (1 : Int32)) h) else (s_X11_widest_L10 n (l2 + (1 : Int32)) (l2 + (1 : Int32)) h)))
set_option maxRecDepth 100000 in
theorem s_X11_widest_L10_ok (d : Nat) (ρ : Nat → Nat → Option zF) (hρ : zSh ρ) : ∀ (n : Nat) (l1 : Int32) (l2 : Int32) (h : zH) (res : Int32 × zH) (hR : zRq h ρ) (e : s_X11_widest_L10  n l1 l2 h = some res), zwp (d + 6) zm_X11_widest 10 [some (zr ((52, 11, 0) : zF)), some (zi l1), some (zi l2)] [] h (zQi ρ res) := by
  intro n
  induction n with
  | zero => intro l1 l2 h res hR e; cases e
  | succ n ih =>
    intro l1 l2 h res hR e
    rw [s_X11_widest_L10] at e
    refine zwp.go (m := 3) (j := 13) (ls' := [some (zr ((52, 11, 0) : zF)), some (zi l1), some (zi l2)]) (st' := [zi (zI h 52 46), zi l2]) (h' := h) rfl ?_
    refine zb_if (j := 36) (j2 := 14) e rfl (fun e => ?_) (fun e => ?_)
    · refine zwp.go (m := 1) (j := 37) (ls' := [some (zr ((52, 11, 0) : zF)), some (zi l1), some (zi l2)]) (st' := [zi l1]) (h' := h) rfl ?_
      cases e
      exact zwp.ret rfl rfl ⟨⟨rfl, rfl⟩, hR⟩
    · refine zwp.go (m := 2) (j := 16) (ls' := [some (zr ((52, 11, 0) : zF)), some (zi l1), some (zi l2)]) (st' := [zi (-1 : Int32), zi l1]) (h' := h) rfl ?_
      refine zb_if (j := 30) (j2 := 17) e rfl (fun e => ?_) (fun e => ?_)
      · refine zwp.go (m := 6) (j := 10) (ls' := [some (zr ((52, 11, 0) : zF)), some (zi (l2 + (1 : Int32))), some (zi (l2 + (1 : Int32)))]) (st' := []) (h' := h) rfl ?_
        exact ih (l2 + (1 : Int32)) (l2 + (1 : Int32)) h _ hR e
      · refine zwp.go (m := 1) (j := 18) (ls' := [some (zr ((52, 11, 0) : zF)), some (zi l1), some (zi l2)]) (st' := [zr ((52, 11, 0) : zF)]) (h' := h) rfl ?_
        refine zc_sr (r := ((73, 20, 60) : zF)) (zrf (a := 52) (y := 44) hR rfl (hρ 52 44 rfl)) rfl ?_
        refine zwp.go (m := 1) (j := 20) (ls' := [some (zr ((52, 11, 0) : zF)), some (zi l1), some (zi l2)]) (st' := [zi l2, zr ((73, 20, 60) : zF)]) (h' := h) rfl ?_
        refine zc_ai e (fun _ => rfl) (fun i1 e => ?_)
        refine zc_cp (d := d + 5) e (fun q e => s_X11_bitsOf_ok (d + 5) ρ hρ (zI h 73 i1) h q hR e) rfl rfl (fun v2 e => ?_)
        refine zwp.go (m := 1) (j := 23) (ls' := [some (zr ((52, 11, 0) : zF)), some (zi l1), some (zi l2)]) (st' := [zr ((52, 11, 0) : zF), zi v2]) (h' := h) rfl ?_
        refine zc_sr (r := ((73, 20, 60) : zF)) (zrf (a := 52) (y := 44) hR rfl (hρ 52 44 rfl)) rfl ?_
        refine zwp.go (m := 3) (j := 27) (ls' := [some (zr ((52, 11, 0) : zF)), some (zi l1), some (zi l2)]) (st' := [zi (l1 - (1 : Int32)), zr ((73, 20, 60) : zF), zi v2]) (h' := h) rfl ?_
        refine zc_ai e (fun _ => rfl) (fun i3 e => ?_)
        refine zc_cp (d := d + 5) e (fun q e => s_X11_bitsOf_ok (d + 5) ρ hρ (zI h 73 i3) h q hR e) rfl rfl (fun v4 e => ?_)
        refine zb_if (j := 34) (j2 := 30) e rfl (fun e => ?_) (fun e => ?_)
        · refine zwp.go (m := 2) (j := 10) (ls' := [some (zr ((52, 11, 0) : zF)), some (zi l1), some (zi (l2 + (1 : Int32)))]) (st' := []) (h' := h) rfl ?_
          exact ih l1 (l2 + (1 : Int32)) h _ hR e
        · refine zwp.go (m := 6) (j := 10) (ls' := [some (zr ((52, 11, 0) : zF)), some (zi (l2 + (1 : Int32))), some (zi (l2 + (1 : Int32)))]) (st' := []) (h' := h) rfl ?_
          exact ih (l2 + (1 : Int32)) (l2 + (1 : Int32)) h _ hR e
def s_X11_widest (h : zH) : Option (Int32 × zH) := zlt (zwI h 52 4 (0 : Int32)) fun h1 => (s_X11_tellSails (60 : Int32) h1).bind fun h2 => s_X11_widest_L10 zfu (-1 : Int32) (0 : Int32) h2
set_option maxRecDepth 100000 in
theorem s_X11_widest_ok (d : Nat) (ρ : Nat → Nat → Option zF) (hρ : zSh ρ) (h : zH) (res : Int32 × zH) (hR : zRq h ρ) (e : s_X11_widest  h = some res) : zcl (d + 6) 205 [zr ((52, 11, 0) : zF)] h (zQi ρ res) := by
  rw [s_X11_widest] at e
  refine ⟨zm_X11_widest, rfl, ?_⟩
  show zwp (d + 6) zm_X11_widest 0 [some (zr ((52, 11, 0) : zF)), none, none] [] h _
  refine zwp.go (m := 2) (j := 2) (ls' := [some (zr ((52, 11, 0) : zF)), none, none]) (st' := [zi (0 : Int32), zr ((52, 11, 0) : zF)]) (h' := h) rfl ?_
  refine zc_w e rfl hR (fun h1 hR1 e => ?_)
  refine zwp.go (m := 2) (j := 5) (ls' := [some (zr ((52, 11, 0) : zF)), none, none]) (st' := [zi (60 : Int32), zr ((52, 11, 0) : zF)]) (h' := h1) rfl ?_
  refine zc_cv (d := d + 5) e (fun q e => s_X11_tellSails_ok (d + 0) ρ hρ (60 : Int32) h1 q hR1 e) rfl rfl (fun h2 hR2 e => ?_)
  refine zwp.go (m := 4) (j := 10) (ls' := [some (zr ((52, 11, 0) : zF)), some (zi (-1 : Int32)), some (zi (0 : Int32))]) (st' := []) (h' := h2) rfl ?_
  exact s_X11_widest_L10_ok d ρ hρ zfu (-1 : Int32) (0 : Int32) h2 _ hR2 e
def s_X1_firstFall_L6 : Nat → Int32 → Int32 → Int32 → Int32 → zH → Option (Int32)
  | 0, _, _, _, _, _ => none
  | n + 1, l1, l2, l3, l4, h => if l1 ≤ l4 then (some l2) else (zix l4 12 fun i1 => if (zI h 43 i1) ≤ 0 then (s_X1_firstFall_L6 n l1 l2 l3 (l4 + (1 : Int32)) h) else (zix l4 12 fun i2 => if l3 ≤ (zI h 43 i2) then (s_X1_firstFall_L6 n l1 l2 l3 (l4 + (1 : Int32)) h) else (zix l4 12 fun i3 => s_X1_firstFall_L6 n l1 l4 (zI h 43 i3) (l4 + (1 : Int32)) h)))
set_option maxRecDepth 100000 in
theorem s_X1_firstFall_L6_ok (d : Nat) (ρ : Nat → Nat → Option zF) (hρ : zSh ρ) : ∀ (n : Nat) (l1 : Int32) (l2 : Int32) (l3 : Int32) (l4 : Int32) (h : zH) (res : Int32) (hR : zRq h ρ) (e : s_X1_firstFall_L6  n l1 l2 l3 l4 h = some res), zwp d zm_X1_firstFall 6 [some (zr ((39, 1, 0) : zF)), some (zi l1), some (zi l2), some (zi l3), some (zi l4)] [] h (zQp h res) := by
  intro n
  induction n with
  | zero => intro l1 l2 l3 l4 h res hR e; cases e
  | succ n ih =>
    intro l1 l2 l3 l4 h res hR e
    rw [s_X1_firstFall_L6] at e
    refine zwp.go (m := 2) (j := 8) (ls' := [some (zr ((39, 1, 0) : zF)), some (zi l1), some (zi l2), some (zi l3), some (zi l4)]) (st' := [zi l1, zi l4]) (h' := h) rfl ?_
    refine zb_if (j := 29) (j2 := 9) e rfl (fun e => ?_) (fun e => ?_)
    · refine zwp.go (m := 1) (j := 30) (ls' := [some (zr ((39, 1, 0) : zF)), some (zi l1), some (zi l2), some (zi l3), some (zi l4)]) (st' := [zi l2]) (h' := h) rfl ?_
      cases e
      exact zwp.ret rfl rfl ⟨rfl, rfl⟩
    · refine zwp.go (m := 1) (j := 10) (ls' := [some (zr ((39, 1, 0) : zF)), some (zi l1), some (zi l2), some (zi l3), some (zi l4)]) (st' := [zr ((39, 1, 0) : zF)]) (h' := h) rfl ?_
      refine zc_sr (r := ((43, 20, 12) : zF)) (zrf (a := 39) (y := 3) hR rfl (hρ 39 3 rfl)) rfl ?_
      refine zwp.go (m := 1) (j := 12) (ls' := [some (zr ((39, 1, 0) : zF)), some (zi l1), some (zi l2), some (zi l3), some (zi l4)]) (st' := [zi l4, zr ((43, 20, 12) : zF)]) (h' := h) rfl ?_
      refine zc_ai e (fun _ => rfl) (fun i1 e => ?_)
      refine zb_if (j := 27) (j2 := 14) e rfl (fun e => ?_) (fun e => ?_)
      · refine zwp.go (m := 2) (j := 6) (ls' := [some (zr ((39, 1, 0) : zF)), some (zi l1), some (zi l2), some (zi l3), some (zi (l4 + (1 : Int32)))]) (st' := []) (h' := h) rfl ?_
        exact ih l1 l2 l3 (l4 + (1 : Int32)) h _ hR e
      · refine zwp.go (m := 1) (j := 15) (ls' := [some (zr ((39, 1, 0) : zF)), some (zi l1), some (zi l2), some (zi l3), some (zi l4)]) (st' := [zr ((39, 1, 0) : zF)]) (h' := h) rfl ?_
        refine zc_sr (r := ((43, 20, 12) : zF)) (zrf (a := 39) (y := 3) hR rfl (hρ 39 3 rfl)) rfl ?_
        refine zwp.go (m := 1) (j := 17) (ls' := [some (zr ((39, 1, 0) : zF)), some (zi l1), some (zi l2), some (zi l3), some (zi l4)]) (st' := [zi l4, zr ((43, 20, 12) : zF)]) (h' := h) rfl ?_
        refine zc_ai e (fun _ => rfl) (fun i2 e => ?_)
        refine zwp.go (m := 1) (j := 19) (ls' := [some (zr ((39, 1, 0) : zF)), some (zi l1), some (zi l2), some (zi l3), some (zi l4)]) (st' := [zi l3, zi (zI h 43 i2)]) (h' := h) rfl ?_
        refine zb_if (j := 27) (j2 := 20) e rfl (fun e => ?_) (fun e => ?_)
        · refine zwp.go (m := 2) (j := 6) (ls' := [some (zr ((39, 1, 0) : zF)), some (zi l1), some (zi l2), some (zi l3), some (zi (l4 + (1 : Int32)))]) (st' := []) (h' := h) rfl ?_
          exact ih l1 l2 l3 (l4 + (1 : Int32)) h _ hR e
        · refine zwp.go (m := 1) (j := 21) (ls' := [some (zr ((39, 1, 0) : zF)), some (zi l1), some (zi l2), some (zi l3), some (zi l4)]) (st' := [zr ((39, 1, 0) : zF)]) (h' := h) rfl ?_
          refine zc_sr (r := ((43, 20, 12) : zF)) (zrf (a := 39) (y := 3) hR rfl (hρ 39 3 rfl)) rfl ?_
          refine zwp.go (m := 1) (j := 23) (ls' := [some (zr ((39, 1, 0) : zF)), some (zi l1), some (zi l2), some (zi l3), some (zi l4)]) (st' := [zi l4, zr ((43, 20, 12) : zF)]) (h' := h) rfl ?_
          refine zc_ai e (fun _ => rfl) (fun i3 e => ?_)
          refine zwp.go (m := 5) (j := 6) (ls' := [some (zr ((39, 1, 0) : zF)), some (zi l1), some (zi l4), some (zi (zI h 43 i3)), some (zi (l4 + (1 : Int32)))]) (st' := []) (h' := h) rfl ?_
          exact ih l1 l4 (zI h 43 i3) (l4 + (1 : Int32)) h _ hR e
def s_X1_firstFall (a1 : Int32) (h : zH) : Option (Int32) := s_X1_firstFall_L6 zfu a1 (-1 : Int32) (61 : Int32) (0 : Int32) h
set_option maxRecDepth 100000 in
theorem s_X1_firstFall_ok (d : Nat) (ρ : Nat → Nat → Option zF) (hρ : zSh ρ) (a1 : Int32) (h : zH) (res : Int32) (hR : zRq h ρ) (e : s_X1_firstFall a1 h = some res) : zcl d 206 [zr ((39, 1, 0) : zF), zi a1] h (zQp h res) := by
  rw [s_X1_firstFall] at e
  refine ⟨zm_X1_firstFall, rfl, ?_⟩
  show zwp d zm_X1_firstFall 0 [some (zr ((39, 1, 0) : zF)), some (zi a1), none, none, none] [] h _
  refine zwp.go (m := 6) (j := 6) (ls' := [some (zr ((39, 1, 0) : zF)), some (zi a1), some (zi (-1 : Int32)), some (zi (61 : Int32)), some (zi (0 : Int32))]) (st' := []) (h' := h) rfl ?_
  exact s_X1_firstFall_L6_ok d ρ hρ zfu a1 (-1 : Int32) (61 : Int32) (0 : Int32) h _ hR e
def s_X1_lastFall_J21 (k6 : (Int32 → Int32 → Int32 → Int32 → zH → Option (Int32))) (l1 : Int32) (l2 : Int32) (l3 : Int32) (l4 : Int32) (s0 : Int32) (h : zH) : Option (Int32) := if s0 ≤ l3 then (k6 l1 l2 l3 (l4 + (1 : Int32)) h) else (k6 l1 l4 s0 (l4 + (1 : Int32)) h)
set_option maxRecDepth 100000 in
theorem s_X1_lastFall_J21_ok (d : Nat) (ρ : Nat → Nat → Option zF) (hρ : zSh ρ) (k6 : (Int32 → Int32 → Int32 → Int32 → zH → Option (Int32))) (hk6 : ∀ l1 l2 l3 l4 h res, zRq h ρ → k6 l1 l2 l3 l4 h = some res → zwp d zm_X1_lastFall 6 [some (zr ((39, 1, 0) : zF)), some (zi l1), some (zi l2), some (zi l3), some (zi l4), none] [] h (zQp h res)) (l1 : Int32) (l2 : Int32) (l3 : Int32) (l4 : Int32) (s0 : Int32) (h : zH) (res : Int32) (hR : zRq h ρ) (e : s_X1_lastFall_J21 k6 l1 l2 l3 l4 s0 h = some res) : zwp d zm_X1_lastFall 21 [some (zr ((39, 1, 0) : zF)), some (zi l1), some (zi l2), some (zi l3), some (zi l4), none] [zi s0] h (zQp h res) := by
  rw [s_X1_lastFall_J21] at e
  refine zwp.go (m := 3) (j := 24) (ls' := [some (zr ((39, 1, 0) : zF)), some (zi l1), some (zi l2), some (zi l3), some (zi l4), some (zi s0)]) (st' := [zi l3, zi s0]) (h' := h) rfl ?_
  refine zb_if (j := 29) (j2 := 25) e rfl (fun e => ?_) (fun e => ?_)
  · refine zwp.go (m := 2) (j := 6) (ls' := [some (zr ((39, 1, 0) : zF)), some (zi l1), some (zi l2), some (zi l3), some (zi (l4 + (1 : Int32))), some (zi s0)]) (st' := []) (h' := h) rfl ?_
    refine zwp.fg (a := [some (zr ((39, 1, 0) : zF)), some (zi l1), some (zi l2), some (zi l3), some (zi (l4 + (1 : Int32))), none]) (And.intro rfl (And.intro rfl (And.intro rfl (And.intro rfl (And.intro rfl trivial))))) ?_
    exact hk6 l1 l2 l3 (l4 + (1 : Int32)) h _ hR e
  · refine zwp.go (m := 6) (j := 6) (ls' := [some (zr ((39, 1, 0) : zF)), some (zi l1), some (zi l4), some (zi s0), some (zi (l4 + (1 : Int32))), some (zi s0)]) (st' := []) (h' := h) rfl ?_
    refine zwp.fg (a := [some (zr ((39, 1, 0) : zF)), some (zi l1), some (zi l4), some (zi s0), some (zi (l4 + (1 : Int32))), none]) (And.intro rfl (And.intro rfl (And.intro rfl (And.intro rfl (And.intro rfl trivial))))) ?_
    exact hk6 l1 l4 s0 (l4 + (1 : Int32)) h _ hR e
def s_X1_lastFall_L6 : Nat → Int32 → Int32 → Int32 → Int32 → zH → Option (Int32)
  | 0, _, _, _, _, _ => none
  | n + 1, l1, l2, l3, l4, h => if l1 ≤ l4 then (some l2) else (zix l4 12 fun i1 => if ¬ (zI h 43 i1) = (-1 : Int32) then (zix l4 12 fun i2 => s_X1_lastFall_J21 (s_X1_lastFall_L6 n) l1 l2 l3 l4 (zI h 43 i2) h) else (s_X1_lastFall_J21 (s_X1_lastFall_L6 n) l1 l2 l3 l4 (61 : Int32) h))
set_option maxRecDepth 100000 in
theorem s_X1_lastFall_L6_ok (d : Nat) (ρ : Nat → Nat → Option zF) (hρ : zSh ρ) : ∀ (n : Nat) (l1 : Int32) (l2 : Int32) (l3 : Int32) (l4 : Int32) (h : zH) (res : Int32) (hR : zRq h ρ) (e : s_X1_lastFall_L6  n l1 l2 l3 l4 h = some res), zwp d zm_X1_lastFall 6 [some (zr ((39, 1, 0) : zF)), some (zi l1), some (zi l2), some (zi l3), some (zi l4), none] [] h (zQp h res) := by
  intro n
  induction n with
  | zero => intro l1 l2 l3 l4 h res hR e; cases e
  | succ n ih =>
    intro l1 l2 l3 l4 h res hR e
    rw [s_X1_lastFall_L6] at e
    refine zwp.go (m := 2) (j := 8) (ls' := [some (zr ((39, 1, 0) : zF)), some (zi l1), some (zi l2), some (zi l3), some (zi l4), none]) (st' := [zi l1, zi l4]) (h' := h) rfl ?_
    refine zb_if (j := 31) (j2 := 9) e rfl (fun e => ?_) (fun e => ?_)
    · refine zwp.go (m := 1) (j := 32) (ls' := [some (zr ((39, 1, 0) : zF)), some (zi l1), some (zi l2), some (zi l3), some (zi l4), none]) (st' := [zi l2]) (h' := h) rfl ?_
      cases e
      exact zwp.ret rfl rfl ⟨rfl, rfl⟩
    · refine zwp.go (m := 1) (j := 10) (ls' := [some (zr ((39, 1, 0) : zF)), some (zi l1), some (zi l2), some (zi l3), some (zi l4), none]) (st' := [zr ((39, 1, 0) : zF)]) (h' := h) rfl ?_
      refine zc_sr (r := ((43, 20, 12) : zF)) (zrf (a := 39) (y := 3) hR rfl (hρ 39 3 rfl)) rfl ?_
      refine zwp.go (m := 1) (j := 12) (ls' := [some (zr ((39, 1, 0) : zF)), some (zi l1), some (zi l2), some (zi l3), some (zi l4), none]) (st' := [zi l4, zr ((43, 20, 12) : zF)]) (h' := h) rfl ?_
      refine zc_ai e (fun _ => rfl) (fun i1 e => ?_)
      refine zwp.go (m := 1) (j := 14) (ls' := [some (zr ((39, 1, 0) : zF)), some (zi l1), some (zi l2), some (zi l3), some (zi l4), none]) (st' := [zi (-1 : Int32), zi (zI h 43 i1)]) (h' := h) rfl ?_
      refine zb_if (j := 17) (j2 := 15) e rfl (fun e => ?_) (fun e => ?_)
      · refine zwp.go (m := 1) (j := 18) (ls' := [some (zr ((39, 1, 0) : zF)), some (zi l1), some (zi l2), some (zi l3), some (zi l4), none]) (st' := [zr ((39, 1, 0) : zF)]) (h' := h) rfl ?_
        refine zc_sr (r := ((43, 20, 12) : zF)) (zrf (a := 39) (y := 3) hR rfl (hρ 39 3 rfl)) rfl ?_
        refine zwp.go (m := 1) (j := 20) (ls' := [some (zr ((39, 1, 0) : zF)), some (zi l1), some (zi l2), some (zi l3), some (zi l4), none]) (st' := [zi l4, zr ((43, 20, 12) : zF)]) (h' := h) rfl ?_
        refine zc_ai e (fun _ => rfl) (fun i2 e => ?_)
        exact s_X1_lastFall_J21_ok d ρ hρ (s_X1_lastFall_L6 n) ih l1 l2 l3 l4 (zI h 43 i2) h _ hR e
      · refine zwp.go (m := 2) (j := 21) (ls' := [some (zr ((39, 1, 0) : zF)), some (zi l1), some (zi l2), some (zi l3), some (zi l4), none]) (st' := [zi (61 : Int32)]) (h' := h) rfl ?_
        exact s_X1_lastFall_J21_ok d ρ hρ (s_X1_lastFall_L6 n) ih l1 l2 l3 l4 (61 : Int32) h _ hR e
def s_X1_lastFall (a1 : Int32) (h : zH) : Option (Int32) := s_X1_lastFall_L6 zfu a1 (-1 : Int32) (0 : Int32) (0 : Int32) h
set_option maxRecDepth 100000 in
theorem s_X1_lastFall_ok (d : Nat) (ρ : Nat → Nat → Option zF) (hρ : zSh ρ) (a1 : Int32) (h : zH) (res : Int32) (hR : zRq h ρ) (e : s_X1_lastFall a1 h = some res) : zcl d 207 [zr ((39, 1, 0) : zF), zi a1] h (zQp h res) := by
  rw [s_X1_lastFall] at e
  refine ⟨zm_X1_lastFall, rfl, ?_⟩
  show zwp d zm_X1_lastFall 0 [some (zr ((39, 1, 0) : zF)), some (zi a1), none, none, none, none] [] h _
  refine zwp.go (m := 6) (j := 6) (ls' := [some (zr ((39, 1, 0) : zF)), some (zi a1), some (zi (-1 : Int32)), some (zi (0 : Int32)), some (zi (0 : Int32)), none]) (st' := []) (h' := h) rfl ?_
  exact s_X1_lastFall_L6_ok d ρ hρ zfu a1 (-1 : Int32) (0 : Int32) (0 : Int32) h _ hR e
def s_X10_fall (pp : Nat) (a1 : Int32) (h : zH) : Option ((Int32 ⊕ Nat) × zH) := zbx (s_X10_needWhat pp a1 (2 : Int32) h) (fun _ h2 => (s_X10_foresee pp h2).bind fun h3 => if ¬ a1 = 0 then ((s_X1_lastFall (zI h3 pp 6) h3).bind fun v4 => some (Sum.inl v4, h3)) else ((s_X1_firstFall (zI h3 pp 6) h3).bind fun v5 => some (Sum.inl v5, h3))) (fun x h1 => some (Sum.inr x, h1))
set_option maxRecDepth 100000 in
theorem s_X10_fall_ok (d : Nat) (ρ : Nat → Nat → Option zF) (hρ : zSh ρ) (pp : Nat) (a1 : Int32) (hpp : ρ 0 3 = some (pp, 3, 0) ∧ zPlS ρ pp) (h : zH) (res : (Int32 ⊕ Nat) × zH) (hR : zRq h ρ) (e : s_X10_fall pp a1 h = some res) : zcl (d + 6) 208 [zr ((0, 10, 0) : zF), zi a1] h (zQx ρ res) := by
  rw [s_X10_fall] at e
  refine ⟨zm_X10_fall, rfl, ?_⟩
  show zwp (d + 6) zm_X10_fall 0 [some (zr ((0, 10, 0) : zF)), some (zi a1)] [] h _
  refine zwp.go (m := 3) (j := 3) (ls' := [some (zr ((0, 10, 0) : zF)), some (zi a1)]) (st' := [zi (2 : Int32), zi a1, zr ((0, 10, 0) : zF)]) (h' := h) rfl ?_
  refine zc_cu (d := d + 5) e (fun q e => s_X10_needWhat_ok (d + 5) ρ hρ pp a1 (2 : Int32) hpp h q hR e) rfl rfl (fun h2 hR2 e => ?_) (fun x h1 hR1 e => ?_)
  · refine zwp.go (m := 1) (j := 5) (ls' := [some (zr ((0, 10, 0) : zF)), some (zi a1)]) (st' := [zr ((0, 10, 0) : zF)]) (h' := h2) rfl ?_
    refine zc_cv (d := d + 5) e (fun q e => s_X10_foresee_ok (d + 0) ρ hρ pp hpp h2 q hR2 e) rfl rfl (fun h3 hR3 e => ?_)
    refine zwp.go (m := 1) (j := 7) (ls' := [some (zr ((0, 10, 0) : zF)), some (zi a1)]) (st' := [zi a1]) (h' := h3) rfl ?_
    refine zb_if (j := 15) (j2 := 8) e rfl (fun e => ?_) (fun e => ?_)
    · refine zwp.go (m := 1) (j := 16) (ls' := [some (zr ((0, 10, 0) : zF)), some (zi a1)]) (st' := [zr ((0, 10, 0) : zF)]) (h' := h3) rfl ?_
      refine zc_sr (r := ((39, 1, 0) : zF)) (zrf (a := 0) (y := 11) hR3 rfl (hρ 0 11 rfl)) rfl ?_
      refine zwp.go (m := 1) (j := 18) (ls' := [some (zr ((0, 10, 0) : zF)), some (zi a1)]) (st' := [zr ((0, 10, 0) : zF), zr ((39, 1, 0) : zF)]) (h' := h3) rfl ?_
      refine zc_sr (r := ((pp, 3, 0) : zF)) (zrf (a := 0) (y := 3) hR3 rfl hpp.1) rfl ?_
      refine zwp.go (m := 1) (j := 20) (ls' := [some (zr ((0, 10, 0) : zF)), some (zi a1)]) (st' := [zi (zI h3 pp 6), zr ((39, 1, 0) : zF)]) (h' := h3) rfl ?_
      refine zc_cp (d := d + 5) e (fun q e => s_X1_lastFall_ok (d + 5) ρ hρ (zI h3 pp 6) h3 q hR3 e) rfl rfl (fun v4 e => ?_)
      cases e
      exact zwp.ret rfl rfl ⟨⟨rfl, rfl⟩, hR3⟩
    · refine zwp.go (m := 1) (j := 9) (ls' := [some (zr ((0, 10, 0) : zF)), some (zi a1)]) (st' := [zr ((0, 10, 0) : zF)]) (h' := h3) rfl ?_
      refine zc_sr (r := ((39, 1, 0) : zF)) (zrf (a := 0) (y := 11) hR3 rfl (hρ 0 11 rfl)) rfl ?_
      refine zwp.go (m := 1) (j := 11) (ls' := [some (zr ((0, 10, 0) : zF)), some (zi a1)]) (st' := [zr ((0, 10, 0) : zF), zr ((39, 1, 0) : zF)]) (h' := h3) rfl ?_
      refine zc_sr (r := ((pp, 3, 0) : zF)) (zrf (a := 0) (y := 3) hR3 rfl hpp.1) rfl ?_
      refine zwp.go (m := 1) (j := 13) (ls' := [some (zr ((0, 10, 0) : zF)), some (zi a1)]) (st' := [zi (zI h3 pp 6), zr ((39, 1, 0) : zF)]) (h' := h3) rfl ?_
      refine zc_cp (d := d + 5) e (fun q e => s_X1_firstFall_ok (d + 5) ρ hρ (zI h3 pp 6) h3 q hR3 e) rfl rfl (fun v5 e => ?_)
      refine zwp.go (m := 1) (j := 21) (ls' := [some (zr ((0, 10, 0) : zF)), some (zi a1)]) (st' := [zi v5]) (h' := h3) rfl ?_
      cases e
      exact zwp.ret rfl rfl ⟨⟨rfl, rfl⟩, hR3⟩
  · cases e
    exact ⟨rfl, ⟨⟨rfl, rfl⟩, hR1⟩⟩
