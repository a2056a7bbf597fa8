/-! ===== methods as functions, 1 ===== -/
def s_X3_clear (a0 : Nat) (h : zH) : Option (zH) := zlt (zwI h (a0 + 3) 0 (3 : Int32)) fun h1 => zlt (zwI h1 (a0 + 3) 1 (3 : Int32)) fun h2 => zlt (zwI h2 (a0 + 5) 0 (0 : Int32)) fun h3 => zlt (zwI h3 (a0 + 6) 0 (0 : Int32)) fun h4 => zlt (zwI h4 a0 6 (0 : Int32)) fun h5 => zlt (zwI h5 a0 7 (0 : Int32)) fun h6 => zlt (zwI h6 a0 8 (0 : Int32)) fun h7 => zlt (zwI h7 a0 9 (0 : Int32)) fun h8 => zlt (zwI h8 a0 10 (0 : Int32)) fun h9 => some h9
theorem s_X3_clear_ok (d : Nat) (ρ : Nat → Nat → Option zF) (hρ : zSh ρ) (a0 : Nat) (ha0 : zPlS ρ a0) (h : zH) (res : zH) (hR : zRq h ρ) (e : s_X3_clear a0 h = some res) : zcl d 1 [zr ((a0, 3, 0) : zF)] h (zQv ρ res) := by
  rw [s_X3_clear] at e
  refine ⟨zm_X3_clear, rfl, ?_⟩
  show zwp d zm_X3_clear 0 [some (zr ((a0, 3, 0) : zF))] [] h _
  refine zwp.go (m := 1) (j := 1) (ls' := [some (zr ((a0, 3, 0) : zF))]) (st' := [zr ((a0, 3, 0) : zF)]) (h' := h) rfl ?_
  refine zc_sr (r := (((a0 + 3), 20, 2) : zF)) (zrf (a := a0) (y := 2) hR rfl ha0.2.2.2.1) rfl ?_
  refine zwp.go (m := 2) (j := 4) (ls' := [some (zr ((a0, 3, 0) : zF))]) (st' := [zi (3 : Int32), zi (0 : Int32), zr (((a0 + 3), 20, 2) : zF)]) (h' := h) rfl ?_
  refine zc_w e rfl hR (fun h1 hR1 e => ?_)
  refine zwp.go (m := 1) (j := 6) (ls' := [some (zr ((a0, 3, 0) : zF))]) (st' := [zr ((a0, 3, 0) : zF)]) (h' := h1) rfl ?_
  refine zc_sr (r := (((a0 + 3), 20, 2) : zF)) (zrf (a := a0) (y := 2) hR1 rfl ha0.2.2.2.1) rfl ?_
  refine zwp.go (m := 2) (j := 9) (ls' := [some (zr ((a0, 3, 0) : zF))]) (st' := [zi (3 : Int32), zi (1 : Int32), zr (((a0 + 3), 20, 2) : zF)]) (h' := h1) rfl ?_
  refine zc_w e rfl hR1 (fun h2 hR2 e => ?_)
  refine zwp.go (m := 1) (j := 11) (ls' := [some (zr ((a0, 3, 0) : zF))]) (st' := [zr ((a0, 3, 0) : zF)]) (h' := h2) rfl ?_
  refine zc_sr (r := (((a0 + 5), 5, 0) : zF)) (zrf (a := a0) (y := 4) hR2 rfl ha0.2.2.2.2.2.1) rfl ?_
  refine zwp.go (m := 1) (j := 13) (ls' := [some (zr ((a0, 3, 0) : zF))]) (st' := [zi (0 : Int32), zr (((a0 + 5), 5, 0) : zF)]) (h' := h2) rfl ?_
  refine zc_w e rfl hR2 (fun h3 hR3 e => ?_)
  refine zwp.go (m := 1) (j := 15) (ls' := [some (zr ((a0, 3, 0) : zF))]) (st' := [zr ((a0, 3, 0) : zF)]) (h' := h3) rfl ?_
  refine zc_sr (r := (((a0 + 6), 5, 0) : zF)) (zrf (a := a0) (y := 5) hR3 rfl ha0.2.2.2.2.2.2) rfl ?_
  refine zwp.go (m := 1) (j := 17) (ls' := [some (zr ((a0, 3, 0) : zF))]) (st' := [zi (0 : Int32), zr (((a0 + 6), 5, 0) : zF)]) (h' := h3) rfl ?_
  refine zc_w e rfl hR3 (fun h4 hR4 e => ?_)
  refine zwp.go (m := 2) (j := 20) (ls' := [some (zr ((a0, 3, 0) : zF))]) (st' := [zi (0 : Int32), zr ((a0, 3, 0) : zF)]) (h' := h4) rfl ?_
  refine zc_w e rfl hR4 (fun h5 hR5 e => ?_)
  refine zwp.go (m := 2) (j := 23) (ls' := [some (zr ((a0, 3, 0) : zF))]) (st' := [zi (0 : Int32), zr ((a0, 3, 0) : zF)]) (h' := h5) rfl ?_
  refine zc_w e rfl hR5 (fun h6 hR6 e => ?_)
  refine zwp.go (m := 2) (j := 26) (ls' := [some (zr ((a0, 3, 0) : zF))]) (st' := [zi (0 : Int32), zr ((a0, 3, 0) : zF)]) (h' := h6) rfl ?_
  refine zc_w e rfl hR6 (fun h7 hR7 e => ?_)
  refine zwp.go (m := 2) (j := 29) (ls' := [some (zr ((a0, 3, 0) : zF))]) (st' := [zi (0 : Int32), zr ((a0, 3, 0) : zF)]) (h' := h7) rfl ?_
  refine zc_w e rfl hR7 (fun h8 hR8 e => ?_)
  refine zwp.go (m := 2) (j := 32) (ls' := [some (zr ((a0, 3, 0) : zF))]) (st' := [zi (0 : Int32), zr ((a0, 3, 0) : zF)]) (h' := h8) rfl ?_
  refine zc_w e rfl hR8 (fun h9 hR9 e => ?_)
  cases e
  exact zwp.rv rfl ⟨⟨rfl, rfl⟩, hR9⟩
def s_X8_beginSail (a0 : Nat) (h : zH) : Option (zH) := zlt (zwI h (a0 + 3) 0 (0 : Int32)) fun h1 => zlt (zwI h1 (a0 + 3) 1 (0 : Int32)) fun h2 => zlt (zwI h2 a0 5 (0 : Int32)) fun h3 => some h3
theorem s_X8_beginSail_ok (d : Nat) (ρ : Nat → Nat → Option zF) (hρ : zSh ρ) (a0 : Nat) (ha0 : zStS ρ a0) (h : zH) (res : zH) (hR : zRq h ρ) (e : s_X8_beginSail a0 h = some res) : zcl d 11 [zr ((a0, 8, 0) : zF)] h (zQv ρ res) := by
  rw [s_X8_beginSail] at e
  refine ⟨zm_X8_beginSail, rfl, ?_⟩
  show zwp d zm_X8_beginSail 0 [some (zr ((a0, 8, 0) : zF))] [] h _
  refine zwp.go (m := 1) (j := 1) (ls' := [some (zr ((a0, 8, 0) : zF))]) (st' := [zr ((a0, 8, 0) : zF)]) (h' := h) rfl ?_
  refine zc_sr (r := (((a0 + 3), 20, 2) : zF)) (zrf (a := a0) (y := 2) hR rfl ha0.2.2.2.1) rfl ?_
  refine zwp.go (m := 2) (j := 4) (ls' := [some (zr ((a0, 8, 0) : zF))]) (st' := [zi (0 : Int32), zi (0 : Int32), zr (((a0 + 3), 20, 2) : zF)]) (h' := h) rfl ?_
  refine zc_w e rfl hR (fun h1 hR1 e => ?_)
  refine zwp.go (m := 1) (j := 6) (ls' := [some (zr ((a0, 8, 0) : zF))]) (st' := [zr ((a0, 8, 0) : zF)]) (h' := h1) rfl ?_
  refine zc_sr (r := (((a0 + 3), 20, 2) : zF)) (zrf (a := a0) (y := 2) hR1 rfl ha0.2.2.2.1) rfl ?_
  refine zwp.go (m := 2) (j := 9) (ls' := [some (zr ((a0, 8, 0) : zF))]) (st' := [zi (0 : Int32), zi (1 : Int32), zr (((a0 + 3), 20, 2) : zF)]) (h' := h1) rfl ?_
  refine zc_w e rfl hR1 (fun h2 hR2 e => ?_)
  refine zwp.go (m := 2) (j := 12) (ls' := [some (zr ((a0, 8, 0) : zF))]) (st' := [zi (0 : Int32), zr ((a0, 8, 0) : zF)]) (h' := h2) rfl ?_
  refine zc_w e rfl hR2 (fun h3 hR3 e => ?_)
  cases e
  exact zwp.rv rfl ⟨⟨rfl, rfl⟩, hR3⟩
def s_X8_begin (a0 : Nat) (a1 : Nat) (h : zH) : Option (zH) := zcq (a1 + 1) 12 (0 : Int32) (a0 + 1) 12 (0 : Int32) (12 : Int32) h fun h1 => zcq (a1 + 3) 2 (0 : Int32) (a0 + 2) 2 (0 : Int32) (2 : Int32) h1 fun h2 => (s_X8_beginSail a0 h2).bind fun h3 => zlt (zwI h3 a0 6 (0 : Int32)) fun h4 => zlt (zwI h4 a0 7 (0 : Int32)) fun h5 => zlt (zwI h5 a0 8 (0 : Int32)) fun h6 => some h6
theorem s_X8_begin_ok (d : Nat) (ρ : Nat → Nat → Option zF) (hρ : zSh ρ) (a0 : Nat) (a1 : Nat) (ha0 : zStS ρ a0) (ha1 : zPlS ρ a1) (h : zH) (res : zH) (hR : zRq h ρ) (e : s_X8_begin a0 a1 h = some res) : zcl (d + 1) 12 [zr ((a0, 8, 0) : zF), zr ((a1, 3, 0) : zF)] h (zQv ρ res) := by
  rw [s_X8_begin] at e
  refine ⟨zm_X8_begin, rfl, ?_⟩
  show zwp (d + 1) zm_X8_begin 0 [some (zr ((a0, 8, 0) : zF)), some (zr ((a1, 3, 0) : zF))] [] h _
  refine zwp.go (m := 1) (j := 1) (ls' := [some (zr ((a0, 8, 0) : zF)), some (zr ((a1, 3, 0) : zF))]) (st' := [zr ((a1, 3, 0) : zF)]) (h' := h) rfl ?_
  refine zc_sr (r := (((a1 + 1), 20, 12) : zF)) (zrf (a := a1) (y := 0) hR rfl ha1.2.1) rfl ?_
  refine zwp.go (m := 2) (j := 4) (ls' := [some (zr ((a0, 8, 0) : zF)), some (zr ((a1, 3, 0) : zF))]) (st' := [zr ((a0, 8, 0) : zF), zi (0 : Int32), zr (((a1 + 1), 20, 12) : zF)]) (h' := h) rfl ?_
  refine zc_sr (r := (((a0 + 1), 20, 12) : zF)) (zrf (a := a0) (y := 0) hR rfl ha0.2.1) rfl ?_
  refine zwp.go (m := 2) (j := 7) (ls' := [some (zr ((a0, 8, 0) : zF)), some (zr ((a1, 3, 0) : zF))]) (st' := [zi (12 : Int32), zi (0 : Int32), zr (((a0 + 1), 20, 12) : zF), zi (0 : Int32), zr (((a1 + 1), 20, 12) : zF)]) (h' := h) rfl ?_
  refine zc_cq e rfl rfl hR (fun h1 hR1 e => ?_)
  refine zwp.go (m := 1) (j := 9) (ls' := [some (zr ((a0, 8, 0) : zF)), some (zr ((a1, 3, 0) : zF))]) (st' := [zr ((a1, 3, 0) : zF)]) (h' := h1) rfl ?_
  refine zc_sr (r := (((a1 + 3), 20, 2) : zF)) (zrf (a := a1) (y := 2) hR1 rfl ha1.2.2.2.1) rfl ?_
  refine zwp.go (m := 2) (j := 12) (ls' := [some (zr ((a0, 8, 0) : zF)), some (zr ((a1, 3, 0) : zF))]) (st' := [zr ((a0, 8, 0) : zF), zi (0 : Int32), zr (((a1 + 3), 20, 2) : zF)]) (h' := h1) rfl ?_
  refine zc_sr (r := (((a0 + 2), 20, 2) : zF)) (zrf (a := a0) (y := 1) hR1 rfl ha0.2.2.1) rfl ?_
  refine zwp.go (m := 2) (j := 15) (ls' := [some (zr ((a0, 8, 0) : zF)), some (zr ((a1, 3, 0) : zF))]) (st' := [zi (2 : Int32), zi (0 : Int32), zr (((a0 + 2), 20, 2) : zF), zi (0 : Int32), zr (((a1 + 3), 20, 2) : zF)]) (h' := h1) rfl ?_
  refine zc_cq e rfl rfl hR1 (fun h2 hR2 e => ?_)
  refine zwp.go (m := 1) (j := 17) (ls' := [some (zr ((a0, 8, 0) : zF)), some (zr ((a1, 3, 0) : zF))]) (st' := [zr ((a0, 8, 0) : zF)]) (h' := h2) rfl ?_
  refine zc_cv (d := d + 0) e (fun q e => s_X8_beginSail_ok (d + 0) ρ hρ a0 ha0 h2 q hR2 e) rfl rfl (fun h3 hR3 e => ?_)
  refine zwp.go (m := 2) (j := 20) (ls' := [some (zr ((a0, 8, 0) : zF)), some (zr ((a1, 3, 0) : zF))]) (st' := [zi (0 : Int32), zr ((a0, 8, 0) : zF)]) (h' := h3) rfl ?_
  refine zc_w e rfl hR3 (fun h4 hR4 e => ?_)
  refine zwp.go (m := 2) (j := 23) (ls' := [some (zr ((a0, 8, 0) : zF)), some (zr ((a1, 3, 0) : zF))]) (st' := [zi (0 : Int32), zr ((a0, 8, 0) : zF)]) (h' := h4) rfl ?_
  refine zc_w e rfl hR4 (fun h5 hR5 e => ?_)
  refine zwp.go (m := 2) (j := 26) (ls' := [some (zr ((a0, 8, 0) : zF)), some (zr ((a1, 3, 0) : zF))]) (st' := [zi (0 : Int32), zr ((a0, 8, 0) : zF)]) (h' := h5) rfl ?_
  refine zc_w e rfl hR5 (fun h6 hR6 e => ?_)
  cases e
  exact zwp.rv rfl ⟨⟨rfl, rfl⟩, hR6⟩
def s_X2_begin (a0 : Nat) (a1 : Nat) (h : zH) : Option (zH) := (s_X8_begin (a0 + 1) a1 h).bind fun h1 => zlt (zwI h1 a0 6 (0 : Int32)) fun h2 => zlt (zwI h2 a0 7 (0 : Int32)) fun h3 => some h3
theorem s_X2_begin_ok (d : Nat) (ρ : Nat → Nat → Option zF) (hρ : zSh ρ) (a0 : Nat) (a1 : Nat) (ha0 : zLdS ρ a0) (ha1 : zPlS ρ a1) (h : zH) (res : zH) (hR : zRq h ρ) (e : s_X2_begin a0 a1 h = some res) : zcl (d + 2) 13 [zr ((a0, 2, 0) : zF), zr ((a1, 3, 0) : zF)] h (zQv ρ res) := by
  rw [s_X2_begin] at e
  refine ⟨zm_X2_begin, rfl, ?_⟩
  show zwp (d + 2) zm_X2_begin 0 [some (zr ((a0, 2, 0) : zF)), some (zr ((a1, 3, 0) : zF))] [] h _
  refine zwp.go (m := 1) (j := 1) (ls' := [some (zr ((a0, 2, 0) : zF)), some (zr ((a1, 3, 0) : zF))]) (st' := [zr ((a0, 2, 0) : zF)]) (h' := h) rfl ?_
  refine zc_sr (r := (((a0 + 1), 8, 0) : zF)) (zrf (a := a0) (y := 0) hR rfl ha0.2.1) rfl ?_
  refine zwp.go (m := 1) (j := 3) (ls' := [some (zr ((a0, 2, 0) : zF)), some (zr ((a1, 3, 0) : zF))]) (st' := [zr ((a1, 3, 0) : zF), zr (((a0 + 1), 8, 0) : zF)]) (h' := h) rfl ?_
  refine zc_cv (d := d + 1) e (fun q e => s_X8_begin_ok (d + 0) ρ hρ (a0 + 1) a1 ha0.2.2.2.2.2.2.2 ha1 h q hR e) rfl rfl (fun h1 hR1 e => ?_)
  refine zwp.go (m := 2) (j := 6) (ls' := [some (zr ((a0, 2, 0) : zF)), some (zr ((a1, 3, 0) : zF))]) (st' := [zi (0 : Int32), zr ((a0, 2, 0) : zF)]) (h' := h1) rfl ?_
  refine zc_w e rfl hR1 (fun h2 hR2 e => ?_)
  refine zwp.go (m := 2) (j := 9) (ls' := [some (zr ((a0, 2, 0) : zF)), some (zr ((a1, 3, 0) : zF))]) (st' := [zi (0 : Int32), zr ((a0, 2, 0) : zF)]) (h' := h2) rfl ?_
  refine zc_w e rfl hR2 (fun h3 hR3 e => ?_)
  cases e
  exact zwp.rv rfl ⟨⟨rfl, rfl⟩, hR3⟩
def s_X10_feedNumber_L2 (pp : Nat) : Nat → Int32 → Int32 → zH → Option (zH)
  | 0, _, _, _ => none
  | n + 1, l1, l2, h => if l2 < 0 then (some h) else (if (700 : Int32) ≤ (zI h 0 1) then (s_X10_feedNumber_L2 pp n l1 (l2 + (-8 : Int32)) h) else (zix (zI h 0 1) 700 fun i3 => zlt (zwI h 1 i3 (l1 >>> (l2 &&& 31)).toInt8.toInt32.toInt8.toInt32) fun h1 => zlt (zwI h1 0 1 ((zI h1 0 1) + (1 : Int32))) fun h2 => s_X10_feedNumber_L2 pp n l1 (l2 + (-8 : Int32)) h2))
theorem s_X10_feedNumber_L2_ok (d : Nat) (ρ : Nat → Nat → Option zF) (hρ : zSh ρ) (pp : Nat) (hpp : ρ 0 3 = some (pp, 3, 0) ∧ zPlS ρ pp) : ∀ (n : Nat) (l1 : Int32) (l2 : Int32) (h : zH) (res : zH) (hR : zRq h ρ) (e : s_X10_feedNumber_L2 pp n l1 l2 h = some res), zwp d zm_X10_feedNumber 2 [some (zr ((0, 10, 0) : zF)), some (zi l1), some (zi l2)] [] h (zQv ρ res) := by
  intro n
  induction n with
  | zero => intro l1 l2 h res hR e; cases e
  | succ n ih =>
    intro l1 l2 h res hR e
    rw [s_X10_feedNumber_L2] at e
    refine zwp.go (m := 1) (j := 3) (ls' := [some (zr ((0, 10, 0) : zF)), some (zi l1), some (zi l2)]) (st' := [zi l2]) (h' := h) rfl ?_
    refine zb_if (j := 25) (j2 := 4) e rfl (fun e => ?_) (fun e => ?_)
    · cases e
      exact zwp.rv rfl ⟨⟨rfl, rfl⟩, hR⟩
    · refine zwp.go (m := 3) (j := 7) (ls' := [some (zr ((0, 10, 0) : zF)), some (zi l1), some (zi l2)]) (st' := [zi (700 : Int32), zi (zI h 0 1)]) (h' := h) rfl ?_
      refine zb_if (j := 23) (j2 := 8) e rfl (fun e => ?_) (fun e => ?_)
      · refine zwp.go (m := 2) (j := 2) (ls' := [some (zr ((0, 10, 0) : zF)), some (zi l1), some (zi (l2 + (-8 : Int32)))]) (st' := []) (h' := h) rfl ?_
        exact ih l1 (l2 + (-8 : Int32)) h _ hR e
      · refine zwp.go (m := 1) (j := 9) (ls' := [some (zr ((0, 10, 0) : zF)), some (zi l1), some (zi l2)]) (st' := [zr ((0, 10, 0) : zF)]) (h' := h) rfl ?_
        refine zc_sr (r := ((1, 21, 700) : zF)) (zrf (a := 0) (y := 0) hR rfl (hρ 0 0 rfl)) rfl ?_
        refine zwp.go (m := 6) (j := 16) (ls' := [some (zr ((0, 10, 0) : zF)), some (zi l1), some (zi l2)]) (st' := [zi (l1 >>> (l2 &&& 31)).toInt8.toInt32, zi (zI h 0 1), zr ((1, 21, 700) : zF)]) (h' := h) rfl ?_
        refine zc_si e (fun _ => rfl) hR (fun h1 hR1 e => ?_)
        refine zwp.go (m := 5) (j := 22) (ls' := [some (zr ((0, 10, 0) : zF)), some (zi l1), some (zi l2)]) (st' := [zi ((zI h1 0 1) + (1 : Int32)), zr ((0, 10, 0) : zF)]) (h' := h1) rfl ?_
        refine zc_w e rfl hR1 (fun h2 hR2 e => ?_)
        refine zwp.go (m := 2) (j := 2) (ls' := [some (zr ((0, 10, 0) : zF)), some (zi l1), some (zi (l2 + (-8 : Int32)))]) (st' := []) (h' := h2) rfl ?_
        exact ih l1 (l2 + (-8 : Int32)) h2 _ hR2 e
def s_X10_feedNumber (pp : Nat) (a1 : Int32) (h : zH) : Option (zH) := s_X10_feedNumber_L2 pp zfu a1 (24 : Int32) h
theorem s_X10_feedNumber_ok (d : Nat) (ρ : Nat → Nat → Option zF) (hρ : zSh ρ) (pp : Nat) (a1 : Int32) (hpp : ρ 0 3 = some (pp, 3, 0) ∧ zPlS ρ pp) (h : zH) (res : zH) (hR : zRq h ρ) (e : s_X10_feedNumber pp a1 h = some res) : zcl d 16 [zr ((0, 10, 0) : zF), zi a1] h (zQv ρ res) := by
  rw [s_X10_feedNumber] at e
  refine ⟨zm_X10_feedNumber, rfl, ?_⟩
  show zwp d zm_X10_feedNumber 0 [some (zr ((0, 10, 0) : zF)), some (zi a1), none] [] h _
  refine zwp.go (m := 2) (j := 2) (ls' := [some (zr ((0, 10, 0) : zF)), some (zi a1), some (zi (24 : Int32))]) (st' := []) (h' := h) rfl ?_
  exact s_X10_feedNumber_L2_ok d ρ hρ pp hpp zfu a1 (24 : Int32) h _ hR e
def s_X10_feed (pp : Nat) (a1 : Int32) (a2 : Int32) (a3 : Int32) (a4 : Int32) (a5 : Int32) (h : zH) : Option (Int32 × zH) := if ((zI h 0 1) + (20 : Int32)) ≤ (700 : Int32) then ((s_X10_feedNumber pp a1 h).bind fun h1 => (s_X10_feedNumber pp a2 h1).bind fun h2 => (s_X10_feedNumber pp a3 h2).bind fun h3 => (s_X10_feedNumber pp a4 h3).bind fun h4 => (s_X10_feedNumber pp a5 h4).bind fun h5 => some ((zI h5 0 1), h5)) else (some ((-1 : Int32), h))
theorem s_X10_feed_ok (d : Nat) (ρ : Nat → Nat → Option zF) (hρ : zSh ρ) (pp : Nat) (a1 : Int32) (a2 : Int32) (a3 : Int32) (a4 : Int32) (a5 : Int32) (hpp : ρ 0 3 = some (pp, 3, 0) ∧ zPlS ρ pp) (h : zH) (res : Int32 × zH) (hR : zRq h ρ) (e : s_X10_feed pp a1 a2 a3 a4 a5 h = some res) : zcl (d + 1) 17 [zr ((0, 10, 0) : zF), zi a1, zi a2, zi a3, zi a4, zi a5] h (zQi ρ res) := by
  rw [s_X10_feed] at e
  refine ⟨zm_X10_feed, rfl, ?_⟩
  show zwp (d + 1) zm_X10_feed 0 [some (zr ((0, 10, 0) : zF)), some (zi a1), some (zi a2), some (zi a3), some (zi a4), some (zi a5)] [] h _
  refine zwp.go (m := 5) (j := 5) (ls' := [some (zr ((0, 10, 0) : zF)), some (zi a1), some (zi a2), some (zi a3), some (zi a4), some (zi a5)]) (st' := [zi (700 : Int32), zi ((zI h 0 1) + (20 : Int32))]) (h' := h) rfl ?_
  refine zb_if (j := 8) (j2 := 6) e rfl (fun e => ?_) (fun e => ?_)
  · refine zwp.go (m := 2) (j := 10) (ls' := [some (zr ((0, 10, 0) : zF)), some (zi a1), some (zi a2), some (zi a3), some (zi a4), some (zi a5)]) (st' := [zi a1, zr ((0, 10, 0) : zF)]) (h' := h) rfl ?_
    refine zc_cv (d := d + 0) e (fun q e => s_X10_feedNumber_ok (d + 0) ρ hρ pp a1 hpp h q hR e) rfl rfl (fun h1 hR1 e => ?_)
    refine zwp.go (m := 2) (j := 13) (ls' := [some (zr ((0, 10, 0) : zF)), some (zi a1), some (zi a2), some (zi a3), some (zi a4), some (zi a5)]) (st' := [zi a2, zr ((0, 10, 0) : zF)]) (h' := h1) rfl ?_
    refine zc_cv (d := d + 0) e (fun q e => s_X10_feedNumber_ok (d + 0) ρ hρ pp a2 hpp h1 q hR1 e) rfl rfl (fun h2 hR2 e => ?_)
    refine zwp.go (m := 2) (j := 16) (ls' := [some (zr ((0, 10, 0) : zF)), some (zi a1), some (zi a2), some (zi a3), some (zi a4), some (zi a5)]) (st' := [zi a3, zr ((0, 10, 0) : zF)]) (h' := h2) rfl ?_
    refine zc_cv (d := d + 0) e (fun q e => s_X10_feedNumber_ok (d + 0) ρ hρ pp a3 hpp h2 q hR2 e) rfl rfl (fun h3 hR3 e => ?_)
    refine zwp.go (m := 2) (j := 19) (ls' := [some (zr ((0, 10, 0) : zF)), some (zi a1), some (zi a2), some (zi a3), some (zi a4), some (zi a5)]) (st' := [zi a4, zr ((0, 10, 0) : zF)]) (h' := h3) rfl ?_
    refine zc_cv (d := d + 0) e (fun q e => s_X10_feedNumber_ok (d + 0) ρ hρ pp a4 hpp h3 q hR3 e) rfl rfl (fun h4 hR4 e => ?_)
    refine zwp.go (m := 2) (j := 22) (ls' := [some (zr ((0, 10, 0) : zF)), some (zi a1), some (zi a2), some (zi a3), some (zi a4), some (zi a5)]) (st' := [zi a5, zr ((0, 10, 0) : zF)]) (h' := h4) rfl ?_
    refine zc_cv (d := d + 0) e (fun q e => s_X10_feedNumber_ok (d + 0) ρ hρ pp a5 hpp h4 q hR4 e) rfl rfl (fun h5 hR5 e => ?_)
    refine zwp.go (m := 2) (j := 25) (ls' := [some (zr ((0, 10, 0) : zF)), some (zi a1), some (zi a2), some (zi a3), some (zi a4), some (zi a5)]) (st' := [zi (zI h5 0 1)]) (h' := h5) rfl ?_
    cases e
    exact zwp.ret rfl rfl ⟨⟨rfl, rfl⟩, hR5⟩
  · refine zwp.go (m := 1) (j := 7) (ls' := [some (zr ((0, 10, 0) : zF)), some (zi a1), some (zi a2), some (zi a3), some (zi a4), some (zi a5)]) (st' := [zi (-1 : Int32)]) (h' := h) rfl ?_
    cases e
    exact zwp.ret rfl rfl ⟨⟨rfl, rfl⟩, hR⟩
def s_X11_feed_J37 (k13 : (Int32 → Int32 → Int32 → Int32 → Int32 → Int32 → zH → Option (Int32 × zH))) (l1 : Int32) (l2 : Int32) (l3 : Int32) (l4 : Int32) (l5 : Int32) (l6 : Int32) (s0 : Int32) (h : zH) : Option (Int32 × zH) := (zre l6 (4 : Int32)).bind fun v1 => zix (zI h 52 13) 700 fun i4 => zlt (zwI h 63 i4 ((s0 >>> (((24 : Int32) - ((8 : Int32) * v1)) &&& 31)) &&& (255 : Int32))) fun h2 => zlt (zwI h2 52 13 ((zI h2 52 13) + (1 : Int32))) fun h3 => k13 l1 l2 l3 l4 l5 (l6 + (1 : Int32)) h3
theorem s_X11_feed_J37_ok (d : Nat) (ρ : Nat → Nat → Option zF) (hρ : zSh ρ) (k13 : (Int32 → Int32 → Int32 → Int32 → Int32 → Int32 → zH → Option (Int32 × zH))) (hk13 : ∀ l1 l2 l3 l4 l5 l6 h res, zRq h ρ → k13 l1 l2 l3 l4 l5 l6 h = some res → zwp d zm_X11_feed 13 [some (zr ((52, 11, 0) : zF)), some (zi l1), some (zi l2), some (zi l3), some (zi l4), some (zi l5), some (zi l6), none] [] h (zQi ρ res)) (l1 : Int32) (l2 : Int32) (l3 : Int32) (l4 : Int32) (l5 : Int32) (l6 : Int32) (s0 : Int32) (h : zH) (res : Int32 × zH) (hR : zRq h ρ) (e : s_X11_feed_J37 k13 l1 l2 l3 l4 l5 l6 s0 h = some res) : zwp d zm_X11_feed 37 [some (zr ((52, 11, 0) : zF)), some (zi l1), some (zi l2), some (zi l3), some (zi l4), some (zi l5), some (zi l6), none] [zi s0] h (zQi ρ res) := by
  rw [s_X11_feed_J37] at e
  refine zwp.go (m := 2) (j := 39) (ls' := [some (zr ((52, 11, 0) : zF)), some (zi l1), some (zi l2), some (zi l3), some (zi l4), some (zi l5), some (zi l6), some (zi s0)]) (st' := [zr ((52, 11, 0) : zF)]) (h' := h) rfl ?_
  refine zc_sr (r := ((63, 20, 700) : zF)) (zrf (a := 52) (y := 12) hR rfl (hρ 52 12 rfl)) rfl ?_
  refine zwp.go (m := 7) (j := 47) (ls' := [some (zr ((52, 11, 0) : zF)), some (zi l1), some (zi l2), some (zi l3), some (zi l4), some (zi l5), some (zi l6), some (zi s0)]) (st' := [zi (4 : Int32), zi l6, zi (8 : Int32), zi (24 : Int32), zi s0, zi (zI h 52 13), zr ((63, 20, 700) : zF)]) (h' := h) rfl ?_
  refine zb_re e rfl (fun v1 e => ?_)
  refine zwp.go (m := 5) (j := 53) (ls' := [some (zr ((52, 11, 0) : zF)), some (zi l1), some (zi l2), some (zi l3), some (zi l4), some (zi l5), some (zi l6), some (zi s0)]) (st' := [zi ((s0 >>> (((24 : Int32) - ((8 : Int32) * v1)) &&& 31)) &&& (255 : Int32)), zi (zI h 52 13), zr ((63, 20, 700) : zF)]) (h' := h) rfl ?_
  refine zc_si e (fun _ => rfl) hR (fun h2 hR2 e => ?_)
  refine zwp.go (m := 5) (j := 59) (ls' := [some (zr ((52, 11, 0) : zF)), some (zi l1), some (zi l2), some (zi l3), some (zi l4), some (zi l5), some (zi l6), some (zi s0)]) (st' := [zi ((zI h2 52 13) + (1 : Int32)), zr ((52, 11, 0) : zF)]) (h' := h2) rfl ?_
  refine zc_w e rfl hR2 (fun h3 hR3 e => ?_)
  refine zwp.go (m := 2) (j := 13) (ls' := [some (zr ((52, 11, 0) : zF)), some (zi l1), some (zi l2), some (zi l3), some (zi l4), some (zi l5), some (zi (l6 + (1 : Int32))), some (zi s0)]) (st' := []) (h' := h3) rfl ?_
  refine zwp.fg (a := [some (zr ((52, 11, 0) : zF)), some (zi l1), some (zi l2), some (zi l3), some (zi l4), some (zi l5), some (zi (l6 + (1 : Int32))), none]) (And.intro rfl (And.intro rfl (And.intro rfl (And.intro rfl (And.intro rfl (And.intro rfl (And.intro rfl trivial))))))) ?_
  exact hk13 l1 l2 l3 l4 l5 (l6 + (1 : Int32)) h3 _ hR3 e
def s_X11_feed_L13 : Nat → Int32 → Int32 → Int32 → Int32 → Int32 → Int32 → zH → Option (Int32 × zH)
  | 0, _, _, _, _, _, _, _ => none
  | n + 1, l1, l2, l3, l4, l5, l6, h => if (20 : Int32) ≤ l6 then (some ((zI h 52 13), h)) else (if (4 : Int32) ≤ l6 then (if (8 : Int32) ≤ l6 then (if (12 : Int32) ≤ l6 then (if (16 : Int32) ≤ l6 then (s_X11_feed_J37 (s_X11_feed_L13 n) l1 l2 l3 l4 l5 l6 l5 h) else (s_X11_feed_J37 (s_X11_feed_L13 n) l1 l2 l3 l4 l5 l6 l4 h)) else (s_X11_feed_J37 (s_X11_feed_L13 n) l1 l2 l3 l4 l5 l6 l3 h)) else (s_X11_feed_J37 (s_X11_feed_L13 n) l1 l2 l3 l4 l5 l6 l2 h)) else (s_X11_feed_J37 (s_X11_feed_L13 n) l1 l2 l3 l4 l5 l6 l1 h))
theorem s_X11_feed_L13_ok (d : Nat) (ρ : Nat → Nat → Option zF) (hρ : zSh ρ) : ∀ (n : Nat) (l1 : Int32) (l2 : Int32) (l3 : Int32) (l4 : Int32) (l5 : Int32) (l6 : Int32) (h : zH) (res : Int32 × zH) (hR : zRq h ρ) (e : s_X11_feed_L13  n l1 l2 l3 l4 l5 l6 h = some res), zwp d zm_X11_feed 13 [some (zr ((52, 11, 0) : zF)), some (zi l1), some (zi l2), some (zi l3), some (zi l4), some (zi l5), some (zi l6), none] [] h (zQi ρ res) := by
  intro n
  induction n with
  | zero => intro l1 l2 l3 l4 l5 l6 h res hR e; cases e
  | succ n ih =>
    intro l1 l2 l3 l4 l5 l6 h res hR e
    rw [s_X11_feed_L13] at e
    refine zwp.go (m := 2) (j := 15) (ls' := [some (zr ((52, 11, 0) : zF)), some (zi l1), some (zi l2), some (zi l3), some (zi l4), some (zi l5), some (zi l6), none]) (st' := [zi (20 : Int32), zi l6]) (h' := h) rfl ?_
    refine zb_if (j := 62) (j2 := 16) e rfl (fun e => ?_) (fun e => ?_)
    · refine zwp.go (m := 2) (j := 64) (ls' := [some (zr ((52, 11, 0) : zF)), some (zi l1), some (zi l2), some (zi l3), some (zi l4), some (zi l5), some (zi l6), none]) (st' := [zi (zI h 52 13)]) (h' := h) rfl ?_
      cases e
      exact zwp.ret rfl rfl ⟨⟨rfl, rfl⟩, hR⟩
    · refine zwp.go (m := 2) (j := 18) (ls' := [some (zr ((52, 11, 0) : zF)), some (zi l1), some (zi l2), some (zi l3), some (zi l4), some (zi l5), some (zi l6), none]) (st' := [zi (4 : Int32), zi l6]) (h' := h) rfl ?_
      refine zb_if (j := 21) (j2 := 19) e rfl (fun e => ?_) (fun e => ?_)
      · refine zwp.go (m := 2) (j := 23) (ls' := [some (zr ((52, 11, 0) : zF)), some (zi l1), some (zi l2), some (zi l3), some (zi l4), some (zi l5), some (zi l6), none]) (st' := [zi (8 : Int32), zi l6]) (h' := h) rfl ?_
        refine zb_if (j := 26) (j2 := 24) e rfl (fun e => ?_) (fun e => ?_)
        · refine zwp.go (m := 2) (j := 28) (ls' := [some (zr ((52, 11, 0) : zF)), some (zi l1), some (zi l2), some (zi l3), some (zi l4), some (zi l5), some (zi l6), none]) (st' := [zi (12 : Int32), zi l6]) (h' := h) rfl ?_
          refine zb_if (j := 31) (j2 := 29) e rfl (fun e => ?_) (fun e => ?_)
          · refine zwp.go (m := 2) (j := 33) (ls' := [some (zr ((52, 11, 0) : zF)), some (zi l1), some (zi l2), some (zi l3), some (zi l4), some (zi l5), some (zi l6), none]) (st' := [zi (16 : Int32), zi l6]) (h' := h) rfl ?_
            refine zb_if (j := 36) (j2 := 34) e rfl (fun e => ?_) (fun e => ?_)
            · refine zwp.go (m := 1) (j := 37) (ls' := [some (zr ((52, 11, 0) : zF)), some (zi l1), some (zi l2), some (zi l3), some (zi l4), some (zi l5), some (zi l6), none]) (st' := [zi l5]) (h' := h) rfl ?_
              exact s_X11_feed_J37_ok d ρ hρ (s_X11_feed_L13 n) ih l1 l2 l3 l4 l5 l6 l5 h _ hR e
            · refine zwp.go (m := 2) (j := 37) (ls' := [some (zr ((52, 11, 0) : zF)), some (zi l1), some (zi l2), some (zi l3), some (zi l4), some (zi l5), some (zi l6), none]) (st' := [zi l4]) (h' := h) rfl ?_
              exact s_X11_feed_J37_ok d ρ hρ (s_X11_feed_L13 n) ih l1 l2 l3 l4 l5 l6 l4 h _ hR e
          · refine zwp.go (m := 2) (j := 37) (ls' := [some (zr ((52, 11, 0) : zF)), some (zi l1), some (zi l2), some (zi l3), some (zi l4), some (zi l5), some (zi l6), none]) (st' := [zi l3]) (h' := h) rfl ?_
            exact s_X11_feed_J37_ok d ρ hρ (s_X11_feed_L13 n) ih l1 l2 l3 l4 l5 l6 l3 h _ hR e
        · refine zwp.go (m := 2) (j := 37) (ls' := [some (zr ((52, 11, 0) : zF)), some (zi l1), some (zi l2), some (zi l3), some (zi l4), some (zi l5), some (zi l6), none]) (st' := [zi l2]) (h' := h) rfl ?_
          exact s_X11_feed_J37_ok d ρ hρ (s_X11_feed_L13 n) ih l1 l2 l3 l4 l5 l6 l2 h _ hR e
      · refine zwp.go (m := 2) (j := 37) (ls' := [some (zr ((52, 11, 0) : zF)), some (zi l1), some (zi l2), some (zi l3), some (zi l4), some (zi l5), some (zi l6), none]) (st' := [zi l1]) (h' := h) rfl ?_
        exact s_X11_feed_J37_ok d ρ hρ (s_X11_feed_L13 n) ih l1 l2 l3 l4 l5 l6 l1 h _ hR e
def s_X11_feed (a1 : Int32) (a2 : Int32) (a3 : Int32) (a4 : Int32) (a5 : Int32) (h : zH) : Option (Int32 × zH) := zlt (zwI h 52 4 (0 : Int32)) fun h1 => if ((zI h1 52 13) + (20 : Int32)) ≤ (700 : Int32) then (s_X11_feed_L13 zfu a1 a2 a3 a4 a5 (0 : Int32) h1) else (some ((-1 : Int32), h1))
theorem s_X11_feed_ok (d : Nat) (ρ : Nat → Nat → Option zF) (hρ : zSh ρ) (a1 : Int32) (a2 : Int32) (a3 : Int32) (a4 : Int32) (a5 : Int32) (h : zH) (res : Int32 × zH) (hR : zRq h ρ) (e : s_X11_feed a1 a2 a3 a4 a5 h = some res) : zcl d 18 [zr ((52, 11, 0) : zF), zi a1, zi a2, zi a3, zi a4, zi a5] h (zQi ρ res) := by
  rw [s_X11_feed] at e
  refine ⟨zm_X11_feed, rfl, ?_⟩
  show zwp d zm_X11_feed 0 [some (zr ((52, 11, 0) : zF)), some (zi a1), some (zi a2), some (zi a3), some (zi a4), some (zi a5), none, none] [] h _
  refine zwp.go (m := 2) (j := 2) (ls' := [some (zr ((52, 11, 0) : zF)), some (zi a1), some (zi a2), some (zi a3), some (zi a4), some (zi a5), none, none]) (st' := [zi (0 : Int32), zr ((52, 11, 0) : zF)]) (h' := h) rfl ?_
  refine zc_w e rfl hR (fun h1 hR1 e => ?_)
  refine zwp.go (m := 5) (j := 8) (ls' := [some (zr ((52, 11, 0) : zF)), some (zi a1), some (zi a2), some (zi a3), some (zi a4), some (zi a5), none, none]) (st' := [zi (700 : Int32), zi ((zI h1 52 13) + (20 : Int32))]) (h' := h1) rfl ?_
  refine zb_if (j := 11) (j2 := 9) e rfl (fun e => ?_) (fun e => ?_)
  · refine zwp.go (m := 2) (j := 13) (ls' := [some (zr ((52, 11, 0) : zF)), some (zi a1), some (zi a2), some (zi a3), some (zi a4), some (zi a5), some (zi (0 : Int32)), none]) (st' := []) (h' := h1) rfl ?_
    exact s_X11_feed_L13_ok d ρ hρ zfu a1 a2 a3 a4 a5 (0 : Int32) h1 _ hR1 e
  · refine zwp.go (m := 1) (j := 10) (ls' := [some (zr ((52, 11, 0) : zF)), some (zi a1), some (zi a2), some (zi a3), some (zi a4), some (zi a5), none, none]) (st' := [zi (-1 : Int32)]) (h' := h1) rfl ?_
    cases e
    exact zwp.ret rfl rfl ⟨⟨rfl, rfl⟩, hR1⟩
def s_J0_isLatin1_aae02 (a0 : Nat) (h : zH) : Option (Int32) := some (1 : Int32)
theorem s_J0_isLatin1_aae02_ok (d : Nat) (ρ : Nat → Nat → Option zF) (hρ : zSh ρ) (a0 : Nat) (h : zH) (res : Int32) (hR : zRq h ρ) (e : s_J0_isLatin1_aae02 a0 h = some res) : zcl d 19 [zr ((a0, 30, 0) : zF)] h (zQp h res) := by
  rw [s_J0_isLatin1_aae02] at e
  refine ⟨zm_J0_isLatin1_aae02, rfl, ?_⟩
  show zwp d zm_J0_isLatin1_aae02 0 [some (zr ((a0, 30, 0) : zF))] [] h _
  refine zwp.go (m := 7) (j := 8) (ls' := [some (zr ((a0, 30, 0) : zF))]) (st' := [zi (1 : Int32)]) (h' := h) rfl ?_
  cases e
  exact zwp.ret rfl rfl ⟨rfl, rfl⟩
def s_J0_coder_7d493 (a0 : Nat) (h : zH) : Option (Int32) := some (0 : Int32)
theorem s_J0_coder_7d493_ok (d : Nat) (ρ : Nat → Nat → Option zF) (hρ : zSh ρ) (a0 : Nat) (h : zH) (res : Int32) (hR : zRq h ρ) (e : s_J0_coder_7d493 a0 h = some res) : zcl d 20 [zr ((a0, 30, 0) : zF)] h (zQp h res) := by
  rw [s_J0_coder_7d493] at e
  refine ⟨zm_J0_coder_7d493, rfl, ?_⟩
  show zwp d zm_J0_coder_7d493 0 [some (zr ((a0, 30, 0) : zF))] [] h _
  refine zwp.go (m := 5) (j := 6) (ls' := [some (zr ((a0, 30, 0) : zF))]) (st' := [zi (0 : Int32)]) (h' := h) rfl ?_
  cases e
  exact zwp.ret rfl rfl ⟨rfl, rfl⟩
def s_J0_length_8abf5 (a0 : Nat) (h : zH) : Option (Int32) := (s_J0_coder_7d493 a0 h).bind fun v1 => some ((Int32.ofNat (zbl zTX a0)) >>> (v1 &&& 31))
theorem s_J0_length_8abf5_ok (d : Nat) (ρ : Nat → Nat → Option zF) (hρ : zSh ρ) (a0 : Nat) (h : zH) (res : Int32) (hR : zRq h ρ) (e : s_J0_length_8abf5 a0 h = some res) : zcl (d + 1) 21 [zr ((a0, 30, 0) : zF)] h (zQp h res) := by
  rw [s_J0_length_8abf5] at e
  refine ⟨zm_J0_length_8abf5, rfl, ?_⟩
  show zwp (d + 1) zm_J0_length_8abf5 0 [some (zr ((a0, 30, 0) : zF))] [] h _
  refine zwp.go (m := 4) (j := 4) (ls' := [some (zr ((a0, 30, 0) : zF))]) (st' := [zr ((a0, 30, 0) : zF), zi (Int32.ofNat (zbl zTX a0))]) (h' := h) rfl ?_
  refine zc_cp (d := d + 0) e (fun q e => s_J0_coder_7d493_ok (d + 0) ρ hρ a0 h q hR e) rfl rfl (fun v1 e => ?_)
  refine zwp.go (m := 1) (j := 6) (ls' := [some (zr ((a0, 30, 0) : zF))]) (st' := [zi ((Int32.ofNat (zbl zTX a0)) >>> (v1 &&& 31))]) (h' := h) rfl ?_
  cases e
  exact zwp.ret rfl rfl ⟨rfl, rfl⟩
def s_J1_canEncode_9a6ad (a0 : Int32) (h : zH) : Option (Int32) := if a0 < 0 then (some (0 : Int32)) else (if (255 : Int32) < a0 then (some (0 : Int32)) else (some (1 : Int32)))
theorem s_J1_canEncode_9a6ad_ok (d : Nat) (ρ : Nat → Nat → Option zF) (hρ : zSh ρ) (a0 : Int32) (h : zH) (res : Int32) (hR : zRq h ρ) (e : s_J1_canEncode_9a6ad a0 h = some res) : zcl d 22 [zi a0] h (zQp h res) := by
  rw [s_J1_canEncode_9a6ad] at e
  refine ⟨zm_J1_canEncode_9a6ad, rfl, ?_⟩
  show zwp d zm_J1_canEncode_9a6ad 0 [some (zi a0)] [] h _
  refine zwp.go (m := 1) (j := 1) (ls' := [some (zi a0)]) (st' := [zi a0]) (h' := h) rfl ?_
  refine zb_if (j := 7) (j2 := 2) e rfl (fun e => ?_) (fun e => ?_)
  · refine zwp.go (m := 1) (j := 8) (ls' := [some (zi a0)]) (st' := [zi (0 : Int32)]) (h' := h) rfl ?_
    cases e
    exact zwp.ret rfl rfl ⟨rfl, rfl⟩
  · refine zwp.go (m := 2) (j := 4) (ls' := [some (zi a0)]) (st' := [zi (255 : Int32), zi a0]) (h' := h) rfl ?_
    refine zb_if (j := 7) (j2 := 5) e rfl (fun e => ?_) (fun e => ?_)
    · refine zwp.go (m := 1) (j := 8) (ls' := [some (zi a0)]) (st' := [zi (0 : Int32)]) (h' := h) rfl ?_
      cases e
      exact zwp.ret rfl rfl ⟨rfl, rfl⟩
    · refine zwp.go (m := 2) (j := 8) (ls' := [some (zi a0)]) (st' := [zi (1 : Int32)]) (h' := h) rfl ?_
      cases e
      exact zwp.ret rfl rfl ⟨rfl, rfl⟩
def s_J9_max_7cf53 (a0 : Int32) (a1 : Int32) (h : zH) : Option (Int32) := if a0 < a1 then (some a1) else (some a0)
theorem s_J9_max_7cf53_ok (d : Nat) (ρ : Nat → Nat → Option zF) (hρ : zSh ρ) (a0 : Int32) (a1 : Int32) (h : zH) (res : Int32) (hR : zRq h ρ) (e : s_J9_max_7cf53 a0 a1 h = some res) : zcl d 23 [zi a0, zi a1] h (zQp h res) := by
  rw [s_J9_max_7cf53] at e
  refine ⟨zm_J9_max_7cf53, rfl, ?_⟩
  show zwp d zm_J9_max_7cf53 0 [some (zi a0), some (zi a1)] [] h _
  refine zwp.go (m := 2) (j := 2) (ls' := [some (zi a0), some (zi a1)]) (st' := [zi a1, zi a0]) (h' := h) rfl ?_
  refine zb_if (j := 5) (j2 := 3) e rfl (fun e => ?_) (fun e => ?_)
  · refine zwp.go (m := 1) (j := 6) (ls' := [some (zi a0), some (zi a1)]) (st' := [zi a1]) (h' := h) rfl ?_
    cases e
    exact zwp.ret rfl rfl ⟨rfl, rfl⟩
  · refine zwp.go (m := 2) (j := 6) (ls' := [some (zi a0), some (zi a1)]) (st' := [zi a0]) (h' := h) rfl ?_
    cases e
    exact zwp.ret rfl rfl ⟨rfl, rfl⟩
def s_J9_min_7cf53 (a0 : Int32) (a1 : Int32) (h : zH) : Option (Int32) := if a1 < a0 then (some a1) else (some a0)
theorem s_J9_min_7cf53_ok (d : Nat) (ρ : Nat → Nat → Option zF) (hρ : zSh ρ) (a0 : Int32) (a1 : Int32) (h : zH) (res : Int32) (hR : zRq h ρ) (e : s_J9_min_7cf53 a0 a1 h = some res) : zcl d 24 [zi a0, zi a1] h (zQp h res) := by
  rw [s_J9_min_7cf53] at e
  refine ⟨zm_J9_min_7cf53, rfl, ?_⟩
  show zwp d zm_J9_min_7cf53 0 [some (zi a0), some (zi a1)] [] h _
  refine zwp.go (m := 2) (j := 2) (ls' := [some (zi a0), some (zi a1)]) (st' := [zi a1, zi a0]) (h' := h) rfl ?_
  refine zb_if (j := 5) (j2 := 3) e rfl (fun e => ?_) (fun e => ?_)
  · refine zwp.go (m := 1) (j := 6) (ls' := [some (zi a0), some (zi a1)]) (st' := [zi a1]) (h' := h) rfl ?_
    cases e
    exact zwp.ret rfl rfl ⟨rfl, rfl⟩
  · refine zwp.go (m := 2) (j := 6) (ls' := [some (zi a0), some (zi a1)]) (st' := [zi a0]) (h' := h) rfl ?_
    cases e
    exact zwp.ret rfl rfl ⟨rfl, rfl⟩
def s_J1_indexOfChar_4cfef_L5 (a0 n0 : Nat) : Nat → Int32 → Int32 → Int32 → zH → Option (Int32)
  | 0, _, _, _, _ => none
  | n + 1, l3, l4, l5, h => if l3 ≤ l5 then (some (-1 : Int32)) else (zix l5 n0 fun i1 => if ¬ (zby zTX a0 i1) = l4 then (s_J1_indexOfChar_4cfef_L5 a0 n0 n l3 l4 (l5 + (1 : Int32)) h) else (some l5))
theorem s_J1_indexOfChar_4cfef_L5_ok (d : Nat) (ρ : Nat → Nat → Option zF) (hρ : zSh ρ) (a0 n0 : Nat) : ∀ (n : Nat) (l3 : Int32) (l4 : Int32) (l5 : Int32) (h : zH) (res : Int32) (hR : zRq h ρ) (e : s_J1_indexOfChar_4cfef_L5 a0 n0 n l3 l4 l5 h = some res), zwp d zm_J1_indexOfChar_4cfef 5 [some (zr ((a0, 33, n0) : zF)), none, none, some (zi l3), some (zi l4), some (zi l5)] [] h (zQp h res) := by
  intro n
  induction n with
  | zero => intro l3 l4 l5 h res hR e; cases e
  | succ n ih =>
    intro l3 l4 l5 h res hR e
    rw [s_J1_indexOfChar_4cfef_L5] at e
    refine zwp.go (m := 2) (j := 7) (ls' := [some (zr ((a0, 33, n0) : zF)), none, none, some (zi l3), some (zi l4), some (zi l5)]) (st' := [zi l3, zi l5]) (h' := h) rfl ?_
    refine zb_if (j := 17) (j2 := 8) e rfl (fun e => ?_) (fun e => ?_)
    · refine zwp.go (m := 1) (j := 18) (ls' := [some (zr ((a0, 33, n0) : zF)), none, none, some (zi l3), some (zi l4), some (zi l5)]) (st' := [zi (-1 : Int32)]) (h' := h) rfl ?_
      cases e
      exact zwp.ret rfl rfl ⟨rfl, rfl⟩
    · refine zwp.go (m := 2) (j := 10) (ls' := [some (zr ((a0, 33, n0) : zF)), none, none, some (zi l3), some (zi l4), some (zi l5)]) (st' := [zi l5, zr ((a0, 33, n0) : zF)]) (h' := h) rfl ?_
      refine zc_ab e (fun _ => rfl) (fun i1 e => ?_)
      refine zwp.go (m := 1) (j := 12) (ls' := [some (zr ((a0, 33, n0) : zF)), none, none, some (zi l3), some (zi l4), some (zi l5)]) (st' := [zi l4, zi (zby zTX a0 i1)]) (h' := h) rfl ?_
      refine zb_if (j := 15) (j2 := 13) e rfl (fun e => ?_) (fun e => ?_)
      · refine zwp.go (m := 2) (j := 5) (ls' := [some (zr ((a0, 33, n0) : zF)), none, none, some (zi l3), some (zi l4), some (zi (l5 + (1 : Int32)))]) (st' := []) (h' := h) rfl ?_
        exact ih l3 l4 (l5 + (1 : Int32)) h _ hR e
      · refine zwp.go (m := 1) (j := 14) (ls' := [some (zr ((a0, 33, n0) : zF)), none, none, some (zi l3), some (zi l4), some (zi l5)]) (st' := [zi l5]) (h' := h) rfl ?_
        cases e
        exact zwp.ret rfl rfl ⟨rfl, rfl⟩
def s_J1_indexOfChar_4cfef (a0 n0 : Nat) (a1 : Int32) (a2 : Int32) (a3 : Int32) (h : zH) : Option (Int32) := s_J1_indexOfChar_4cfef_L5 a0 n0 zfu a3 a1.toInt8.toInt32 a2 h
theorem s_J1_indexOfChar_4cfef_ok (d : Nat) (ρ : Nat → Nat → Option zF) (hρ : zSh ρ) (a0 n0 : Nat) (a1 : Int32) (a2 : Int32) (a3 : Int32) (h : zH) (res : Int32) (hR : zRq h ρ) (e : s_J1_indexOfChar_4cfef a0 n0 a1 a2 a3 h = some res) : zcl d 25 [zr ((a0, 33, n0) : zF), zi a1, zi a2, zi a3] h (zQp h res) := by
  rw [s_J1_indexOfChar_4cfef] at e
  refine ⟨zm_J1_indexOfChar_4cfef, rfl, ?_⟩
  show zwp d zm_J1_indexOfChar_4cfef 0 [some (zr ((a0, 33, n0) : zF)), some (zi a1), some (zi a2), some (zi a3), none, none] [] h _
  refine zwp.go (m := 5) (j := 5) (ls' := [some (zr ((a0, 33, n0) : zF)), some (zi a1), some (zi a2), some (zi a3), some (zi a1.toInt8.toInt32), some (zi a2)]) (st' := []) (h' := h) rfl ?_
  refine zwp.fg (a := [some (zr ((a0, 33, n0) : zF)), none, none, some (zi a3), some (zi a1.toInt8.toInt32), some (zi a2)]) (And.intro rfl (And.intro rfl (And.intro rfl (And.intro rfl trivial)))) ?_
  exact s_J1_indexOfChar_4cfef_L5_ok d ρ hρ a0 n0 zfu a3 a1.toInt8.toInt32 a2 h _ hR e
def s_J1_indexOf_4cfef (a0 n0 : Nat) (a1 : Int32) (a2 : Int32) (a3 : Int32) (h : zH) : Option (Int32) := (s_J1_canEncode_9a6ad a1 h).bind fun v1 => if ¬ v1 = 0 then ((s_J9_max_7cf53 a2 (0 : Int32) h).bind fun v2 => (s_J9_min_7cf53 a3 (Int32.ofNat n0) h).bind fun v3 => if v2 < v3 then ((s_J1_indexOfChar_4cfef a0 n0 a1 v2 v3 h).bind fun v4 => some v4) else (some (-1 : Int32))) else (some (-1 : Int32))
theorem s_J1_indexOf_4cfef_ok (d : Nat) (ρ : Nat → Nat → Option zF) (hρ : zSh ρ) (a0 n0 : Nat) (a1 : Int32) (a2 : Int32) (a3 : Int32) (h : zH) (res : Int32) (hR : zRq h ρ) (e : s_J1_indexOf_4cfef a0 n0 a1 a2 a3 h = some res) : zcl (d + 1) 26 [zr ((a0, 33, n0) : zF), zi a1, zi a2, zi a3] h (zQp h res) := by
  rw [s_J1_indexOf_4cfef] at e
  refine ⟨zm_J1_indexOf_4cfef, rfl, ?_⟩
  show zwp (d + 1) zm_J1_indexOf_4cfef 0 [some (zr ((a0, 33, n0) : zF)), some (zi a1), some (zi a2), some (zi a3)] [] h _
  refine zwp.go (m := 1) (j := 1) (ls' := [some (zr ((a0, 33, n0) : zF)), some (zi a1), some (zi a2), some (zi a3)]) (st' := [zi a1]) (h' := h) rfl ?_
  refine zc_cp (d := d + 0) e (fun q e => s_J1_canEncode_9a6ad_ok (d + 0) ρ hρ a1 h q hR e) rfl rfl (fun v1 e => ?_)
  refine zb_if (j := 5) (j2 := 3) e rfl (fun e => ?_) (fun e => ?_)
  · refine zwp.go (m := 2) (j := 7) (ls' := [some (zr ((a0, 33, n0) : zF)), some (zi a1), some (zi a2), some (zi a3)]) (st' := [zi (0 : Int32), zi a2]) (h' := h) rfl ?_
    refine zc_cp (d := d + 0) e (fun q e => s_J9_max_7cf53_ok (d + 0) ρ hρ a2 (0 : Int32) h q hR e) rfl rfl (fun v2 e => ?_)
    refine zwp.go (m := 4) (j := 12) (ls' := [some (zr ((a0, 33, n0) : zF)), some (zi a1), some (zi v2), some (zi a3)]) (st' := [zi (Int32.ofNat n0), zi a3]) (h' := h) rfl ?_
    refine zc_cp (d := d + 0) e (fun q e => s_J9_min_7cf53_ok (d + 0) ρ hρ a3 (Int32.ofNat n0) h q hR e) rfl rfl (fun v3 e => ?_)
    refine zwp.go (m := 3) (j := 16) (ls' := [some (zr ((a0, 33, n0) : zF)), some (zi a1), some (zi v2), some (zi v3)]) (st' := [zi v3, zi v2]) (h' := h) rfl ?_
    refine zb_if (j := 19) (j2 := 17) e rfl (fun e => ?_) (fun e => ?_)
    · refine zwp.go (m := 4) (j := 23) (ls' := [some (zr ((a0, 33, n0) : zF)), some (zi a1), some (zi v2), some (zi v3)]) (st' := [zi v3, zi v2, zi a1, zr ((a0, 33, n0) : zF)]) (h' := h) rfl ?_
      refine zc_cp (d := d + 0) e (fun q e => s_J1_indexOfChar_4cfef_ok (d + 0) ρ hρ a0 n0 a1 v2 v3 h q hR e) rfl rfl (fun v4 e => ?_)
      cases e
      exact zwp.ret rfl rfl ⟨rfl, rfl⟩
    · refine zwp.go (m := 1) (j := 18) (ls' := [some (zr ((a0, 33, n0) : zF)), some (zi a1), some (zi v2), some (zi v3)]) (st' := [zi (-1 : Int32)]) (h' := h) rfl ?_
      cases e
      exact zwp.ret rfl rfl ⟨rfl, rfl⟩
  · refine zwp.go (m := 1) (j := 4) (ls' := [some (zr ((a0, 33, n0) : zF)), some (zi a1), some (zi a2), some (zi a3)]) (st' := [zi (-1 : Int32)]) (h' := h) rfl ?_
    cases e
    exact zwp.ret rfl rfl ⟨rfl, rfl⟩
def s_J0_indexOf_7cf53 (a0 : Nat) (a1 : Int32) (a2 : Int32) (h : zH) : Option (Int32) := (s_J0_isLatin1_aae02 a0 h).bind fun v1 => if v1 = 0 then ((s_J0_length_8abf5 a0 h).bind fun v2 => none) else ((s_J0_length_8abf5 a0 h).bind fun v3 => (s_J1_indexOf_4cfef a0 (zbl zTX a0) a1 a2 v3 h).bind fun v4 => some v4)
theorem s_J0_indexOf_7cf53_ok (d : Nat) (ρ : Nat → Nat → Option zF) (hρ : zSh ρ) (a0 : Nat) (a1 : Int32) (a2 : Int32) (h : zH) (res : Int32) (hR : zRq h ρ) (e : s_J0_indexOf_7cf53 a0 a1 a2 h = some res) : zcl (d + 2) 27 [zr ((a0, 30, 0) : zF), zi a1, zi a2] h (zQp h res) := by
  rw [s_J0_indexOf_7cf53] at e
  refine ⟨zm_J0_indexOf_7cf53, rfl, ?_⟩
  show zwp (d + 2) zm_J0_indexOf_7cf53 0 [some (zr ((a0, 30, 0) : zF)), some (zi a1), some (zi a2)] [] h _
  refine zwp.go (m := 1) (j := 1) (ls' := [some (zr ((a0, 30, 0) : zF)), some (zi a1), some (zi a2)]) (st' := [zr ((a0, 30, 0) : zF)]) (h' := h) rfl ?_
  refine zc_cp (d := d + 1) e (fun q e => s_J0_isLatin1_aae02_ok (d + 1) ρ hρ a0 h q hR e) rfl rfl (fun v1 e => ?_)
  refine zb_if (j := 11) (j2 := 3) e rfl (fun e => ?_) (fun e => ?_)
  · refine zwp.go (m := 5) (j := 16) (ls' := [some (zr ((a0, 30, 0) : zF)), some (zi a1), some (zi a2)]) (st' := [zr ((a0, 30, 0) : zF), zi a2, zi a1, zr ((a0, 33, (zbl zTX a0)) : zF)]) (h' := h) rfl ?_
    refine zc_cp (d := d + 1) e (fun q e => s_J0_length_8abf5_ok (d + 0) ρ hρ a0 h q hR e) rfl rfl (fun v2 e => ?_)
    cases e
  · refine zwp.go (m := 5) (j := 8) (ls' := [some (zr ((a0, 30, 0) : zF)), some (zi a1), some (zi a2)]) (st' := [zr ((a0, 30, 0) : zF), zi a2, zi a1, zr ((a0, 33, (zbl zTX a0)) : zF)]) (h' := h) rfl ?_
    refine zc_cp (d := d + 1) e (fun q e => s_J0_length_8abf5_ok (d + 0) ρ hρ a0 h q hR e) rfl rfl (fun v3 e => ?_)
    refine zc_cp (d := d + 1) e (fun q e => s_J1_indexOf_4cfef_ok (d + 0) ρ hρ a0 (zbl zTX a0) a1 a2 v3 h q hR e) rfl rfl (fun v4 e => ?_)
    refine zwp.go (m := 1) (j := 18) (ls' := [some (zr ((a0, 30, 0) : zF)), some (zi a1), some (zi a2)]) (st' := [zi v4]) (h' := h) rfl ?_
    cases e
    exact zwp.ret rfl rfl ⟨rfl, rfl⟩
def s_J0_indexOf_0f7a4 (a0 : Nat) (a1 : Int32) (h : zH) : Option (Int32) := (s_J0_indexOf_7cf53 a0 a1 (0 : Int32) h).bind fun v1 => some v1
theorem s_J0_indexOf_0f7a4_ok (d : Nat) (ρ : Nat → Nat → Option zF) (hρ : zSh ρ) (a0 : Nat) (a1 : Int32) (h : zH) (res : Int32) (hR : zRq h ρ) (e : s_J0_indexOf_0f7a4 a0 a1 h = some res) : zcl (d + 3) 28 [zr ((a0, 30, 0) : zF), zi a1] h (zQp h res) := by
  rw [s_J0_indexOf_0f7a4] at e
  refine ⟨zm_J0_indexOf_0f7a4, rfl, ?_⟩
  show zwp (d + 3) zm_J0_indexOf_0f7a4 0 [some (zr ((a0, 30, 0) : zF)), some (zi a1)] [] h _
  refine zwp.go (m := 3) (j := 3) (ls' := [some (zr ((a0, 30, 0) : zF)), some (zi a1)]) (st' := [zi (0 : Int32), zi a1, zr ((a0, 30, 0) : zF)]) (h' := h) rfl ?_
  refine zc_cp (d := d + 2) e (fun q e => s_J0_indexOf_7cf53_ok (d + 0) ρ hρ a0 a1 (0 : Int32) h q hR e) rfl rfl (fun v1 e => ?_)
  cases e
  exact zwp.ret rfl rfl ⟨rfl, rfl⟩
def s_X4_kindOf_J24 (tp : Nat) (l1 : Int32) (h : zH) : Option (Int32) := (s_J0_indexOf_0f7a4 1 ((l1 &&& (255 : Int32)).toUInt32 % 65536).toInt32 h).bind fun v1 => if v1 < 0 then (some (5 : Int32)) else (some (4 : Int32))
theorem s_X4_kindOf_J24_ok (d : Nat) (ρ : Nat → Nat → Option zF) (hρ : zSh ρ) (tp : Nat) (htp : ρ 16 2 = some (tp, 3, 0) ∧ zPlS ρ tp) (l1 : Int32) (h : zH) (res : Int32) (hR : zRq h ρ) (e : s_X4_kindOf_J24 tp l1 h = some res) : zwp (d + 4) zm_X4_kindOf 24 [none, some (zi l1)] [] h (zQp h res) := by
  rw [s_X4_kindOf_J24] at e
  refine zwp.go (m := 5) (j := 29) (ls' := [none, some (zi l1)]) (st' := [zi ((l1 &&& (255 : Int32)).toUInt32 % 65536).toInt32, zr ((1, 30, 0) : zF)]) (h' := h) rfl ?_
  refine zc_cp (d := d + 3) e (fun q e => s_J0_indexOf_0f7a4_ok (d + 0) ρ hρ 1 ((l1 &&& (255 : Int32)).toUInt32 % 65536).toInt32 h q hR e) rfl rfl (fun v1 e => ?_)
  refine zb_if (j := 33) (j2 := 31) e rfl (fun e => ?_) (fun e => ?_)
  · refine zwp.go (m := 1) (j := 34) (ls' := [none, some (zi l1)]) (st' := [zi (5 : Int32)]) (h' := h) rfl ?_
    cases e
    exact zwp.ret rfl rfl ⟨rfl, rfl⟩
  · refine zwp.go (m := 2) (j := 34) (ls' := [none, some (zi l1)]) (st' := [zi (4 : Int32)]) (h' := h) rfl ?_
    cases e
    exact zwp.ret rfl rfl ⟨rfl, rfl⟩
def s_X4_kindOf_J16 (tp : Nat) (l1 : Int32) (h : zH) : Option (Int32) := if l1 < (48 : Int32) then (s_X4_kindOf_J24 tp l1 h) else (if (57 : Int32) < l1 then (s_X4_kindOf_J24 tp l1 h) else (some (3 : Int32)))
theorem s_X4_kindOf_J16_ok (d : Nat) (ρ : Nat → Nat → Option zF) (hρ : zSh ρ) (tp : Nat) (htp : ρ 16 2 = some (tp, 3, 0) ∧ zPlS ρ tp) (l1 : Int32) (h : zH) (res : Int32) (hR : zRq h ρ) (e : s_X4_kindOf_J16 tp l1 h = some res) : zwp (d + 4) zm_X4_kindOf 16 [none, some (zi l1)] [] h (zQp h res) := by
  rw [s_X4_kindOf_J16] at e
  refine zwp.go (m := 2) (j := 18) (ls' := [none, some (zi l1)]) (st' := [zi (48 : Int32), zi l1]) (h' := h) rfl ?_
  refine zb_if (j := 24) (j2 := 19) e rfl (fun e => ?_) (fun e => ?_)
  · exact s_X4_kindOf_J24_ok d ρ hρ tp htp l1 h _ hR e
  · refine zwp.go (m := 2) (j := 21) (ls' := [none, some (zi l1)]) (st' := [zi (57 : Int32), zi l1]) (h' := h) rfl ?_
    refine zb_if (j := 24) (j2 := 22) e rfl (fun e => ?_) (fun e => ?_)
    · exact s_X4_kindOf_J24_ok d ρ hρ tp htp l1 h _ hR e
    · refine zwp.go (m := 1) (j := 23) (ls' := [none, some (zi l1)]) (st' := [zi (3 : Int32)]) (h' := h) rfl ?_
      cases e
      exact zwp.ret rfl rfl ⟨rfl, rfl⟩
def s_X4_kindOf (tp : Nat) (a1 : Int32) (h : zH) : Option (Int32) := if a1 = (32 : Int32) then (some (1 : Int32)) else (if ¬ a1 = (10 : Int32) then (if a1 < (97 : Int32) then (s_X4_kindOf_J16 tp a1 h) else (if (122 : Int32) < a1 then (s_X4_kindOf_J16 tp a1 h) else (some (2 : Int32)))) else (some (1 : Int32)))
theorem s_X4_kindOf_ok (d : Nat) (ρ : Nat → Nat → Option zF) (hρ : zSh ρ) (tp : Nat) (a1 : Int32) (htp : ρ 16 2 = some (tp, 3, 0) ∧ zPlS ρ tp) (h : zH) (res : Int32) (hR : zRq h ρ) (e : s_X4_kindOf tp a1 h = some res) : zcl (d + 4) 29 [zr ((16, 4, 0) : zF), zi a1] h (zQp h res) := by
  rw [s_X4_kindOf] at e
  refine ⟨zm_X4_kindOf, rfl, ?_⟩
  show zwp (d + 4) zm_X4_kindOf 0 [some (zr ((16, 4, 0) : zF)), some (zi a1)] [] h _
  refine zwp.go (m := 2) (j := 2) (ls' := [some (zr ((16, 4, 0) : zF)), some (zi a1)]) (st' := [zi (32 : Int32), zi a1]) (h' := h) rfl ?_
  refine zb_if (j := 6) (j2 := 3) e rfl (fun e => ?_) (fun e => ?_)
  · refine zwp.go (m := 1) (j := 7) (ls' := [some (zr ((16, 4, 0) : zF)), some (zi a1)]) (st' := [zi (1 : Int32)]) (h' := h) rfl ?_
    cases e
    exact zwp.ret rfl rfl ⟨rfl, rfl⟩
  · refine zwp.go (m := 2) (j := 5) (ls' := [some (zr ((16, 4, 0) : zF)), some (zi a1)]) (st' := [zi (10 : Int32), zi a1]) (h' := h) rfl ?_
    refine zb_if (j := 8) (j2 := 6) e rfl (fun e => ?_) (fun e => ?_)
    · refine zwp.go (m := 2) (j := 10) (ls' := [some (zr ((16, 4, 0) : zF)), some (zi a1)]) (st' := [zi (97 : Int32), zi a1]) (h' := h) rfl ?_
      refine zb_if (j := 16) (j2 := 11) e rfl (fun e => ?_) (fun e => ?_)
      · refine zwp.fg (a := [none, some (zi a1)]) (And.intro rfl trivial) ?_
        exact s_X4_kindOf_J16_ok d ρ hρ tp htp a1 h _ hR e
      · refine zwp.go (m := 2) (j := 13) (ls' := [some (zr ((16, 4, 0) : zF)), some (zi a1)]) (st' := [zi (122 : Int32), zi a1]) (h' := h) rfl ?_
        refine zb_if (j := 16) (j2 := 14) e rfl (fun e => ?_) (fun e => ?_)
        · refine zwp.fg (a := [none, some (zi a1)]) (And.intro rfl trivial) ?_
          exact s_X4_kindOf_J16_ok d ρ hρ tp htp a1 h _ hR e
        · refine zwp.go (m := 1) (j := 15) (ls' := [some (zr ((16, 4, 0) : zF)), some (zi a1)]) (st' := [zi (2 : Int32)]) (h' := h) rfl ?_
          cases e
          exact zwp.ret rfl rfl ⟨rfl, rfl⟩
    · refine zwp.go (m := 1) (j := 7) (ls' := [some (zr ((16, 4, 0) : zF)), some (zi a1)]) (st' := [zi (1 : Int32)]) (h' := h) rfl ?_
      cases e
      exact zwp.ret rfl rfl ⟨rfl, rfl⟩
def s_X4_endOfRow_L2 (tp : Nat) : Nat → Int32 → Int32 → zH → Option (Int32)
  | 0, _, _, _ => none
  | n + 1, l2, l3, h => if (zI h 16 1) ≤ l3 then (some l3) else (zix l3 700 fun i1 => (s_X4_kindOf tp (zI h 1 i1) h).bind fun v2 => if ¬ v2 = l2 then (some l3) else (s_X4_endOfRow_L2 tp n l2 (l3 + (1 : Int32)) h))
theorem s_X4_endOfRow_L2_ok (d : Nat) (ρ : Nat → Nat → Option zF) (hρ : zSh ρ) (tp : Nat) (htp : ρ 16 2 = some (tp, 3, 0) ∧ zPlS ρ tp) : ∀ (n : Nat) (l2 : Int32) (l3 : Int32) (h : zH) (res : Int32) (hR : zRq h ρ) (e : s_X4_endOfRow_L2 tp n l2 l3 h = some res), zwp (d + 5) zm_X4_endOfRow 2 [some (zr ((16, 4, 0) : zF)), none, some (zi l2), some (zi l3)] [] h (zQp h res) := by
  intro n
  induction n with
  | zero => intro l2 l3 h res hR e; cases e
  | succ n ih =>
    intro l2 l3 h res hR e
    rw [s_X4_endOfRow_L2] at e
    refine zwp.go (m := 3) (j := 5) (ls' := [some (zr ((16, 4, 0) : zF)), none, some (zi l2), some (zi l3)]) (st' := [zi (zI h 16 1), zi l3]) (h' := h) rfl ?_
    refine zb_if (j := 16) (j2 := 6) e rfl (fun e => ?_) (fun e => ?_)
    · refine zwp.go (m := 1) (j := 17) (ls' := [some (zr ((16, 4, 0) : zF)), none, some (zi l2), some (zi l3)]) (st' := [zi l3]) (h' := h) rfl ?_
      cases e
      exact zwp.ret rfl rfl ⟨rfl, rfl⟩
    · refine zwp.go (m := 2) (j := 8) (ls' := [some (zr ((16, 4, 0) : zF)), none, some (zi l2), some (zi l3)]) (st' := [zr ((16, 4, 0) : zF), zr ((16, 4, 0) : zF)]) (h' := h) rfl ?_
      refine zc_sr (r := ((1, 21, 700) : zF)) (zrf (a := 16) (y := 0) hR rfl (hρ 16 0 rfl)) rfl ?_
      refine zwp.go (m := 1) (j := 10) (ls' := [some (zr ((16, 4, 0) : zF)), none, some (zi l2), some (zi l3)]) (st' := [zi l3, zr ((1, 21, 700) : zF), zr ((16, 4, 0) : zF)]) (h' := h) rfl ?_
      refine zc_ai e (fun _ => rfl) (fun i1 e => ?_)
      refine zc_cp (d := d + 4) e (fun q e => s_X4_kindOf_ok (d + 0) ρ hρ tp (zI h 1 i1) htp h q hR e) rfl rfl (fun v2 e => ?_)
      refine zwp.go (m := 1) (j := 13) (ls' := [some (zr ((16, 4, 0) : zF)), none, some (zi l2), some (zi l3)]) (st' := [zi l2, zi v2]) (h' := h) rfl ?_
      refine zb_if (j := 16) (j2 := 14) e rfl (fun e => ?_) (fun e => ?_)
      · refine zwp.go (m := 1) (j := 17) (ls' := [some (zr ((16, 4, 0) : zF)), none, some (zi l2), some (zi l3)]) (st' := [zi l3]) (h' := h) rfl ?_
        cases e
        exact zwp.ret rfl rfl ⟨rfl, rfl⟩
      · refine zwp.go (m := 2) (j := 2) (ls' := [some (zr ((16, 4, 0) : zF)), none, some (zi l2), some (zi (l3 + (1 : Int32)))]) (st' := []) (h' := h) rfl ?_
        exact ih l2 (l3 + (1 : Int32)) h _ hR e
def s_X4_endOfRow (tp : Nat) (a1 : Int32) (a2 : Int32) (h : zH) : Option (Int32) := s_X4_endOfRow_L2 tp zfu a2 a1 h
theorem s_X4_endOfRow_ok (d : Nat) (ρ : Nat → Nat → Option zF) (hρ : zSh ρ) (tp : Nat) (a1 : Int32) (a2 : Int32) (htp : ρ 16 2 = some (tp, 3, 0) ∧ zPlS ρ tp) (h : zH) (res : Int32) (hR : zRq h ρ) (e : s_X4_endOfRow tp a1 a2 h = some res) : zcl (d + 5) 30 [zr ((16, 4, 0) : zF), zi a1, zi a2] h (zQp h res) := by
  rw [s_X4_endOfRow] at e
  refine ⟨zm_X4_endOfRow, rfl, ?_⟩
  show zwp (d + 5) zm_X4_endOfRow 0 [some (zr ((16, 4, 0) : zF)), some (zi a1), some (zi a2), none] [] h _
  refine zwp.go (m := 2) (j := 2) (ls' := [some (zr ((16, 4, 0) : zF)), some (zi a1), some (zi a2), some (zi a1)]) (st' := []) (h' := h) rfl ?_
  refine zwp.fg (a := [some (zr ((16, 4, 0) : zF)), none, some (zi a2), some (zi a1)]) (And.intro rfl (And.intro rfl (And.intro rfl trivial))) ?_
  exact s_X4_endOfRow_L2_ok d ρ hρ tp htp zfu a2 a1 h _ hR e
def s_X4_advance_L60 (tp : Nat) : Nat → Int32 → zH → Option (zH)
  | 0, _, _ => none
  | n + 1, l1, h => if (zI h 16 4) ≤ l1 then (some h) else (if ((zI h 16 3) + (4 : Int32)) ≤ l1 then (some h) else (zix l1 700 fun i1 => zlt (zwI h 16 6 ((((10 : Int32) * (zI h 16 6)) + (zI h 1 i1)) - (48 : Int32))) fun h2 => s_X4_advance_L60 tp n (l1 + (1 : Int32)) h2))
theorem s_X4_advance_L60_ok (d : Nat) (ρ : Nat → Nat → Option zF) (hρ : zSh ρ) (tp : Nat) (htp : ρ 16 2 = some (tp, 3, 0) ∧ zPlS ρ tp) : ∀ (n : Nat) (l1 : Int32) (h : zH) (res : zH) (hR : zRq h ρ) (e : s_X4_advance_L60 tp n l1 h = some res), zwp (d + 6) zm_X4_advance 60 [some (zr ((16, 4, 0) : zF)), some (zi l1)] [] h (zQv ρ res) := by
  intro n
  induction n with
  | zero => intro l1 h res hR e; cases e
  | succ n ih =>
    intro l1 h res hR e
    rw [s_X4_advance_L60] at e
    refine zwp.go (m := 3) (j := 63) (ls' := [some (zr ((16, 4, 0) : zF)), some (zi l1)]) (st' := [zi (zI h 16 4), zi l1]) (h' := h) rfl ?_
    refine zb_if (j := 85) (j2 := 64) e rfl (fun e => ?_) (fun e => ?_)
    · cases e
      exact zwp.rv rfl ⟨⟨rfl, rfl⟩, hR⟩
    · refine zwp.go (m := 5) (j := 69) (ls' := [some (zr ((16, 4, 0) : zF)), some (zi l1)]) (st' := [zi ((zI h 16 3) + (4 : Int32)), zi l1]) (h' := h) rfl ?_
      refine zb_if (j := 85) (j2 := 70) e rfl (fun e => ?_) (fun e => ?_)
      · cases e
        exact zwp.rv rfl ⟨⟨rfl, rfl⟩, hR⟩
      · refine zwp.go (m := 6) (j := 76) (ls' := [some (zr ((16, 4, 0) : zF)), some (zi l1)]) (st' := [zr ((16, 4, 0) : zF), zi ((10 : Int32) * (zI h 16 6)), zr ((16, 4, 0) : zF)]) (h' := h) rfl ?_
        refine zc_sr (r := ((1, 21, 700) : zF)) (zrf (a := 16) (y := 0) hR rfl (hρ 16 0 rfl)) rfl ?_
        refine zwp.go (m := 1) (j := 78) (ls' := [some (zr ((16, 4, 0) : zF)), some (zi l1)]) (st' := [zi l1, zr ((1, 21, 700) : zF), zi ((10 : Int32) * (zI h 16 6)), zr ((16, 4, 0) : zF)]) (h' := h) rfl ?_
        refine zc_ai e (fun _ => rfl) (fun i1 e => ?_)
        refine zwp.go (m := 3) (j := 82) (ls' := [some (zr ((16, 4, 0) : zF)), some (zi l1)]) (st' := [zi ((((10 : Int32) * (zI h 16 6)) + (zI h 1 i1)) - (48 : Int32)), zr ((16, 4, 0) : zF)]) (h' := h) rfl ?_
        refine zc_w e rfl hR (fun h2 hR2 e => ?_)
        refine zwp.go (m := 2) (j := 60) (ls' := [some (zr ((16, 4, 0) : zF)), some (zi (l1 + (1 : Int32)))]) (st' := []) (h' := h2) rfl ?_
        exact ih (l1 + (1 : Int32)) h2 _ hR2 e
def s_X4_advance_J49 (tp : Nat) (s1 : Int32) (h : zH) : Option (zH) := zlt (zwI h 16 4 s1) fun h1 => if ¬ (zI h1 16 5) = (3 : Int32) then (some h1) else (zlt (zwI h1 16 6 (0 : Int32)) fun h2 => s_X4_advance_L60 tp zfu (zI h2 16 3) h2)
theorem s_X4_advance_J49_ok (d : Nat) (ρ : Nat → Nat → Option zF) (hρ : zSh ρ) (tp : Nat) (htp : ρ 16 2 = some (tp, 3, 0) ∧ zPlS ρ tp) (s1 : Int32) (h : zH) (res : zH) (hR : zRq h ρ) (e : s_X4_advance_J49 tp s1 h = some res) : zwp (d + 6) zm_X4_advance 49 [some (zr ((16, 4, 0) : zF)), none] [zi s1, zr ((16, 4, 0) : zF)] h (zQv ρ res) := by
  rw [s_X4_advance_J49] at e
  refine zc_w e rfl hR (fun h1 hR1 e => ?_)
  refine zwp.go (m := 3) (j := 53) (ls' := [some (zr ((16, 4, 0) : zF)), none]) (st' := [zi (3 : Int32), zi (zI h1 16 5)]) (h' := h1) rfl ?_
  refine zb_if (j := 85) (j2 := 54) e rfl (fun e => ?_) (fun e => ?_)
  · cases e
    exact zwp.rv rfl ⟨⟨rfl, rfl⟩, hR1⟩
  · refine zwp.go (m := 2) (j := 56) (ls' := [some (zr ((16, 4, 0) : zF)), none]) (st' := [zi (0 : Int32), zr ((16, 4, 0) : zF)]) (h' := h1) rfl ?_
    refine zc_w e rfl hR1 (fun h2 hR2 e => ?_)
    refine zwp.go (m := 3) (j := 60) (ls' := [some (zr ((16, 4, 0) : zF)), some (zi (zI h2 16 3))]) (st' := []) (h' := h2) rfl ?_
    exact s_X4_advance_L60_ok d ρ hρ tp htp zfu (zI h2 16 3) h2 _ hR2 e
def s_X4_advance_J38 (tp : Nat) (h : zH) : Option (zH) := (s_X4_endOfRow tp (zI h 16 3) (zI h 16 5) h).bind fun v1 => s_X4_advance_J49 tp v1 h
theorem s_X4_advance_J38_ok (d : Nat) (ρ : Nat → Nat → Option zF) (hρ : zSh ρ) (tp : Nat) (htp : ρ 16 2 = some (tp, 3, 0) ∧ zPlS ρ tp) (h : zH) (res : zH) (hR : zRq h ρ) (e : s_X4_advance_J38 tp  h = some res) : zwp (d + 6) zm_X4_advance 38 [some (zr ((16, 4, 0) : zF)), none] [zr ((16, 4, 0) : zF)] h (zQv ρ res) := by
  rw [s_X4_advance_J38] at e
  refine zwp.go (m := 5) (j := 43) (ls' := [some (zr ((16, 4, 0) : zF)), none]) (st' := [zi (zI h 16 5), zi (zI h 16 3), zr ((16, 4, 0) : zF), zr ((16, 4, 0) : zF)]) (h' := h) rfl ?_
  refine zc_cp (d := d + 5) e (fun q e => s_X4_endOfRow_ok (d + 0) ρ hρ tp (zI h 16 3) (zI h 16 5) htp h q hR e) rfl rfl (fun v1 e => ?_)
  refine zwp.go (m := 1) (j := 49) (ls' := [some (zr ((16, 4, 0) : zF)), none]) (st' := [zi v1, zr ((16, 4, 0) : zF)]) (h' := h) rfl ?_
  exact s_X4_advance_J49_ok d ρ hρ tp htp v1 h _ hR e
def s_X4_advance (tp : Nat) (h : zH) : Option (zH) := (s_X4_endOfRow tp (zI h 16 4) (1 : Int32) h).bind fun v1 => zlt (zwI h 16 3 v1) fun h2 => zlt (zwI h2 16 4 (zI h2 16 3)) fun h3 => if (zI h3 16 3) < (zI h3 16 1) then (zix (zI h3 16 3) 700 fun i4 => (s_X4_kindOf tp (zI h3 1 i4) h3).bind fun v5 => zlt (zwI h3 16 5 v5) fun h6 => if (zI h6 16 5) = (2 : Int32) then (s_X4_advance_J38 tp h6) else (if ¬ (zI h6 16 5) = (3 : Int32) then (s_X4_advance_J49 tp ((zI h6 16 3) + (1 : Int32)) h6) else (s_X4_advance_J38 tp h6))) else (zlt (zwI h3 16 5 (0 : Int32)) fun h7 => some h7)
theorem s_X4_advance_ok (d : Nat) (ρ : Nat → Nat → Option zF) (hρ : zSh ρ) (tp : Nat) (htp : ρ 16 2 = some (tp, 3, 0) ∧ zPlS ρ tp) (h : zH) (res : zH) (hR : zRq h ρ) (e : s_X4_advance tp h = some res) : zcl (d + 6) 31 [zr ((16, 4, 0) : zF)] h (zQv ρ res) := by
  rw [s_X4_advance] at e
  refine ⟨zm_X4_advance, rfl, ?_⟩
  show zwp (d + 6) zm_X4_advance 0 [some (zr ((16, 4, 0) : zF)), none] [] h _
  refine zwp.go (m := 5) (j := 5) (ls' := [some (zr ((16, 4, 0) : zF)), none]) (st' := [zi (1 : Int32), zi (zI h 16 4), zr ((16, 4, 0) : zF), zr ((16, 4, 0) : zF)]) (h' := h) rfl ?_
  refine zc_cp (d := d + 5) e (fun q e => s_X4_endOfRow_ok (d + 0) ρ hρ tp (zI h 16 4) (1 : Int32) htp h q hR e) rfl rfl (fun v1 e => ?_)
  refine zc_w e rfl hR (fun h2 hR2 e => ?_)
  refine zwp.go (m := 3) (j := 10) (ls' := [some (zr ((16, 4, 0) : zF)), none]) (st' := [zi (zI h2 16 3), zr ((16, 4, 0) : zF)]) (h' := h2) rfl ?_
  refine zc_w e rfl hR2 (fun h3 hR3 e => ?_)
  refine zwp.go (m := 4) (j := 15) (ls' := [some (zr ((16, 4, 0) : zF)), none]) (st' := [zi (zI h3 16 1), zi (zI h3 16 3)]) (h' := h3) rfl ?_
  refine zb_if (j := 20) (j2 := 16) e rfl (fun e => ?_) (fun e => ?_)
  · refine zwp.go (m := 3) (j := 23) (ls' := [some (zr ((16, 4, 0) : zF)), none]) (st' := [zr ((16, 4, 0) : zF), zr ((16, 4, 0) : zF), zr ((16, 4, 0) : zF)]) (h' := h3) rfl ?_
    refine zc_sr (r := ((1, 21, 700) : zF)) (zrf (a := 16) (y := 0) hR3 rfl (hρ 16 0 rfl)) rfl ?_
    refine zwp.go (m := 2) (j := 26) (ls' := [some (zr ((16, 4, 0) : zF)), none]) (st' := [zi (zI h3 16 3), zr ((1, 21, 700) : zF), zr ((16, 4, 0) : zF), zr ((16, 4, 0) : zF)]) (h' := h3) rfl ?_
    refine zc_ai e (fun _ => rfl) (fun i4 e => ?_)
    refine zc_cp (d := d + 5) e (fun q e => s_X4_kindOf_ok (d + 1) ρ hρ tp (zI h3 1 i4) htp h3 q hR3 e) rfl rfl (fun v5 e => ?_)
    refine zc_w e rfl hR3 (fun h6 hR6 e => ?_)
    refine zwp.go (m := 4) (j := 33) (ls' := [some (zr ((16, 4, 0) : zF)), none]) (st' := [zi (2 : Int32), zi (zI h6 16 5), zr ((16, 4, 0) : zF)]) (h' := h6) rfl ?_
    refine zb_if (j := 38) (j2 := 34) e rfl (fun e => ?_) (fun e => ?_)
    · exact s_X4_advance_J38_ok d ρ hρ tp htp h6 _ hR6 e
    · refine zwp.go (m := 3) (j := 37) (ls' := [some (zr ((16, 4, 0) : zF)), none]) (st' := [zi (3 : Int32), zi (zI h6 16 5), zr ((16, 4, 0) : zF)]) (h' := h6) rfl ?_
      refine zb_if (j := 45) (j2 := 38) e rfl (fun e => ?_) (fun e => ?_)
      · refine zwp.go (m := 4) (j := 49) (ls' := [some (zr ((16, 4, 0) : zF)), none]) (st' := [zi ((zI h6 16 3) + (1 : Int32)), zr ((16, 4, 0) : zF)]) (h' := h6) rfl ?_
        exact s_X4_advance_J49_ok d ρ hρ tp htp ((zI h6 16 3) + (1 : Int32)) h6 _ hR6 e
      · exact s_X4_advance_J38_ok d ρ hρ tp htp h6 _ hR6 e
  · refine zwp.go (m := 2) (j := 18) (ls' := [some (zr ((16, 4, 0) : zF)), none]) (st' := [zi (0 : Int32), zr ((16, 4, 0) : zF)]) (h' := h3) rfl ?_
    refine zc_w e rfl hR3 (fun h7 hR7 e => ?_)
    cases e
    exact zwp.rv rfl ⟨⟨rfl, rfl⟩, hR7⟩
def s_J3_checkIndex_8e157 (a0 : Int32) (a1 : Int32) (a2 : zF) (h : zH) : Option (Int32) := if a0 < 0 then (none) else (if a0 < a1 then (some a0) else (none))
theorem s_J3_checkIndex_8e157_ok (d : Nat) (ρ : Nat → Nat → Option zF) (hρ : zSh ρ) (a0 : Int32) (a1 : Int32) (a2 : zF) (h : zH) (res : Int32) (hR : zRq h ρ) (e : s_J3_checkIndex_8e157 a0 a1 a2 h = some res) : zcl d 32 [zi a0, zi a1, zr a2] h (zQp h res) := by
  rw [s_J3_checkIndex_8e157] at e
  refine ⟨zm_J3_checkIndex_8e157, rfl, ?_⟩
  show zwp d zm_J3_checkIndex_8e157 0 [some (zi a0), some (zi a1), some (zr a2)] [] h _
  refine zwp.go (m := 1) (j := 1) (ls' := [some (zi a0), some (zi a1), some (zr a2)]) (st' := [zi a0]) (h' := h) rfl ?_
  refine zb_if (j := 5) (j2 := 2) e rfl (fun e => ?_) (fun e => ?_)
  · refine zwp.go (m := 3) (j := 8) (ls' := [some (zi a0), some (zi a1), some (zr a2)]) (st' := [zi a1, zi a0, zr a2]) (h' := h) rfl ?_
    cases e
  · refine zwp.go (m := 2) (j := 4) (ls' := [some (zi a0), some (zi a1), some (zr a2)]) (st' := [zi a1, zi a0]) (h' := h) rfl ?_
    refine zb_if (j := 10) (j2 := 5) e rfl (fun e => ?_) (fun e => ?_)
    · refine zwp.go (m := 1) (j := 11) (ls' := [some (zi a0), some (zi a1), some (zr a2)]) (st' := [zi a0]) (h' := h) rfl ?_
      cases e
      exact zwp.ret rfl rfl ⟨rfl, rfl⟩
    · refine zwp.go (m := 3) (j := 8) (ls' := [some (zi a0), some (zi a1), some (zr a2)]) (st' := [zi a1, zi a0, zr a2]) (h' := h) rfl ?_
      cases e
def s_J0_checkIndex_df160 (a0 : Int32) (a1 : Int32) (h : zH) : Option (Unit) := (s_J3_checkIndex_8e157 a0 a1 ((0, 34, 0) : zF) h).bind fun v1 => some ()
theorem s_J0_checkIndex_df160_ok (d : Nat) (ρ : Nat → Nat → Option zF) (hρ : zSh ρ) (a0 : Int32) (a1 : Int32) (h : zH) (res : Unit) (hR : zRq h ρ) (e : s_J0_checkIndex_df160 a0 a1 h = some res) : zcl (d + 1) 33 [zi a0, zi a1] h (zQn h res) := by
  rw [s_J0_checkIndex_df160] at e
  refine ⟨zm_J0_checkIndex_df160, rfl, ?_⟩
  show zwp (d + 1) zm_J0_checkIndex_df160 0 [some (zi a0), some (zi a1)] [] h _
  refine zwp.go (m := 3) (j := 3) (ls' := [some (zi a0), some (zi a1)]) (st' := [zr ((0, 34, 0) : zF), zi a1, zi a0]) (h' := h) rfl ?_
  refine zc_cp (d := d + 0) e (fun q e => s_J3_checkIndex_8e157_ok (d + 0) ρ hρ a0 a1 ((0, 34, 0) : zF) h q hR e) rfl rfl (fun v1 e => ?_)
  refine zwp.go (m := 1) (j := 5) (ls' := [some (zi a0), some (zi a1)]) (st' := []) (h' := h) rfl ?_
  cases e
  exact zwp.rv rfl ⟨rfl, rfl⟩
def s_J1_charAt_3b067 (a0 n0 : Nat) (a1 : Int32) (h : zH) : Option (Int32) := (s_J0_checkIndex_df160 a1 (Int32.ofNat n0) h).bind fun _ => zix a1 n0 fun i1 => zrp 2 (((zby zTX a0 i1) &&& (255 : Int32)).toUInt32 % 65536).toInt32
theorem s_J1_charAt_3b067_ok (d : Nat) (ρ : Nat → Nat → Option zF) (hρ : zSh ρ) (a0 n0 : Nat) (a1 : Int32) (h : zH) (res : Int32) (hR : zRq h ρ) (e : s_J1_charAt_3b067 a0 n0 a1 h = some res) : zcl (d + 2) 34 [zr ((a0, 33, n0) : zF), zi a1] h (zQp h res) := by
  rw [s_J1_charAt_3b067] at e
  refine ⟨zm_J1_charAt_3b067, rfl, ?_⟩
  show zwp (d + 2) zm_J1_charAt_3b067 0 [some (zr ((a0, 33, n0) : zF)), some (zi a1)] [] h _
  refine zwp.go (m := 3) (j := 3) (ls' := [some (zr ((a0, 33, n0) : zF)), some (zi a1)]) (st' := [zi (Int32.ofNat n0), zi a1]) (h' := h) rfl ?_
  refine zc_cn (d := d + 1) e (fun q e => s_J0_checkIndex_df160_ok (d + 0) ρ hρ a1 (Int32.ofNat n0) h q hR e) rfl rfl (fun e => ?_)
  refine zwp.go (m := 2) (j := 6) (ls' := [some (zr ((a0, 33, n0) : zF)), some (zi a1)]) (st' := [zi a1, zr ((a0, 33, n0) : zF)]) (h' := h) rfl ?_
  refine zc_ab e (fun _ => rfl) (fun i1 e => ?_)
  refine zwp.go (m := 3) (j := 10) (ls' := [some (zr ((a0, 33, n0) : zF)), some (zi a1)]) (st' := [zi (((zby zTX a0 i1) &&& (255 : Int32)).toUInt32 % 65536).toInt32]) (h' := h) rfl ?_
  exact zc_rp e rfl
def s_J0_charAt_5068e (a0 : Nat) (a1 : Int32) (h : zH) : Option (Int32) := (s_J0_isLatin1_aae02 a0 h).bind fun v1 => if v1 = 0 then (none) else ((s_J1_charAt_3b067 a0 (zbl zTX a0) a1 h).bind fun v2 => zrp 2 v2)
theorem s_J0_charAt_5068e_ok (d : Nat) (ρ : Nat → Nat → Option zF) (hρ : zSh ρ) (a0 : Nat) (a1 : Int32) (h : zH) (res : Int32) (hR : zRq h ρ) (e : s_J0_charAt_5068e a0 a1 h = some res) : zcl (d + 3) 35 [zr ((a0, 30, 0) : zF), zi a1] h (zQp h res) := by
  rw [s_J0_charAt_5068e] at e
  refine ⟨zm_J0_charAt_5068e, rfl, ?_⟩
  show zwp (d + 3) zm_J0_charAt_5068e 0 [some (zr ((a0, 30, 0) : zF)), some (zi a1)] [] h _
  refine zwp.go (m := 1) (j := 1) (ls' := [some (zr ((a0, 30, 0) : zF)), some (zi a1)]) (st' := [zr ((a0, 30, 0) : zF)]) (h' := h) rfl ?_
  refine zc_cp (d := d + 2) e (fun q e => s_J0_isLatin1_aae02_ok (d + 2) ρ hρ a0 h q hR e) rfl rfl (fun v1 e => ?_)
  refine zb_if (j := 8) (j2 := 3) e rfl (fun e => ?_) (fun e => ?_)
  · refine zwp.go (m := 3) (j := 11) (ls' := [some (zr ((a0, 30, 0) : zF)), some (zi a1)]) (st' := [zi a1, zr ((a0, 33, (zbl zTX a0)) : zF)]) (h' := h) rfl ?_
    cases e
  · refine zwp.go (m := 3) (j := 6) (ls' := [some (zr ((a0, 30, 0) : zF)), some (zi a1)]) (st' := [zi a1, zr ((a0, 33, (zbl zTX a0)) : zF)]) (h' := h) rfl ?_
    refine zc_cp (d := d + 2) e (fun q e => s_J1_charAt_3b067_ok (d + 0) ρ hρ a0 (zbl zTX a0) a1 h q hR e) rfl rfl (fun v2 e => ?_)
    exact zc_rp e rfl
def s_X4_isWord_L16 (tp : Nat) (a1 : Nat) : Nat → Int32 → zH → Option (Int32)
  | 0, _, _ => none
  | n + 1, l2, h => (s_J0_length_8abf5 a1 h).bind fun v1 => if v1 ≤ l2 then (some (1 : Int32)) else (zix ((zI h 16 3) + l2) 700 fun i2 => (s_J0_charAt_5068e a1 l2 h).bind fun v3 => if (zI h 1 i2) = v3 then (s_X4_isWord_L16 tp a1 n (l2 + (1 : Int32)) h) else (some (0 : Int32)))
theorem s_X4_isWord_L16_ok (d : Nat) (ρ : Nat → Nat → Option zF) (hρ : zSh ρ) (tp : Nat) (a1 : Nat) (htp : ρ 16 2 = some (tp, 3, 0) ∧ zPlS ρ tp) : ∀ (n : Nat) (l2 : Int32) (h : zH) (res : Int32) (hR : zRq h ρ) (e : s_X4_isWord_L16 tp a1 n l2 h = some res), zwp (d + 4) zm_X4_isWord 16 [some (zr ((16, 4, 0) : zF)), some (zr ((a1, 30, 0) : zF)), some (zi l2)] [] h (zQp h res) := by
  intro n
  induction n with
  | zero => intro l2 h res hR e; cases e
  | succ n ih =>
    intro l2 h res hR e
    rw [s_X4_isWord_L16] at e
    refine zwp.go (m := 2) (j := 18) (ls' := [some (zr ((16, 4, 0) : zF)), some (zr ((a1, 30, 0) : zF)), some (zi l2)]) (st' := [zr ((a1, 30, 0) : zF), zi l2]) (h' := h) rfl ?_
    refine zc_cp (d := d + 3) e (fun q e => s_J0_length_8abf5_ok (d + 2) ρ hρ a1 h q hR e) rfl rfl (fun v1 e => ?_)
    refine zb_if (j := 35) (j2 := 20) e rfl (fun e => ?_) (fun e => ?_)
    · refine zwp.go (m := 1) (j := 36) (ls' := [some (zr ((16, 4, 0) : zF)), some (zr ((a1, 30, 0) : zF)), some (zi l2)]) (st' := [zi (1 : Int32)]) (h' := h) rfl ?_
      cases e
      exact zwp.ret rfl rfl ⟨rfl, rfl⟩
    · refine zwp.go (m := 1) (j := 21) (ls' := [some (zr ((16, 4, 0) : zF)), some (zr ((a1, 30, 0) : zF)), some (zi l2)]) (st' := [zr ((16, 4, 0) : zF)]) (h' := h) rfl ?_
      refine zc_sr (r := ((1, 21, 700) : zF)) (zrf (a := 16) (y := 0) hR rfl (hρ 16 0 rfl)) rfl ?_
      refine zwp.go (m := 4) (j := 26) (ls' := [some (zr ((16, 4, 0) : zF)), some (zr ((a1, 30, 0) : zF)), some (zi l2)]) (st' := [zi ((zI h 16 3) + l2), zr ((1, 21, 700) : zF)]) (h' := h) rfl ?_
      refine zc_ai e (fun _ => rfl) (fun i2 e => ?_)
      refine zwp.go (m := 2) (j := 29) (ls' := [some (zr ((16, 4, 0) : zF)), some (zr ((a1, 30, 0) : zF)), some (zi l2)]) (st' := [zi l2, zr ((a1, 30, 0) : zF), zi (zI h 1 i2)]) (h' := h) rfl ?_
      refine zc_cp (d := d + 3) e (fun q e => s_J0_charAt_5068e_ok (d + 0) ρ hρ a1 l2 h q hR e) rfl rfl (fun v3 e => ?_)
      refine zb_if (j := 33) (j2 := 31) e rfl (fun e => ?_) (fun e => ?_)
      · refine zwp.go (m := 2) (j := 16) (ls' := [some (zr ((16, 4, 0) : zF)), some (zr ((a1, 30, 0) : zF)), some (zi (l2 + (1 : Int32)))]) (st' := []) (h' := h) rfl ?_
        exact ih (l2 + (1 : Int32)) h _ hR e
      · refine zwp.go (m := 1) (j := 32) (ls' := [some (zr ((16, 4, 0) : zF)), some (zr ((a1, 30, 0) : zF)), some (zi l2)]) (st' := [zi (0 : Int32)]) (h' := h) rfl ?_
        cases e
        exact zwp.ret rfl rfl ⟨rfl, rfl⟩
def s_X4_isWord (tp : Nat) (a1 : Nat) (h : zH) : Option (Int32) := if ¬ (zI h 16 5) = (2 : Int32) then (some (0 : Int32)) else ((s_J0_length_8abf5 a1 h).bind fun v1 => if ((zI h 16 4) - (zI h 16 3)) = v1 then (s_X4_isWord_L16 tp a1 zfu (0 : Int32) h) else (some (0 : Int32)))
theorem s_X4_isWord_ok (d : Nat) (ρ : Nat → Nat → Option zF) (hρ : zSh ρ) (tp : Nat) (a1 : Nat) (htp : ρ 16 2 = some (tp, 3, 0) ∧ zPlS ρ tp) (h : zH) (res : Int32) (hR : zRq h ρ) (e : s_X4_isWord tp a1 h = some res) : zcl (d + 4) 36 [zr ((16, 4, 0) : zF), zr ((a1, 30, 0) : zF)] h (zQp h res) := by
  rw [s_X4_isWord] at e
  refine ⟨zm_X4_isWord, rfl, ?_⟩
  show zwp (d + 4) zm_X4_isWord 0 [some (zr ((16, 4, 0) : zF)), some (zr ((a1, 30, 0) : zF)), none] [] h _
  refine zwp.go (m := 3) (j := 3) (ls' := [some (zr ((16, 4, 0) : zF)), some (zr ((a1, 30, 0) : zF)), none]) (st' := [zi (2 : Int32), zi (zI h 16 5)]) (h' := h) rfl ?_
  refine zb_if (j := 12) (j2 := 4) e rfl (fun e => ?_) (fun e => ?_)
  · refine zwp.go (m := 1) (j := 13) (ls' := [some (zr ((16, 4, 0) : zF)), some (zr ((a1, 30, 0) : zF)), none]) (st' := [zi (0 : Int32)]) (h' := h) rfl ?_
    cases e
    exact zwp.ret rfl rfl ⟨rfl, rfl⟩
  · refine zwp.go (m := 6) (j := 10) (ls' := [some (zr ((16, 4, 0) : zF)), some (zr ((a1, 30, 0) : zF)), none]) (st' := [zr ((a1, 30, 0) : zF), zi ((zI h 16 4) - (zI h 16 3))]) (h' := h) rfl ?_
    refine zc_cp (d := d + 3) e (fun q e => s_J0_length_8abf5_ok (d + 2) ρ hρ a1 h q hR e) rfl rfl (fun v1 e => ?_)
    refine zb_if (j := 14) (j2 := 12) e rfl (fun e => ?_) (fun e => ?_)
    · refine zwp.go (m := 2) (j := 16) (ls' := [some (zr ((16, 4, 0) : zF)), some (zr ((a1, 30, 0) : zF)), some (zi (0 : Int32))]) (st' := []) (h' := h) rfl ?_
      exact s_X4_isWord_L16_ok d ρ hρ tp a1 htp zfu (0 : Int32) h _ hR e
    · refine zwp.go (m := 1) (j := 13) (ls' := [some (zr ((16, 4, 0) : zF)), some (zr ((a1, 30, 0) : zF)), none]) (st' := [zi (0 : Int32)]) (h' := h) rfl ?_
      cases e
      exact zwp.ret rfl rfl ⟨rfl, rfl⟩
def s_X4_checkNumber (tp : Nat) (a1 : Int32) (h : zH) : Option (Int32) := if (zI h 16 5) = (3 : Int32) then (if (4 : Int32) < ((zI h 16 4) - (zI h 16 3)) then (some (2 : Int32)) else (if (zI h 16 6) ≤ a1 then (some (0 : Int32)) else (some (2 : Int32)))) else (some (1 : Int32))
theorem s_X4_checkNumber_ok (d : Nat) (ρ : Nat → Nat → Option zF) (hρ : zSh ρ) (tp : Nat) (a1 : Int32) (htp : ρ 16 2 = some (tp, 3, 0) ∧ zPlS ρ tp) (h : zH) (res : Int32) (hR : zRq h ρ) (e : s_X4_checkNumber tp a1 h = some res) : zcl d 37 [zr ((16, 4, 0) : zF), zi a1] h (zQp h res) := by
  rw [s_X4_checkNumber] at e
  refine ⟨zm_X4_checkNumber, rfl, ?_⟩
  show zwp d zm_X4_checkNumber 0 [some (zr ((16, 4, 0) : zF)), some (zi a1)] [] h _
  refine zwp.go (m := 3) (j := 3) (ls' := [some (zr ((16, 4, 0) : zF)), some (zi a1)]) (st' := [zi (3 : Int32), zi (zI h 16 5)]) (h' := h) rfl ?_
  refine zb_if (j := 6) (j2 := 4) e rfl (fun e => ?_) (fun e => ?_)
  · refine zwp.go (m := 6) (j := 12) (ls' := [some (zr ((16, 4, 0) : zF)), some (zi a1)]) (st' := [zi (4 : Int32), zi ((zI h 16 4) - (zI h 16 3))]) (h' := h) rfl ?_
    refine zb_if (j := 17) (j2 := 13) e rfl (fun e => ?_) (fun e => ?_)
    · refine zwp.go (m := 2) (j := 20) (ls' := [some (zr ((16, 4, 0) : zF)), some (zi a1)]) (st' := [zi (2 : Int32)]) (h' := h) rfl ?_
      cases e
      exact zwp.ret rfl rfl ⟨rfl, rfl⟩
    · refine zwp.go (m := 3) (j := 16) (ls' := [some (zr ((16, 4, 0) : zF)), some (zi a1)]) (st' := [zi a1, zi (zI h 16 6)]) (h' := h) rfl ?_
      refine zb_if (j := 19) (j2 := 17) e rfl (fun e => ?_) (fun e => ?_)
      · refine zwp.go (m := 1) (j := 20) (ls' := [some (zr ((16, 4, 0) : zF)), some (zi a1)]) (st' := [zi (0 : Int32)]) (h' := h) rfl ?_
        cases e
        exact zwp.ret rfl rfl ⟨rfl, rfl⟩
      · refine zwp.go (m := 2) (j := 20) (ls' := [some (zr ((16, 4, 0) : zF)), some (zi a1)]) (st' := [zi (2 : Int32)]) (h' := h) rfl ?_
        cases e
        exact zwp.ret rfl rfl ⟨rfl, rfl⟩
  · refine zwp.go (m := 1) (j := 5) (ls' := [some (zr ((16, 4, 0) : zF)), some (zi a1)]) (st' := [zi (1 : Int32)]) (h' := h) rfl ?_
    cases e
    exact zwp.ret rfl rfl ⟨rfl, rfl⟩
def s_X4_isSign (tp : Nat) (a1 : Int32) (h : zH) : Option (Int32) := if ¬ (zI h 16 5) = (4 : Int32) then (some (0 : Int32)) else (zix (zI h 16 3) 700 fun i1 => if ¬ (zI h 1 i1) = a1 then (some (0 : Int32)) else (some (1 : Int32)))
theorem s_X4_isSign_ok (d : Nat) (ρ : Nat → Nat → Option zF) (hρ : zSh ρ) (tp : Nat) (a1 : Int32) (htp : ρ 16 2 = some (tp, 3, 0) ∧ zPlS ρ tp) (h : zH) (res : Int32) (hR : zRq h ρ) (e : s_X4_isSign tp a1 h = some res) : zcl d 38 [zr ((16, 4, 0) : zF), zi a1] h (zQp h res) := by
  rw [s_X4_isSign] at e
  refine ⟨zm_X4_isSign, rfl, ?_⟩
  show zwp d zm_X4_isSign 0 [some (zr ((16, 4, 0) : zF)), some (zi a1)] [] h _
  refine zwp.go (m := 3) (j := 3) (ls' := [some (zr ((16, 4, 0) : zF)), some (zi a1)]) (st' := [zi (4 : Int32), zi (zI h 16 5)]) (h' := h) rfl ?_
  refine zb_if (j := 13) (j2 := 4) e rfl (fun e => ?_) (fun e => ?_)
  · refine zwp.go (m := 1) (j := 14) (ls' := [some (zr ((16, 4, 0) : zF)), some (zi a1)]) (st' := [zi (0 : Int32)]) (h' := h) rfl ?_
    cases e
    exact zwp.ret rfl rfl ⟨rfl, rfl⟩
  · refine zwp.go (m := 1) (j := 5) (ls' := [some (zr ((16, 4, 0) : zF)), some (zi a1)]) (st' := [zr ((16, 4, 0) : zF)]) (h' := h) rfl ?_
    refine zc_sr (r := ((1, 21, 700) : zF)) (zrf (a := 16) (y := 0) hR rfl (hρ 16 0 rfl)) rfl ?_
    refine zwp.go (m := 2) (j := 8) (ls' := [some (zr ((16, 4, 0) : zF)), some (zi a1)]) (st' := [zi (zI h 16 3), zr ((1, 21, 700) : zF)]) (h' := h) rfl ?_
    refine zc_ai e (fun _ => rfl) (fun i1 e => ?_)
    refine zwp.go (m := 1) (j := 10) (ls' := [some (zr ((16, 4, 0) : zF)), some (zi a1)]) (st' := [zi a1, zi (zI h 1 i1)]) (h' := h) rfl ?_
    refine zb_if (j := 13) (j2 := 11) e rfl (fun e => ?_) (fun e => ?_)
    · refine zwp.go (m := 1) (j := 14) (ls' := [some (zr ((16, 4, 0) : zF)), some (zi a1)]) (st' := [zi (0 : Int32)]) (h' := h) rfl ?_
      cases e
      exact zwp.ret rfl rfl ⟨rfl, rfl⟩
    · refine zwp.go (m := 2) (j := 14) (ls' := [some (zr ((16, 4, 0) : zF)), some (zi a1)]) (st' := [zi (1 : Int32)]) (h' := h) rfl ?_
      cases e
      exact zwp.ret rfl rfl ⟨rfl, rfl⟩
def s_X4_readLineEnd (tp : Nat) (h : zH) : Option (Int32 × zH) := (s_X4_isSign tp (59 : Int32) h).bind fun v1 => if ¬ v1 = 0 then ((s_X4_advance tp h).bind fun h2 => some ((0 : Int32), h2)) else (some ((1 : Int32), h))
theorem s_X4_readLineEnd_ok (d : Nat) (ρ : Nat → Nat → Option zF) (hρ : zSh ρ) (tp : Nat) (htp : ρ 16 2 = some (tp, 3, 0) ∧ zPlS ρ tp) (h : zH) (res : Int32 × zH) (hR : zRq h ρ) (e : s_X4_readLineEnd tp h = some res) : zcl (d + 7) 39 [zr ((16, 4, 0) : zF)] h (zQi ρ res) := by
  rw [s_X4_readLineEnd] at e
  refine ⟨zm_X4_readLineEnd, rfl, ?_⟩
  show zwp (d + 7) zm_X4_readLineEnd 0 [some (zr ((16, 4, 0) : zF))] [] h _
  refine zwp.go (m := 2) (j := 2) (ls' := [some (zr ((16, 4, 0) : zF))]) (st' := [zi (59 : Int32), zr ((16, 4, 0) : zF)]) (h' := h) rfl ?_
  refine zc_cp (d := d + 6) e (fun q e => s_X4_isSign_ok (d + 6) ρ hρ tp (59 : Int32) htp h q hR e) rfl rfl (fun v1 e => ?_)
  refine zb_if (j := 6) (j2 := 4) e rfl (fun e => ?_) (fun e => ?_)
  · refine zwp.go (m := 1) (j := 7) (ls' := [some (zr ((16, 4, 0) : zF))]) (st' := [zr ((16, 4, 0) : zF)]) (h' := h) rfl ?_
    refine zc_cv (d := d + 6) e (fun q e => s_X4_advance_ok (d + 0) ρ hρ tp htp h q hR e) rfl rfl (fun h2 hR2 e => ?_)
    refine zwp.go (m := 1) (j := 9) (ls' := [some (zr ((16, 4, 0) : zF))]) (st' := [zi (0 : Int32)]) (h' := h2) rfl ?_
    cases e
    exact zwp.ret rfl rfl ⟨⟨rfl, rfl⟩, hR2⟩
  · refine zwp.go (m := 1) (j := 5) (ls' := [some (zr ((16, 4, 0) : zF))]) (st' := [zi (1 : Int32)]) (h' := h) rfl ?_
    cases e
    exact zwp.ret rfl rfl ⟨⟨rfl, rfl⟩, hR⟩
def s_X4_readRib_J39 (tp : Nat) (s1 : Int32) (s2 : Int32) (h : zH) : Option (Int32 × zH) := zlt (zwI h tp 7 (s1 ||| s2)) fun h1 => zlt (zwI h1 tp 6 ((zI h1 tp 6) + (1 : Int32))) fun h2 => (s_X4_advance tp h2).bind fun h3 => zbd (s_X4_readLineEnd tp h3) fun v5 h4 => some (v5, h4)
theorem s_X4_readRib_J39_ok (d : Nat) (ρ : Nat → Nat → Option zF) (hρ : zSh ρ) (tp : Nat) (htp : ρ 16 2 = some (tp, 3, 0) ∧ zPlS ρ tp) (s1 : Int32) (s2 : Int32) (h : zH) (res : Int32 × zH) (hR : zRq h ρ) (e : s_X4_readRib_J39 tp s1 s2 h = some res) : zwp (d + 8) zm_X4_readRib 39 [some (zr ((16, 4, 0) : zF)), none, none] [zi s2, zi s1, zr ((tp, 3, 0) : zF)] h (zQi ρ res) := by
  rw [s_X4_readRib_J39] at e
  refine zwp.go (m := 1) (j := 40) (ls' := [some (zr ((16, 4, 0) : zF)), none, none]) (st' := [zi (s1 ||| s2), zr ((tp, 3, 0) : zF)]) (h' := h) rfl ?_
  refine zc_w e rfl hR (fun h1 hR1 e => ?_)
  refine zwp.go (m := 1) (j := 42) (ls' := [some (zr ((16, 4, 0) : zF)), none, none]) (st' := [zr ((16, 4, 0) : zF)]) (h' := h1) rfl ?_
  refine zc_sr (r := ((tp, 3, 0) : zF)) (zrf (a := 16) (y := 2) hR1 rfl htp.1) rfl ?_
  refine zwp.go (m := 4) (j := 47) (ls' := [some (zr ((16, 4, 0) : zF)), none, none]) (st' := [zi ((zI h1 tp 6) + (1 : Int32)), zr ((tp, 3, 0) : zF)]) (h' := h1) rfl ?_
  refine zc_w e rfl hR1 (fun h2 hR2 e => ?_)
  refine zwp.go (m := 1) (j := 49) (ls' := [some (zr ((16, 4, 0) : zF)), none, none]) (st' := [zr ((16, 4, 0) : zF)]) (h' := h2) rfl ?_
  refine zc_cv (d := d + 7) e (fun q e => s_X4_advance_ok (d + 1) ρ hρ tp htp h2 q hR2 e) rfl rfl (fun h3 hR3 e => ?_)
  refine zwp.go (m := 1) (j := 51) (ls' := [some (zr ((16, 4, 0) : zF)), none, none]) (st' := [zr ((16, 4, 0) : zF)]) (h' := h3) rfl ?_
  refine zc_ci (d := d + 7) e (fun q e => s_X4_readLineEnd_ok (d + 0) ρ hρ tp htp h3 q hR3 e) rfl rfl (fun v5 h4 hR4 e => ?_)
  cases e
  exact zwp.ret rfl rfl ⟨⟨rfl, rfl⟩, hR4⟩
def s_X4_readRib (tp : Nat) (a1 : Int32) (h : zH) : Option (Int32 × zH) := if (zI h tp 6) < (12 : Int32) then ((s_X4_advance tp h).bind fun h1 => (s_X4_checkNumber tp (99 : Int32) h1).bind fun v2 => if v2 = 0 then (zix (zI h1 tp 6) 12 fun i4 => zlt (zwI h1 (tp + 1) i4 (zI h1 16 6)) fun h3 => if a1 = 0 then (s_X4_readRib_J39 tp (zI h3 tp 7) (0 : Int32) h3) else (s_X4_readRib_J39 tp (zI h3 tp 7) ((1 : Int32) <<< ((zI h3 tp 6) &&& 31)) h3)) else (some (v2, h1))) else (some ((2 : Int32), h))
theorem s_X4_readRib_ok (d : Nat) (ρ : Nat → Nat → Option zF) (hρ : zSh ρ) (tp : Nat) (a1 : Int32) (htp : ρ 16 2 = some (tp, 3, 0) ∧ zPlS ρ tp) (h : zH) (res : Int32 × zH) (hR : zRq h ρ) (e : s_X4_readRib tp a1 h = some res) : zcl (d + 8) 40 [zr ((16, 4, 0) : zF), zi a1] h (zQi ρ res) := by
  rw [s_X4_readRib] at e
  refine ⟨zm_X4_readRib, rfl, ?_⟩
  show zwp (d + 8) zm_X4_readRib 0 [some (zr ((16, 4, 0) : zF)), some (zi a1), none] [] h _
  refine zwp.go (m := 1) (j := 1) (ls' := [some (zr ((16, 4, 0) : zF)), some (zi a1), none]) (st' := [zr ((16, 4, 0) : zF)]) (h' := h) rfl ?_
  refine zc_sr (r := ((tp, 3, 0) : zF)) (zrf (a := 16) (y := 2) hR rfl htp.1) rfl ?_
  refine zwp.go (m := 2) (j := 4) (ls' := [some (zr ((16, 4, 0) : zF)), some (zi a1), none]) (st' := [zi (12 : Int32), zi (zI h tp 6)]) (h' := h) rfl ?_
  refine zb_if (j := 7) (j2 := 5) e rfl (fun e => ?_) (fun e => ?_)
  · refine zwp.go (m := 1) (j := 8) (ls' := [some (zr ((16, 4, 0) : zF)), some (zi a1), none]) (st' := [zr ((16, 4, 0) : zF)]) (h' := h) rfl ?_
    refine zc_cv (d := d + 7) e (fun q e => s_X4_advance_ok (d + 1) ρ hρ tp htp h q hR e) rfl rfl (fun h1 hR1 e => ?_)
    refine zwp.go (m := 2) (j := 11) (ls' := [some (zr ((16, 4, 0) : zF)), some (zi a1), none]) (st' := [zi (99 : Int32), zr ((16, 4, 0) : zF)]) (h' := h1) rfl ?_
    refine zc_cp (d := d + 7) e (fun q e => s_X4_checkNumber_ok (d + 7) ρ hρ tp (99 : Int32) htp h1 q hR1 e) rfl rfl (fun v2 e => ?_)
    refine zwp.go (m := 2) (j := 14) (ls' := [some (zr ((16, 4, 0) : zF)), some (zi a1), some (zi v2)]) (st' := [zi v2]) (h' := h1) rfl ?_
    refine zb_if (j := 17) (j2 := 15) e rfl (fun e => ?_) (fun e => ?_)
    · refine zwp.go (m := 1) (j := 18) (ls' := [some (zr ((16, 4, 0) : zF)), some (zi a1), some (zi v2)]) (st' := [zr ((16, 4, 0) : zF)]) (h' := h1) rfl ?_
      refine zc_sr (r := ((tp, 3, 0) : zF)) (zrf (a := 16) (y := 2) hR1 rfl htp.1) rfl ?_
      refine zc_sr (r := (((tp + 1), 20, 12) : zF)) (zrf (a := tp) (y := 0) hR1 rfl htp.2.2.1) rfl ?_
      refine zwp.go (m := 1) (j := 21) (ls' := [some (zr ((16, 4, 0) : zF)), some (zi a1), some (zi v2)]) (st' := [zr ((16, 4, 0) : zF), zr (((tp + 1), 20, 12) : zF)]) (h' := h1) rfl ?_
      refine zc_sr (r := ((tp, 3, 0) : zF)) (zrf (a := 16) (y := 2) hR1 rfl htp.1) rfl ?_
      refine zwp.go (m := 3) (j := 25) (ls' := [some (zr ((16, 4, 0) : zF)), some (zi a1), some (zi v2)]) (st' := [zi (zI h1 16 6), zi (zI h1 tp 6), zr (((tp + 1), 20, 12) : zF)]) (h' := h1) rfl ?_
      refine zc_si e (fun _ => rfl) hR1 (fun h3 hR3 e => ?_)
      refine zwp.go (m := 1) (j := 27) (ls' := [some (zr ((16, 4, 0) : zF)), some (zi a1), some (zi v2)]) (st' := [zr ((16, 4, 0) : zF)]) (h' := h3) rfl ?_
      refine zc_sr (r := ((tp, 3, 0) : zF)) (zrf (a := 16) (y := 2) hR3 rfl htp.1) rfl ?_
      refine zwp.go (m := 3) (j := 31) (ls' := [some (zr ((16, 4, 0) : zF)), some (zi a1), some (zi v2)]) (st' := [zi a1, zi (zI h3 tp 7), zr ((tp, 3, 0) : zF)]) (h' := h3) rfl ?_
      refine zb_if (j := 38) (j2 := 32) e rfl (fun e => ?_) (fun e => ?_)
      · refine zwp.go (m := 1) (j := 39) (ls' := [some (zr ((16, 4, 0) : zF)), some (zi a1), some (zi v2)]) (st' := [zi (0 : Int32), zi (zI h3 tp 7), zr ((tp, 3, 0) : zF)]) (h' := h3) rfl ?_
        refine zwp.fg (a := [some (zr ((16, 4, 0) : zF)), none, none]) (And.intro rfl trivial) ?_
        exact s_X4_readRib_J39_ok d ρ hρ tp htp (zI h3 tp 7) (0 : Int32) h3 _ hR3 e
      · refine zwp.go (m := 2) (j := 34) (ls' := [some (zr ((16, 4, 0) : zF)), some (zi a1), some (zi v2)]) (st' := [zr ((16, 4, 0) : zF), zi (1 : Int32), zi (zI h3 tp 7), zr ((tp, 3, 0) : zF)]) (h' := h3) rfl ?_
        refine zc_sr (r := ((tp, 3, 0) : zF)) (zrf (a := 16) (y := 2) hR3 rfl htp.1) rfl ?_
        refine zwp.go (m := 3) (j := 39) (ls' := [some (zr ((16, 4, 0) : zF)), some (zi a1), some (zi v2)]) (st' := [zi ((1 : Int32) <<< ((zI h3 tp 6) &&& 31)), zi (zI h3 tp 7), zr ((tp, 3, 0) : zF)]) (h' := h3) rfl ?_
        refine zwp.fg (a := [some (zr ((16, 4, 0) : zF)), none, none]) (And.intro rfl trivial) ?_
        exact s_X4_readRib_J39_ok d ρ hρ tp htp (zI h3 tp 7) ((1 : Int32) <<< ((zI h3 tp 6) &&& 31)) h3 _ hR3 e
    · refine zwp.go (m := 1) (j := 16) (ls' := [some (zr ((16, 4, 0) : zF)), some (zi a1), some (zi v2)]) (st' := [zi v2]) (h' := h1) rfl ?_
      cases e
      exact zwp.ret rfl rfl ⟨⟨rfl, rfl⟩, hR1⟩
  · refine zwp.go (m := 1) (j := 6) (ls' := [some (zr ((16, 4, 0) : zF)), some (zi a1), none]) (st' := [zi (2 : Int32)]) (h' := h) rfl ?_
    cases e
    exact zwp.ret rfl rfl ⟨⟨rfl, rfl⟩, hR⟩
def s_X4_readClans_L14 (tp : Nat) : Nat → Int32 → zH → Option (Int32 × zH)
  | 0, _, _ => none
  | n + 1, l1, h => if (1 : Int32) < l1 then (zbd (s_X4_readLineEnd tp h) fun v2 h1 => some (v2, h1)) else ((s_X4_checkNumber tp (9 : Int32) h).bind fun v3 => if v3 = 0 then (zix l1 2 fun i6 => zlt (zwI h (tp + 3) i6 (zI h 16 6)) fun h4 => (s_X4_advance tp h4).bind fun h5 => s_X4_readClans_L14 tp n (l1 + (1 : Int32)) h5) else (some (v3, h)))
theorem s_X4_readClans_L14_ok (d : Nat) (ρ : Nat → Nat → Option zF) (hρ : zSh ρ) (tp : Nat) (htp : ρ 16 2 = some (tp, 3, 0) ∧ zPlS ρ tp) : ∀ (n : Nat) (l1 : Int32) (h : zH) (res : Int32 × zH) (hR : zRq h ρ) (e : s_X4_readClans_L14 tp n l1 h = some res), zwp (d + 8) zm_X4_readClans 14 [some (zr ((16, 4, 0) : zF)), some (zi l1), none] [] h (zQi ρ res) := by
  intro n
  induction n with
  | zero => intro l1 h res hR e; cases e
  | succ n ih =>
    intro l1 h res hR e
    rw [s_X4_readClans_L14] at e
    refine zwp.go (m := 2) (j := 16) (ls' := [some (zr ((16, 4, 0) : zF)), some (zi l1), none]) (st' := [zi (1 : Int32), zi l1]) (h' := h) rfl ?_
    refine zb_if (j := 36) (j2 := 17) e rfl (fun e => ?_) (fun e => ?_)
    · refine zwp.go (m := 1) (j := 37) (ls' := [some (zr ((16, 4, 0) : zF)), some (zi l1), none]) (st' := [zr ((16, 4, 0) : zF)]) (h' := h) rfl ?_
      refine zc_ci (d := d + 7) e (fun q e => s_X4_readLineEnd_ok (d + 0) ρ hρ tp htp h q hR e) rfl rfl (fun v2 h1 hR1 e => ?_)
      cases e
      exact zwp.ret rfl rfl ⟨⟨rfl, rfl⟩, hR1⟩
    · refine zwp.go (m := 2) (j := 19) (ls' := [some (zr ((16, 4, 0) : zF)), some (zi l1), none]) (st' := [zi (9 : Int32), zr ((16, 4, 0) : zF)]) (h' := h) rfl ?_
      refine zc_cp (d := d + 7) e (fun q e => s_X4_checkNumber_ok (d + 7) ρ hρ tp (9 : Int32) htp h q hR e) rfl rfl (fun v3 e => ?_)
      refine zwp.go (m := 2) (j := 22) (ls' := [some (zr ((16, 4, 0) : zF)), some (zi l1), some (zi v3)]) (st' := [zi v3]) (h' := h) rfl ?_
      refine zb_if (j := 25) (j2 := 23) e rfl (fun e => ?_) (fun e => ?_)
      · refine zwp.go (m := 1) (j := 26) (ls' := [some (zr ((16, 4, 0) : zF)), some (zi l1), some (zi v3)]) (st' := [zr ((16, 4, 0) : zF)]) (h' := h) rfl ?_
        refine zc_sr (r := ((tp, 3, 0) : zF)) (zrf (a := 16) (y := 2) hR rfl htp.1) rfl ?_
        refine zc_sr (r := (((tp + 3), 20, 2) : zF)) (zrf (a := tp) (y := 2) hR rfl htp.2.2.2.2.1) rfl ?_
        refine zwp.go (m := 3) (j := 31) (ls' := [some (zr ((16, 4, 0) : zF)), some (zi l1), some (zi v3)]) (st' := [zi (zI h 16 6), zi l1, zr (((tp + 3), 20, 2) : zF)]) (h' := h) rfl ?_
        refine zc_si e (fun _ => rfl) hR (fun h4 hR4 e => ?_)
        refine zwp.go (m := 1) (j := 33) (ls' := [some (zr ((16, 4, 0) : zF)), some (zi l1), some (zi v3)]) (st' := [zr ((16, 4, 0) : zF)]) (h' := h4) rfl ?_
        refine zc_cv (d := d + 7) e (fun q e => s_X4_advance_ok (d + 1) ρ hρ tp htp h4 q hR4 e) rfl rfl (fun h5 hR5 e => ?_)
        refine zwp.go (m := 2) (j := 14) (ls' := [some (zr ((16, 4, 0) : zF)), some (zi (l1 + (1 : Int32))), some (zi v3)]) (st' := []) (h' := h5) rfl ?_
        refine zwp.fg (a := [some (zr ((16, 4, 0) : zF)), some (zi (l1 + (1 : Int32))), none]) (And.intro rfl (And.intro rfl trivial)) ?_
        exact ih (l1 + (1 : Int32)) h5 _ hR5 e
      · refine zwp.go (m := 1) (j := 24) (ls' := [some (zr ((16, 4, 0) : zF)), some (zi l1), some (zi v3)]) (st' := [zi v3]) (h' := h) rfl ?_
        cases e
        exact zwp.ret rfl rfl ⟨⟨rfl, rfl⟩, hR⟩
def s_X4_readClans (tp : Nat) (h : zH) : Option (Int32 × zH) := if (zI h tp 10) = 0 then (zlt (zwI h tp 10 (1 : Int32)) fun h1 => (s_X4_advance tp h1).bind fun h2 => s_X4_readClans_L14 tp zfu (0 : Int32) h2) else (some ((5 : Int32), h))
theorem s_X4_readClans_ok (d : Nat) (ρ : Nat → Nat → Option zF) (hρ : zSh ρ) (tp : Nat) (htp : ρ 16 2 = some (tp, 3, 0) ∧ zPlS ρ tp) (h : zH) (res : Int32 × zH) (hR : zRq h ρ) (e : s_X4_readClans tp h = some res) : zcl (d + 8) 41 [zr ((16, 4, 0) : zF)] h (zQi ρ res) := by
  rw [s_X4_readClans] at e
  refine ⟨zm_X4_readClans, rfl, ?_⟩
  show zwp (d + 8) zm_X4_readClans 0 [some (zr ((16, 4, 0) : zF)), none, none] [] h _
  refine zwp.go (m := 1) (j := 1) (ls' := [some (zr ((16, 4, 0) : zF)), none, none]) (st' := [zr ((16, 4, 0) : zF)]) (h' := h) rfl ?_
  refine zc_sr (r := ((tp, 3, 0) : zF)) (zrf (a := 16) (y := 2) hR rfl htp.1) rfl ?_
  refine zwp.go (m := 1) (j := 3) (ls' := [some (zr ((16, 4, 0) : zF)), none, none]) (st' := [zi (zI h tp 10)]) (h' := h) rfl ?_
  refine zb_if (j := 6) (j2 := 4) e rfl (fun e => ?_) (fun e => ?_)
  · refine zwp.go (m := 1) (j := 7) (ls' := [some (zr ((16, 4, 0) : zF)), none, none]) (st' := [zr ((16, 4, 0) : zF)]) (h' := h) rfl ?_
    refine zc_sr (r := ((tp, 3, 0) : zF)) (zrf (a := 16) (y := 2) hR rfl htp.1) rfl ?_
    refine zwp.go (m := 1) (j := 9) (ls' := [some (zr ((16, 4, 0) : zF)), none, none]) (st' := [zi (1 : Int32), zr ((tp, 3, 0) : zF)]) (h' := h) rfl ?_
    refine zc_w e rfl hR (fun h1 hR1 e => ?_)
    refine zwp.go (m := 1) (j := 11) (ls' := [some (zr ((16, 4, 0) : zF)), none, none]) (st' := [zr ((16, 4, 0) : zF)]) (h' := h1) rfl ?_
    refine zc_cv (d := d + 7) e (fun q e => s_X4_advance_ok (d + 1) ρ hρ tp htp h1 q hR1 e) rfl rfl (fun h2 hR2 e => ?_)
    refine zwp.go (m := 2) (j := 14) (ls' := [some (zr ((16, 4, 0) : zF)), some (zi (0 : Int32)), none]) (st' := []) (h' := h2) rfl ?_
    exact s_X4_readClans_L14_ok d ρ hρ tp htp zfu (0 : Int32) h2 _ hR2 e
  · refine zwp.go (m := 1) (j := 5) (ls' := [some (zr ((16, 4, 0) : zF)), none, none]) (st' := [zi (5 : Int32)]) (h' := h) rfl ?_
    cases e
    exact zwp.ret rfl rfl ⟨⟨rfl, rfl⟩, hR⟩
def s_X4_readVerse (tp : Nat) (h : zH) : Option (Int32 × zH) := if (zI h tp 8) < (8 : Int32) then ((s_X4_advance tp h).bind fun h1 => (s_X4_checkNumber tp (4095 : Int32) h1).bind fun v2 => if v2 = 0 then (zix (zI h1 tp 8) 8 fun i8 => zlt (zwI h1 (tp + 2) i8 (zI h1 16 6)) fun h3 => zlt (zwI h3 tp 8 ((zI h3 tp 8) + (1 : Int32))) fun h4 => (s_X4_advance tp h4).bind fun h5 => zbd (s_X4_readLineEnd tp h5) fun v7 h6 => some (v7, h6)) else (some (v2, h1))) else (some ((2 : Int32), h))
theorem s_X4_readVerse_ok (d : Nat) (ρ : Nat → Nat → Option zF) (hρ : zSh ρ) (tp : Nat) (htp : ρ 16 2 = some (tp, 3, 0) ∧ zPlS ρ tp) (h : zH) (res : Int32 × zH) (hR : zRq h ρ) (e : s_X4_readVerse tp h = some res) : zcl (d + 8) 42 [zr ((16, 4, 0) : zF)] h (zQi ρ res) := by
  rw [s_X4_readVerse] at e
  refine ⟨zm_X4_readVerse, rfl, ?_⟩
  show zwp (d + 8) zm_X4_readVerse 0 [some (zr ((16, 4, 0) : zF)), none] [] h _
  refine zwp.go (m := 1) (j := 1) (ls' := [some (zr ((16, 4, 0) : zF)), none]) (st' := [zr ((16, 4, 0) : zF)]) (h' := h) rfl ?_
  refine zc_sr (r := ((tp, 3, 0) : zF)) (zrf (a := 16) (y := 2) hR rfl htp.1) rfl ?_
  refine zwp.go (m := 2) (j := 4) (ls' := [some (zr ((16, 4, 0) : zF)), none]) (st' := [zi (8 : Int32), zi (zI h tp 8)]) (h' := h) rfl ?_
  refine zb_if (j := 7) (j2 := 5) e rfl (fun e => ?_) (fun e => ?_)
  · refine zwp.go (m := 1) (j := 8) (ls' := [some (zr ((16, 4, 0) : zF)), none]) (st' := [zr ((16, 4, 0) : zF)]) (h' := h) rfl ?_
    refine zc_cv (d := d + 7) e (fun q e => s_X4_advance_ok (d + 1) ρ hρ tp htp h q hR e) rfl rfl (fun h1 hR1 e => ?_)
    refine zwp.go (m := 2) (j := 11) (ls' := [some (zr ((16, 4, 0) : zF)), none]) (st' := [zi (4095 : Int32), zr ((16, 4, 0) : zF)]) (h' := h1) rfl ?_
    refine zc_cp (d := d + 7) e (fun q e => s_X4_checkNumber_ok (d + 7) ρ hρ tp (4095 : Int32) htp h1 q hR1 e) rfl rfl (fun v2 e => ?_)
    refine zwp.go (m := 2) (j := 14) (ls' := [some (zr ((16, 4, 0) : zF)), some (zi v2)]) (st' := [zi v2]) (h' := h1) rfl ?_
    refine zb_if (j := 17) (j2 := 15) e rfl (fun e => ?_) (fun e => ?_)
    · refine zwp.go (m := 1) (j := 18) (ls' := [some (zr ((16, 4, 0) : zF)), some (zi v2)]) (st' := [zr ((16, 4, 0) : zF)]) (h' := h1) rfl ?_
      refine zc_sr (r := ((tp, 3, 0) : zF)) (zrf (a := 16) (y := 2) hR1 rfl htp.1) rfl ?_
      refine zc_sr (r := (((tp + 2), 20, 8) : zF)) (zrf (a := tp) (y := 1) hR1 rfl htp.2.2.2.1) rfl ?_
      refine zwp.go (m := 1) (j := 21) (ls' := [some (zr ((16, 4, 0) : zF)), some (zi v2)]) (st' := [zr ((16, 4, 0) : zF), zr (((tp + 2), 20, 8) : zF)]) (h' := h1) rfl ?_
      refine zc_sr (r := ((tp, 3, 0) : zF)) (zrf (a := 16) (y := 2) hR1 rfl htp.1) rfl ?_
      refine zwp.go (m := 3) (j := 25) (ls' := [some (zr ((16, 4, 0) : zF)), some (zi v2)]) (st' := [zi (zI h1 16 6), zi (zI h1 tp 8), zr (((tp + 2), 20, 8) : zF)]) (h' := h1) rfl ?_
      refine zc_si e (fun _ => rfl) hR1 (fun h3 hR3 e => ?_)
      refine zwp.go (m := 1) (j := 27) (ls' := [some (zr ((16, 4, 0) : zF)), some (zi v2)]) (st' := [zr ((16, 4, 0) : zF)]) (h' := h3) rfl ?_
      refine zc_sr (r := ((tp, 3, 0) : zF)) (zrf (a := 16) (y := 2) hR3 rfl htp.1) rfl ?_
      refine zwp.go (m := 4) (j := 32) (ls' := [some (zr ((16, 4, 0) : zF)), some (zi v2)]) (st' := [zi ((zI h3 tp 8) + (1 : Int32)), zr ((tp, 3, 0) : zF)]) (h' := h3) rfl ?_
      refine zc_w e rfl hR3 (fun h4 hR4 e => ?_)
      refine zwp.go (m := 1) (j := 34) (ls' := [some (zr ((16, 4, 0) : zF)), some (zi v2)]) (st' := [zr ((16, 4, 0) : zF)]) (h' := h4) rfl ?_
      refine zc_cv (d := d + 7) e (fun q e => s_X4_advance_ok (d + 1) ρ hρ tp htp h4 q hR4 e) rfl rfl (fun h5 hR5 e => ?_)
      refine zwp.go (m := 1) (j := 36) (ls' := [some (zr ((16, 4, 0) : zF)), some (zi v2)]) (st' := [zr ((16, 4, 0) : zF)]) (h' := h5) rfl ?_
      refine zc_ci (d := d + 7) e (fun q e => s_X4_readLineEnd_ok (d + 0) ρ hρ tp htp h5 q hR5 e) rfl rfl (fun v7 h6 hR6 e => ?_)
      cases e
      exact zwp.ret rfl rfl ⟨⟨rfl, rfl⟩, hR6⟩
    · refine zwp.go (m := 1) (j := 16) (ls' := [some (zr ((16, 4, 0) : zF)), some (zi v2)]) (st' := [zi v2]) (h' := h1) rfl ?_
      cases e
      exact zwp.ret rfl rfl ⟨⟨rfl, rfl⟩, hR1⟩
  · refine zwp.go (m := 1) (j := 6) (ls' := [some (zr ((16, 4, 0) : zF)), none]) (st' := [zi (2 : Int32)]) (h' := h) rfl ?_
    cases e
    exact zwp.ret rfl rfl ⟨⟨rfl, rfl⟩, hR⟩
def s_X4_expectPart (tp : Nat) (a1 : Int32) (h : zH) : Option (zH) := zlt (zwI h 16 12 (1 : Int32)) fun h1 => zbo a1 (zlt (zwI h1 16 13 a1) fun h2 => zlt (zwI h2 16 10 (0 : Int32)) fun h3 => zlt (zwI h3 16 14 (0 : Int32)) fun h4 => some h4)
theorem s_X4_expectPart_ok (d : Nat) (ρ : Nat → Nat → Option zF) (hρ : zSh ρ) (tp : Nat) (a1 : Int32) (htp : ρ 16 2 = some (tp, 3, 0) ∧ zPlS ρ tp) (h : zH) (res : zH) (hR : zRq h ρ) (e : s_X4_expectPart tp a1 h = some res) : zcl d 43 [zr ((16, 4, 0) : zF), zi a1] h (zQv ρ res) := by
  rw [s_X4_expectPart] at e
  refine ⟨zm_X4_expectPart, rfl, ?_⟩
  show zwp d zm_X4_expectPart 0 [some (zr ((16, 4, 0) : zF)), some (zi a1)] [] h _
  refine zwp.go (m := 2) (j := 2) (ls' := [some (zr ((16, 4, 0) : zF)), some (zi a1)]) (st' := [zi (1 : Int32), zr ((16, 4, 0) : zF)]) (h' := h) rfl ?_
  refine zc_w e rfl hR (fun h1 hR1 e => ?_)
  refine zwp.go (m := 2) (j := 5) (ls' := [some (zr ((16, 4, 0) : zF)), some (zi a1)]) (st' := [zi a1, zr ((16, 4, 0) : zF)]) (h' := h1) rfl ?_
  refine zc_wb e rfl hR1 (fun h2 hR2 e => ?_)
  refine zwp.go (m := 2) (j := 8) (ls' := [some (zr ((16, 4, 0) : zF)), some (zi a1)]) (st' := [zi (0 : Int32), zr ((16, 4, 0) : zF)]) (h' := h2) rfl ?_
  refine zc_w e rfl hR2 (fun h3 hR3 e => ?_)
  refine zwp.go (m := 2) (j := 11) (ls' := [some (zr ((16, 4, 0) : zF)), some (zi a1)]) (st' := [zi (0 : Int32), zr ((16, 4, 0) : zF)]) (h' := h3) rfl ?_
  refine zc_w e rfl hR3 (fun h4 hR4 e => ?_)
  cases e
  exact zwp.rv rfl ⟨⟨rfl, rfl⟩, hR4⟩
def s_X4_emit (tp : Nat) (a1 : Int32) (h : zH) : Option (zH) := if (700 : Int32) ≤ (zI h tp 9) then (some h) else (zix (zI h tp 9) 700 fun i3 => zlt (zwI h (tp + 4) i3 a1) fun h1 => zlt (zwI h1 tp 9 ((zI h1 tp 9) + (1 : Int32))) fun h2 => some h2)
theorem s_X4_emit_ok (d : Nat) (ρ : Nat → Nat → Option zF) (hρ : zSh ρ) (tp : Nat) (a1 : Int32) (htp : ρ 16 2 = some (tp, 3, 0) ∧ zPlS ρ tp) (h : zH) (res : zH) (hR : zRq h ρ) (e : s_X4_emit tp a1 h = some res) : zcl d 44 [zr ((16, 4, 0) : zF), zi a1] h (zQv ρ res) := by
  rw [s_X4_emit] at e
  refine ⟨zm_X4_emit, rfl, ?_⟩
  show zwp d zm_X4_emit 0 [some (zr ((16, 4, 0) : zF)), some (zi a1)] [] h _
  refine zwp.go (m := 1) (j := 1) (ls' := [some (zr ((16, 4, 0) : zF)), some (zi a1)]) (st' := [zr ((16, 4, 0) : zF)]) (h' := h) rfl ?_
  refine zc_sr (r := ((tp, 3, 0) : zF)) (zrf (a := 16) (y := 2) hR rfl htp.1) rfl ?_
  refine zwp.go (m := 2) (j := 4) (ls' := [some (zr ((16, 4, 0) : zF)), some (zi a1)]) (st' := [zi (700 : Int32), zi (zI h tp 9)]) (h' := h) rfl ?_
  refine zb_if (j := 20) (j2 := 5) e rfl (fun e => ?_) (fun e => ?_)
  · cases e
    exact zwp.rv rfl ⟨⟨rfl, rfl⟩, hR⟩
  · refine zwp.go (m := 1) (j := 6) (ls' := [some (zr ((16, 4, 0) : zF)), some (zi a1)]) (st' := [zr ((16, 4, 0) : zF)]) (h' := h) rfl ?_
    refine zc_sr (r := ((tp, 3, 0) : zF)) (zrf (a := 16) (y := 2) hR rfl htp.1) rfl ?_
    refine zc_sr (r := (((tp + 4), 20, 700) : zF)) (zrf (a := tp) (y := 3) hR (zmu3 htp.2.1) htp.2.2.2.2.2.1) rfl ?_
    refine zwp.go (m := 1) (j := 9) (ls' := [some (zr ((16, 4, 0) : zF)), some (zi a1)]) (st' := [zr ((16, 4, 0) : zF), zr (((tp + 4), 20, 700) : zF)]) (h' := h) rfl ?_
    refine zc_sr (r := ((tp, 3, 0) : zF)) (zrf (a := 16) (y := 2) hR rfl htp.1) rfl ?_
    refine zwp.go (m := 2) (j := 12) (ls' := [some (zr ((16, 4, 0) : zF)), some (zi a1)]) (st' := [zi a1, zi (zI h tp 9), zr (((tp + 4), 20, 700) : zF)]) (h' := h) rfl ?_
    refine zc_si e (fun _ => rfl) hR (fun h1 hR1 e => ?_)
    refine zwp.go (m := 1) (j := 14) (ls' := [some (zr ((16, 4, 0) : zF)), some (zi a1)]) (st' := [zr ((16, 4, 0) : zF)]) (h' := h1) rfl ?_
    refine zc_sr (r := ((tp, 3, 0) : zF)) (zrf (a := 16) (y := 2) hR1 rfl htp.1) rfl ?_
    refine zwp.go (m := 4) (j := 19) (ls' := [some (zr ((16, 4, 0) : zF)), some (zi a1)]) (st' := [zi ((zI h1 tp 9) + (1 : Int32)), zr ((tp, 3, 0) : zF)]) (h' := h1) rfl ?_
    refine zc_w e rfl hR1 (fun h2 hR2 e => ?_)
    cases e
    exact zwp.rv rfl ⟨⟨rfl, rfl⟩, hR2⟩
def s_X4_workOut_L0 (tp : Nat) : Nat → Int32 → zH → Option (zH)
  | 0, _, _ => none
  | n + 1, l1, h => if (zI h 16 8) ≤ 0 then (some h) else (zix ((zI h 16 8) - (1 : Int32)) 100 fun i1 => zix (zI h 17 i1) 10 fun i2 => if (zrk i2) < l1 then (some h) else (zlt (zwI h 16 8 ((zI h 16 8) - (1 : Int32))) fun h3 => zix (zI h3 16 8) 100 fun i4 => (s_X4_emit tp ((20000 : Int32) + (zI h3 17 i4)) h3).bind fun h5 => s_X4_workOut_L0 tp n l1 h5))
theorem s_X4_workOut_L0_ok (d : Nat) (ρ : Nat → Nat → Option zF) (hρ : zSh ρ) (tp : Nat) (htp : ρ 16 2 = some (tp, 3, 0) ∧ zPlS ρ tp) : ∀ (n : Nat) (l1 : Int32) (h : zH) (res : zH) (hR : zRq h ρ) (e : s_X4_workOut_L0 tp n l1 h = some res), zwp (d + 1) zm_X4_workOut 0 [some (zr ((16, 4, 0) : zF)), some (zi l1)] [] h (zQv ρ res) := by
  intro n
  induction n with
  | zero => intro l1 h res hR e; cases e
  | succ n ih =>
    intro l1 h res hR e
    rw [s_X4_workOut_L0] at e
    refine zwp.go (m := 2) (j := 2) (ls' := [some (zr ((16, 4, 0) : zF)), some (zi l1)]) (st' := [zi (zI h 16 8)]) (h' := h) rfl ?_
    refine zb_if (j := 30) (j2 := 3) e rfl (fun e => ?_) (fun e => ?_)
    · cases e
      exact zwp.rv rfl ⟨⟨rfl, rfl⟩, hR⟩
    · refine zwp.go (m := 2) (j := 5) (ls' := [some (zr ((16, 4, 0) : zF)), some (zi l1)]) (st' := [zr ((16, 4, 0) : zF), zr ((0, 31, 10) : zF)]) (h' := h) rfl ?_
      refine zc_sr (r := ((17, 20, 100) : zF)) (zrf (a := 16) (y := 7) hR rfl (hρ 16 7 rfl)) rfl ?_
      refine zwp.go (m := 4) (j := 10) (ls' := [some (zr ((16, 4, 0) : zF)), some (zi l1)]) (st' := [zi ((zI h 16 8) - (1 : Int32)), zr ((17, 20, 100) : zF), zr ((0, 31, 10) : zF)]) (h' := h) rfl ?_
      refine zc_ai e (fun _ => rfl) (fun i1 e => ?_)
      refine zc_ak e (fun _ => rfl) (fun i2 e => ?_)
      refine zwp.go (m := 1) (j := 13) (ls' := [some (zr ((16, 4, 0) : zF)), some (zi l1)]) (st' := [zi l1, zi (zrk i2)]) (h' := h) rfl ?_
      refine zb_if (j := 30) (j2 := 14) e rfl (fun e => ?_) (fun e => ?_)
      · cases e
        exact zwp.rv rfl ⟨⟨rfl, rfl⟩, hR⟩
      · refine zwp.go (m := 5) (j := 19) (ls' := [some (zr ((16, 4, 0) : zF)), some (zi l1)]) (st' := [zi ((zI h 16 8) - (1 : Int32)), zr ((16, 4, 0) : zF)]) (h' := h) rfl ?_
        refine zc_w e rfl hR (fun h3 hR3 e => ?_)
        refine zwp.go (m := 3) (j := 23) (ls' := [some (zr ((16, 4, 0) : zF)), some (zi l1)]) (st' := [zr ((16, 4, 0) : zF), zi (20000 : Int32), zr ((16, 4, 0) : zF)]) (h' := h3) rfl ?_
        refine zc_sr (r := ((17, 20, 100) : zF)) (zrf (a := 16) (y := 7) hR3 rfl (hρ 16 7 rfl)) rfl ?_
        refine zwp.go (m := 2) (j := 26) (ls' := [some (zr ((16, 4, 0) : zF)), some (zi l1)]) (st' := [zi (zI h3 16 8), zr ((17, 20, 100) : zF), zi (20000 : Int32), zr ((16, 4, 0) : zF)]) (h' := h3) rfl ?_
        refine zc_ai e (fun _ => rfl) (fun i4 e => ?_)
        refine zwp.go (m := 1) (j := 28) (ls' := [some (zr ((16, 4, 0) : zF)), some (zi l1)]) (st' := [zi ((20000 : Int32) + (zI h3 17 i4)), zr ((16, 4, 0) : zF)]) (h' := h3) rfl ?_
        refine zc_cv (d := d + 0) e (fun q e => s_X4_emit_ok (d + 0) ρ hρ tp ((20000 : Int32) + (zI h3 17 i4)) htp h3 q hR3 e) rfl rfl (fun h5 hR5 e => ?_)
        refine zwp.go (m := 1) (j := 0) (ls' := [some (zr ((16, 4, 0) : zF)), some (zi l1)]) (st' := []) (h' := h5) rfl ?_
        exact ih l1 h5 _ hR5 e
def s_X4_workOut (tp : Nat) (a1 : Int32) (h : zH) : Option (zH) := s_X4_workOut_L0 tp zfu a1 h
theorem s_X4_workOut_ok (d : Nat) (ρ : Nat → Nat → Option zF) (hρ : zSh ρ) (tp : Nat) (a1 : Int32) (htp : ρ 16 2 = some (tp, 3, 0) ∧ zPlS ρ tp) (h : zH) (res : zH) (hR : zRq h ρ) (e : s_X4_workOut tp a1 h = some res) : zcl (d + 1) 45 [zr ((16, 4, 0) : zF), zi a1] h (zQv ρ res) := by
  rw [s_X4_workOut] at e
  refine ⟨zm_X4_workOut, rfl, ?_⟩
  show zwp (d + 1) zm_X4_workOut 0 [some (zr ((16, 4, 0) : zF)), some (zi a1)] [] h _
  exact s_X4_workOut_L0_ok d ρ hρ tp htp zfu a1 h _ hR e
def s_X4_hold (tp : Nat) (a1 : Int32) (h : zH) : Option (zH) := if (Int32.ofNat 100) ≤ (zI h 16 8) then (some h) else (zix (zI h 16 8) 100 fun i3 => zlt (zwI h 17 i3 a1) fun h1 => zlt (zwI h1 16 8 ((zI h1 16 8) + (1 : Int32))) fun h2 => some h2)
theorem s_X4_hold_ok (d : Nat) (ρ : Nat → Nat → Option zF) (hρ : zSh ρ) (tp : Nat) (a1 : Int32) (htp : ρ 16 2 = some (tp, 3, 0) ∧ zPlS ρ tp) (h : zH) (res : zH) (hR : zRq h ρ) (e : s_X4_hold tp a1 h = some res) : zcl d 46 [zr ((16, 4, 0) : zF), zi a1] h (zQv ρ res) := by
  rw [s_X4_hold] at e
  refine ⟨zm_X4_hold, rfl, ?_⟩
  show zwp d zm_X4_hold 0 [some (zr ((16, 4, 0) : zF)), some (zi a1)] [] h _
  refine zwp.go (m := 3) (j := 3) (ls' := [some (zr ((16, 4, 0) : zF)), some (zi a1)]) (st' := [zr ((16, 4, 0) : zF), zi (zI h 16 8)]) (h' := h) rfl ?_
  refine zc_sr (r := ((17, 20, 100) : zF)) (zrf (a := 16) (y := 7) hR rfl (hρ 16 7 rfl)) rfl ?_
  refine zwp.go (m := 1) (j := 5) (ls' := [some (zr ((16, 4, 0) : zF)), some (zi a1)]) (st' := [zi (Int32.ofNat 100), zi (zI h 16 8)]) (h' := h) rfl ?_
  refine zb_if (j := 18) (j2 := 6) e rfl (fun e => ?_) (fun e => ?_)
  · cases e
    exact zwp.rv rfl ⟨⟨rfl, rfl⟩, hR⟩
  · refine zwp.go (m := 1) (j := 7) (ls' := [some (zr ((16, 4, 0) : zF)), some (zi a1)]) (st' := [zr ((16, 4, 0) : zF)]) (h' := h) rfl ?_
    refine zc_sr (r := ((17, 20, 100) : zF)) (zrf (a := 16) (y := 7) hR rfl (hρ 16 7 rfl)) rfl ?_
    refine zwp.go (m := 3) (j := 11) (ls' := [some (zr ((16, 4, 0) : zF)), some (zi a1)]) (st' := [zi a1, zi (zI h 16 8), zr ((17, 20, 100) : zF)]) (h' := h) rfl ?_
    refine zc_si e (fun _ => rfl) hR (fun h1 hR1 e => ?_)
    refine zwp.go (m := 5) (j := 17) (ls' := [some (zr ((16, 4, 0) : zF)), some (zi a1)]) (st' := [zi ((zI h1 16 8) + (1 : Int32)), zr ((16, 4, 0) : zF)]) (h' := h1) rfl ?_
    refine zc_w e rfl hR1 (fun h2 hR2 e => ?_)
    cases e
    exact zwp.rv rfl ⟨⟨rfl, rfl⟩, hR2⟩
def s_X4_valueNamed (tp : Nat) (h : zH) : Option (Int32) := (s_X4_isWord tp 8 h).bind fun v1 => if v1 = 0 then ((s_X4_isWord tp 9 h).bind fun v2 => if v2 = 0 then ((s_X4_isWord tp 10 h).bind fun v3 => if v3 = 0 then (if (zI h 16 11) = 0 then ((s_X4_isWord tp 12 h).bind fun v4 => if v4 = 0 then (if (zI h 16 11) = 0 then ((s_X4_isWord tp 14 h).bind fun v5 => if v5 = 0 then (some (-1 : Int32)) else (some (4 : Int32))) else ((s_X4_isWord tp 13 h).bind fun v6 => if v6 = 0 then (some (-1 : Int32)) else (some (4 : Int32)))) else (some (3 : Int32))) else ((s_X4_isWord tp 11 h).bind fun v7 => if v7 = 0 then (if (zI h 16 11) = 0 then ((s_X4_isWord tp 14 h).bind fun v8 => if v8 = 0 then (some (-1 : Int32)) else (some (4 : Int32))) else ((s_X4_isWord tp 13 h).bind fun v9 => if v9 = 0 then (some (-1 : Int32)) else (some (4 : Int32)))) else (some (3 : Int32)))) else (some (2 : Int32))) else (some (1 : Int32))) else (some (0 : Int32))
theorem s_X4_valueNamed_ok (d : Nat) (ρ : Nat → Nat → Option zF) (hρ : zSh ρ) (tp : Nat) (htp : ρ 16 2 = some (tp, 3, 0) ∧ zPlS ρ tp) (h : zH) (res : Int32) (hR : zRq h ρ) (e : s_X4_valueNamed tp h = some res) : zcl (d + 5) 47 [zr ((16, 4, 0) : zF)] h (zQp h res) := by
  rw [s_X4_valueNamed] at e
  refine ⟨zm_X4_valueNamed, rfl, ?_⟩
  show zwp (d + 5) zm_X4_valueNamed 0 [some (zr ((16, 4, 0) : zF))] [] h _
  refine zwp.go (m := 2) (j := 2) (ls' := [some (zr ((16, 4, 0) : zF))]) (st' := [zr ((8, 30, 0) : zF), zr ((16, 4, 0) : zF)]) (h' := h) rfl ?_
  refine zc_cp (d := d + 4) e (fun q e => s_X4_isWord_ok (d + 0) ρ hρ tp 8 htp h q hR e) rfl rfl (fun v1 e => ?_)
  refine zb_if (j := 6) (j2 := 4) e rfl (fun e => ?_) (fun e => ?_)
  · refine zwp.go (m := 2) (j := 8) (ls' := [some (zr ((16, 4, 0) : zF))]) (st' := [zr ((9, 30, 0) : zF), zr ((16, 4, 0) : zF)]) (h' := h) rfl ?_
    refine zc_cp (d := d + 4) e (fun q e => s_X4_isWord_ok (d + 0) ρ hρ tp 9 htp h q hR e) rfl rfl (fun v2 e => ?_)
    refine zb_if (j := 12) (j2 := 10) e rfl (fun e => ?_) (fun e => ?_)
    · refine zwp.go (m := 2) (j := 14) (ls' := [some (zr ((16, 4, 0) : zF))]) (st' := [zr ((10, 30, 0) : zF), zr ((16, 4, 0) : zF)]) (h' := h) rfl ?_
      refine zc_cp (d := d + 4) e (fun q e => s_X4_isWord_ok (d + 0) ρ hρ tp 10 htp h q hR e) rfl rfl (fun v3 e => ?_)
      refine zb_if (j := 18) (j2 := 16) e rfl (fun e => ?_) (fun e => ?_)
      · refine zwp.go (m := 3) (j := 21) (ls' := [some (zr ((16, 4, 0) : zF))]) (st' := [zi (zI h 16 11), zr ((16, 4, 0) : zF)]) (h' := h) rfl ?_
        refine zb_if (j := 24) (j2 := 22) e rfl (fun e => ?_) (fun e => ?_)
        · refine zwp.go (m := 1) (j := 25) (ls' := [some (zr ((16, 4, 0) : zF))]) (st' := [zr ((12, 30, 0) : zF), zr ((16, 4, 0) : zF)]) (h' := h) rfl ?_
          refine zc_cp (d := d + 4) e (fun q e => s_X4_isWord_ok (d + 0) ρ hρ tp 12 htp h q hR e) rfl rfl (fun v4 e => ?_)
          refine zb_if (j := 29) (j2 := 27) e rfl (fun e => ?_) (fun e => ?_)
          · refine zwp.go (m := 3) (j := 32) (ls' := [some (zr ((16, 4, 0) : zF))]) (st' := [zi (zI h 16 11), zr ((16, 4, 0) : zF)]) (h' := h) rfl ?_
            refine zb_if (j := 35) (j2 := 33) e rfl (fun e => ?_) (fun e => ?_)
            · refine zwp.go (m := 1) (j := 36) (ls' := [some (zr ((16, 4, 0) : zF))]) (st' := [zr ((14, 30, 0) : zF), zr ((16, 4, 0) : zF)]) (h' := h) rfl ?_
              refine zc_cp (d := d + 4) e (fun q e => s_X4_isWord_ok (d + 0) ρ hρ tp 14 htp h q hR e) rfl rfl (fun v5 e => ?_)
              refine zb_if (j := 40) (j2 := 38) e rfl (fun e => ?_) (fun e => ?_)
              · refine zwp.go (m := 1) (j := 41) (ls' := [some (zr ((16, 4, 0) : zF))]) (st' := [zi (-1 : Int32)]) (h' := h) rfl ?_
                cases e
                exact zwp.ret rfl rfl ⟨rfl, rfl⟩
              · refine zwp.go (m := 2) (j := 41) (ls' := [some (zr ((16, 4, 0) : zF))]) (st' := [zi (4 : Int32)]) (h' := h) rfl ?_
                cases e
                exact zwp.ret rfl rfl ⟨rfl, rfl⟩
            · refine zwp.go (m := 2) (j := 36) (ls' := [some (zr ((16, 4, 0) : zF))]) (st' := [zr ((13, 30, 0) : zF), zr ((16, 4, 0) : zF)]) (h' := h) rfl ?_
              refine zc_cp (d := d + 4) e (fun q e => s_X4_isWord_ok (d + 0) ρ hρ tp 13 htp h q hR e) rfl rfl (fun v6 e => ?_)
              refine zb_if (j := 40) (j2 := 38) e rfl (fun e => ?_) (fun e => ?_)
              · refine zwp.go (m := 1) (j := 41) (ls' := [some (zr ((16, 4, 0) : zF))]) (st' := [zi (-1 : Int32)]) (h' := h) rfl ?_
                cases e
                exact zwp.ret rfl rfl ⟨rfl, rfl⟩
              · refine zwp.go (m := 2) (j := 41) (ls' := [some (zr ((16, 4, 0) : zF))]) (st' := [zi (4 : Int32)]) (h' := h) rfl ?_
                cases e
                exact zwp.ret rfl rfl ⟨rfl, rfl⟩
          · refine zwp.go (m := 1) (j := 28) (ls' := [some (zr ((16, 4, 0) : zF))]) (st' := [zi (3 : Int32)]) (h' := h) rfl ?_
            cases e
            exact zwp.ret rfl rfl ⟨rfl, rfl⟩
        · refine zwp.go (m := 2) (j := 25) (ls' := [some (zr ((16, 4, 0) : zF))]) (st' := [zr ((11, 30, 0) : zF), zr ((16, 4, 0) : zF)]) (h' := h) rfl ?_
          refine zc_cp (d := d + 4) e (fun q e => s_X4_isWord_ok (d + 0) ρ hρ tp 11 htp h q hR e) rfl rfl (fun v7 e => ?_)
          refine zb_if (j := 29) (j2 := 27) e rfl (fun e => ?_) (fun e => ?_)
          · refine zwp.go (m := 3) (j := 32) (ls' := [some (zr ((16, 4, 0) : zF))]) (st' := [zi (zI h 16 11), zr ((16, 4, 0) : zF)]) (h' := h) rfl ?_
            refine zb_if (j := 35) (j2 := 33) e rfl (fun e => ?_) (fun e => ?_)
            · refine zwp.go (m := 1) (j := 36) (ls' := [some (zr ((16, 4, 0) : zF))]) (st' := [zr ((14, 30, 0) : zF), zr ((16, 4, 0) : zF)]) (h' := h) rfl ?_
              refine zc_cp (d := d + 4) e (fun q e => s_X4_isWord_ok (d + 0) ρ hρ tp 14 htp h q hR e) rfl rfl (fun v8 e => ?_)
              refine zb_if (j := 40) (j2 := 38) e rfl (fun e => ?_) (fun e => ?_)
              · refine zwp.go (m := 1) (j := 41) (ls' := [some (zr ((16, 4, 0) : zF))]) (st' := [zi (-1 : Int32)]) (h' := h) rfl ?_
                cases e
                exact zwp.ret rfl rfl ⟨rfl, rfl⟩
              · refine zwp.go (m := 2) (j := 41) (ls' := [some (zr ((16, 4, 0) : zF))]) (st' := [zi (4 : Int32)]) (h' := h) rfl ?_
                cases e
                exact zwp.ret rfl rfl ⟨rfl, rfl⟩
            · refine zwp.go (m := 2) (j := 36) (ls' := [some (zr ((16, 4, 0) : zF))]) (st' := [zr ((13, 30, 0) : zF), zr ((16, 4, 0) : zF)]) (h' := h) rfl ?_
              refine zc_cp (d := d + 4) e (fun q e => s_X4_isWord_ok (d + 0) ρ hρ tp 13 htp h q hR e) rfl rfl (fun v9 e => ?_)
              refine zb_if (j := 40) (j2 := 38) e rfl (fun e => ?_) (fun e => ?_)
              · refine zwp.go (m := 1) (j := 41) (ls' := [some (zr ((16, 4, 0) : zF))]) (st' := [zi (-1 : Int32)]) (h' := h) rfl ?_
                cases e
                exact zwp.ret rfl rfl ⟨rfl, rfl⟩
              · refine zwp.go (m := 2) (j := 41) (ls' := [some (zr ((16, 4, 0) : zF))]) (st' := [zi (4 : Int32)]) (h' := h) rfl ?_
                cases e
                exact zwp.ret rfl rfl ⟨rfl, rfl⟩
          · refine zwp.go (m := 1) (j := 28) (ls' := [some (zr ((16, 4, 0) : zF))]) (st' := [zi (3 : Int32)]) (h' := h) rfl ?_
            cases e
            exact zwp.ret rfl rfl ⟨rfl, rfl⟩
      · refine zwp.go (m := 1) (j := 17) (ls' := [some (zr ((16, 4, 0) : zF))]) (st' := [zi (2 : Int32)]) (h' := h) rfl ?_
        cases e
        exact zwp.ret rfl rfl ⟨rfl, rfl⟩
    · refine zwp.go (m := 1) (j := 11) (ls' := [some (zr ((16, 4, 0) : zF))]) (st' := [zi (1 : Int32)]) (h' := h) rfl ?_
      cases e
      exact zwp.ret rfl rfl ⟨rfl, rfl⟩
  · refine zwp.go (m := 1) (j := 5) (ls' := [some (zr ((16, 4, 0) : zF))]) (st' := [zi (0 : Int32)]) (h' := h) rfl ?_
    cases e
    exact zwp.ret rfl rfl ⟨rfl, rfl⟩
def s_X4_readWordOfPart_J27 (tp : Nat) (h : zH) : Option (Int32 × zH) := (s_X4_valueNamed tp h).bind fun v1 => if ¬ v1 = (-1 : Int32) then ((s_X4_emit tp ((10000 : Int32) + v1) h).bind fun h2 => zlt (zwI h2 16 12 (0 : Int32)) fun h3 => some ((0 : Int32), h3)) else (some ((3 : Int32), h))
theorem s_X4_readWordOfPart_J27_ok (d : Nat) (ρ : Nat → Nat → Option zF) (hρ : zSh ρ) (tp : Nat) (htp : ρ 16 2 = some (tp, 3, 0) ∧ zPlS ρ tp) (h : zH) (res : Int32 × zH) (hR : zRq h ρ) (e : s_X4_readWordOfPart_J27 tp  h = some res) : zwp (d + 6) zm_X4_readWordOfPart 27 [some (zr ((16, 4, 0) : zF)), none] [] h (zQi ρ res) := by
  rw [s_X4_readWordOfPart_J27] at e
  refine zwp.go (m := 1) (j := 28) (ls' := [some (zr ((16, 4, 0) : zF)), none]) (st' := [zr ((16, 4, 0) : zF)]) (h' := h) rfl ?_
  refine zc_cp (d := d + 5) e (fun q e => s_X4_valueNamed_ok (d + 0) ρ hρ tp htp h q hR e) rfl rfl (fun v1 e => ?_)
  refine zwp.go (m := 3) (j := 32) (ls' := [some (zr ((16, 4, 0) : zF)), some (zi v1)]) (st' := [zi (-1 : Int32), zi v1]) (h' := h) rfl ?_
  refine zb_if (j := 35) (j2 := 33) e rfl (fun e => ?_) (fun e => ?_)
  · refine zwp.go (m := 4) (j := 39) (ls' := [some (zr ((16, 4, 0) : zF)), some (zi v1)]) (st' := [zi ((10000 : Int32) + v1), zr ((16, 4, 0) : zF)]) (h' := h) rfl ?_
    refine zc_cv (d := d + 5) e (fun q e => s_X4_emit_ok (d + 5) ρ hρ tp ((10000 : Int32) + v1) htp h q hR e) rfl rfl (fun h2 hR2 e => ?_)
    refine zwp.go (m := 2) (j := 42) (ls' := [some (zr ((16, 4, 0) : zF)), some (zi v1)]) (st' := [zi (0 : Int32), zr ((16, 4, 0) : zF)]) (h' := h2) rfl ?_
    refine zc_w e rfl hR2 (fun h3 hR3 e => ?_)
    refine zwp.go (m := 1) (j := 44) (ls' := [some (zr ((16, 4, 0) : zF)), some (zi v1)]) (st' := [zi (0 : Int32)]) (h' := h3) rfl ?_
    cases e
    exact zwp.ret rfl rfl ⟨⟨rfl, rfl⟩, hR3⟩
  · refine zwp.go (m := 1) (j := 34) (ls' := [some (zr ((16, 4, 0) : zF)), some (zi v1)]) (st' := [zi (3 : Int32)]) (h' := h) rfl ?_
    cases e
    exact zwp.ret rfl rfl ⟨⟨rfl, rfl⟩, hR⟩
def s_X4_readWordOfPart (tp : Nat) (h : zH) : Option (Int32 × zH) := if (zI h 16 13) = 0 then (s_X4_readWordOfPart_J27 tp h) else ((s_X4_isWord tp 7 h).bind fun v1 => if v1 = 0 then (s_X4_readWordOfPart_J27 tp h) else (if (zI h 16 10) < (6 : Int32) then (zlt (zwI h 16 10 ((zI h 16 10) + (1 : Int32))) fun h2 => (s_X4_hold tp (3 : Int32) h2).bind fun h3 => zlt (zwI h3 16 14 (0 : Int32)) fun h4 => some ((0 : Int32), h4)) else (some ((2 : Int32), h))))
theorem s_X4_readWordOfPart_ok (d : Nat) (ρ : Nat → Nat → Option zF) (hρ : zSh ρ) (tp : Nat) (htp : ρ 16 2 = some (tp, 3, 0) ∧ zPlS ρ tp) (h : zH) (res : Int32 × zH) (hR : zRq h ρ) (e : s_X4_readWordOfPart tp h = some res) : zcl (d + 6) 48 [zr ((16, 4, 0) : zF)] h (zQi ρ res) := by
  rw [s_X4_readWordOfPart] at e
  refine ⟨zm_X4_readWordOfPart, rfl, ?_⟩
  show zwp (d + 6) zm_X4_readWordOfPart 0 [some (zr ((16, 4, 0) : zF)), none] [] h _
  refine zwp.go (m := 2) (j := 2) (ls' := [some (zr ((16, 4, 0) : zF)), none]) (st' := [zi (zI h 16 13)]) (h' := h) rfl ?_
  refine zb_if (j := 27) (j2 := 3) e rfl (fun e => ?_) (fun e => ?_)
  · exact s_X4_readWordOfPart_J27_ok d ρ hρ tp htp h _ hR e
  · refine zwp.go (m := 2) (j := 5) (ls' := [some (zr ((16, 4, 0) : zF)), none]) (st' := [zr ((7, 30, 0) : zF), zr ((16, 4, 0) : zF)]) (h' := h) rfl ?_
    refine zc_cp (d := d + 5) e (fun q e => s_X4_isWord_ok (d + 1) ρ hρ tp 7 htp h q hR e) rfl rfl (fun v1 e => ?_)
    refine zb_if (j := 27) (j2 := 7) e rfl (fun e => ?_) (fun e => ?_)
    · exact s_X4_readWordOfPart_J27_ok d ρ hρ tp htp h _ hR e
    · refine zwp.go (m := 3) (j := 10) (ls' := [some (zr ((16, 4, 0) : zF)), none]) (st' := [zi (6 : Int32), zi (zI h 16 10)]) (h' := h) rfl ?_
      refine zb_if (j := 13) (j2 := 11) e rfl (fun e => ?_) (fun e => ?_)
      · refine zwp.go (m := 5) (j := 18) (ls' := [some (zr ((16, 4, 0) : zF)), none]) (st' := [zi ((zI h 16 10) + (1 : Int32)), zr ((16, 4, 0) : zF)]) (h' := h) rfl ?_
        refine zc_w e rfl hR (fun h2 hR2 e => ?_)
        refine zwp.go (m := 2) (j := 21) (ls' := [some (zr ((16, 4, 0) : zF)), none]) (st' := [zi (3 : Int32), zr ((16, 4, 0) : zF)]) (h' := h2) rfl ?_
        refine zc_cv (d := d + 5) e (fun q e => s_X4_hold_ok (d + 5) ρ hρ tp (3 : Int32) htp h2 q hR2 e) rfl rfl (fun h3 hR3 e => ?_)
        refine zwp.go (m := 2) (j := 24) (ls' := [some (zr ((16, 4, 0) : zF)), none]) (st' := [zi (0 : Int32), zr ((16, 4, 0) : zF)]) (h' := h3) rfl ?_
        refine zc_w e rfl hR3 (fun h4 hR4 e => ?_)
        refine zwp.go (m := 1) (j := 26) (ls' := [some (zr ((16, 4, 0) : zF)), none]) (st' := [zi (0 : Int32)]) (h' := h4) rfl ?_
        cases e
        exact zwp.ret rfl rfl ⟨⟨rfl, rfl⟩, hR4⟩
      · refine zwp.go (m := 1) (j := 12) (ls' := [some (zr ((16, 4, 0) : zF)), none]) (st' := [zi (2 : Int32)]) (h' := h) rfl ?_
        cases e
        exact zwp.ret rfl rfl ⟨⟨rfl, rfl⟩, hR⟩
def s_X4_readPart_J25 (tp : Nat) (l1 : Int32) (h : zH) : Option (Int32 × zH) := if ¬ (zI h 16 5) = (2 : Int32) then (if l1 = 0 then (if ((zI h 16 4) - (zI h 16 3)) ≤ (4 : Int32) then ((s_X4_emit tp (zI h 16 6) h).bind fun h1 => zlt (zwI h1 16 12 (0 : Int32)) fun h2 => some ((0 : Int32), h2)) else (some ((2 : Int32), h))) else ((s_X4_hold tp (0 : Int32) h).bind fun h3 => zlt (zwI h3 16 9 ((zI h3 16 9) + (1 : Int32))) fun h4 => (s_X4_expectPart tp (1 : Int32) h4).bind fun h5 => zlt (zwI h5 16 14 (1 : Int32)) fun h6 => some ((0 : Int32), h6))) else (zbd (s_X4_readWordOfPart tp h) fun v8 h7 => some (v8, h7))
theorem s_X4_readPart_J25_ok (d : Nat) (ρ : Nat → Nat → Option zF) (hρ : zSh ρ) (tp : Nat) (htp : ρ 16 2 = some (tp, 3, 0) ∧ zPlS ρ tp) (l1 : Int32) (h : zH) (res : Int32 × zH) (hR : zRq h ρ) (e : s_X4_readPart_J25 tp l1 h = some res) : zwp (d + 7) zm_X4_readPart 25 [some (zr ((16, 4, 0) : zF)), some (zi l1)] [] h (zQi ρ res) := by
  rw [s_X4_readPart_J25] at e
  refine zwp.go (m := 3) (j := 28) (ls' := [some (zr ((16, 4, 0) : zF)), some (zi l1)]) (st' := [zi (2 : Int32), zi (zI h 16 5)]) (h' := h) rfl ?_
  refine zb_if (j := 32) (j2 := 29) e rfl (fun e => ?_) (fun e => ?_)
  · refine zwp.go (m := 1) (j := 33) (ls' := [some (zr ((16, 4, 0) : zF)), some (zi l1)]) (st' := [zi l1]) (h' := h) rfl ?_
    refine zb_if (j := 51) (j2 := 34) e rfl (fun e => ?_) (fun e => ?_)
    · refine zwp.go (m := 6) (j := 57) (ls' := [some (zr ((16, 4, 0) : zF)), some (zi l1)]) (st' := [zi (4 : Int32), zi ((zI h 16 4) - (zI h 16 3))]) (h' := h) rfl ?_
      refine zb_if (j := 60) (j2 := 58) e rfl (fun e => ?_) (fun e => ?_)
      · refine zwp.go (m := 3) (j := 63) (ls' := [some (zr ((16, 4, 0) : zF)), some (zi l1)]) (st' := [zi (zI h 16 6), zr ((16, 4, 0) : zF)]) (h' := h) rfl ?_
        refine zc_cv (d := d + 6) e (fun q e => s_X4_emit_ok (d + 6) ρ hρ tp (zI h 16 6) htp h q hR e) rfl rfl (fun h1 hR1 e => ?_)
        refine zwp.go (m := 2) (j := 66) (ls' := [some (zr ((16, 4, 0) : zF)), some (zi l1)]) (st' := [zi (0 : Int32), zr ((16, 4, 0) : zF)]) (h' := h1) rfl ?_
        refine zc_w e rfl hR1 (fun h2 hR2 e => ?_)
        refine zwp.go (m := 1) (j := 68) (ls' := [some (zr ((16, 4, 0) : zF)), some (zi l1)]) (st' := [zi (0 : Int32)]) (h' := h2) rfl ?_
        cases e
        exact zwp.ret rfl rfl ⟨⟨rfl, rfl⟩, hR2⟩
      · refine zwp.go (m := 1) (j := 59) (ls' := [some (zr ((16, 4, 0) : zF)), some (zi l1)]) (st' := [zi (2 : Int32)]) (h' := h) rfl ?_
        cases e
        exact zwp.ret rfl rfl ⟨⟨rfl, rfl⟩, hR⟩
    · refine zwp.go (m := 2) (j := 36) (ls' := [some (zr ((16, 4, 0) : zF)), some (zi l1)]) (st' := [zi (0 : Int32), zr ((16, 4, 0) : zF)]) (h' := h) rfl ?_
      refine zc_cv (d := d + 6) e (fun q e => s_X4_hold_ok (d + 6) ρ hρ tp (0 : Int32) htp h q hR e) rfl rfl (fun h3 hR3 e => ?_)
      refine zwp.go (m := 5) (j := 42) (ls' := [some (zr ((16, 4, 0) : zF)), some (zi l1)]) (st' := [zi ((zI h3 16 9) + (1 : Int32)), zr ((16, 4, 0) : zF)]) (h' := h3) rfl ?_
      refine zc_w e rfl hR3 (fun h4 hR4 e => ?_)
      refine zwp.go (m := 2) (j := 45) (ls' := [some (zr ((16, 4, 0) : zF)), some (zi l1)]) (st' := [zi (1 : Int32), zr ((16, 4, 0) : zF)]) (h' := h4) rfl ?_
      refine zc_cv (d := d + 6) e (fun q e => s_X4_expectPart_ok (d + 6) ρ hρ tp (1 : Int32) htp h4 q hR4 e) rfl rfl (fun h5 hR5 e => ?_)
      refine zwp.go (m := 2) (j := 48) (ls' := [some (zr ((16, 4, 0) : zF)), some (zi l1)]) (st' := [zi (1 : Int32), zr ((16, 4, 0) : zF)]) (h' := h5) rfl ?_
      refine zc_w e rfl hR5 (fun h6 hR6 e => ?_)
      refine zwp.go (m := 1) (j := 50) (ls' := [some (zr ((16, 4, 0) : zF)), some (zi l1)]) (st' := [zi (0 : Int32)]) (h' := h6) rfl ?_
      cases e
      exact zwp.ret rfl rfl ⟨⟨rfl, rfl⟩, hR6⟩
  · refine zwp.go (m := 1) (j := 30) (ls' := [some (zr ((16, 4, 0) : zF)), some (zi l1)]) (st' := [zr ((16, 4, 0) : zF)]) (h' := h) rfl ?_
    refine zc_ci (d := d + 6) e (fun q e => s_X4_readWordOfPart_ok (d + 0) ρ hρ tp htp h q hR e) rfl rfl (fun v8 h7 hR7 e => ?_)
    cases e
    exact zwp.ret rfl rfl ⟨⟨rfl, rfl⟩, hR7⟩
def s_X4_readPart_J16 (tp : Nat) (l1 : Int32) (h : zH) : Option (Int32 × zH) := if (zI h 16 14) = 0 then (s_X4_readPart_J25 tp l1 h) else (if (zI h 16 9) ≤ (5 : Int32) then (s_X4_readPart_J25 tp l1 h) else (some ((2 : Int32), h)))
theorem s_X4_readPart_J16_ok (d : Nat) (ρ : Nat → Nat → Option zF) (hρ : zSh ρ) (tp : Nat) (htp : ρ 16 2 = some (tp, 3, 0) ∧ zPlS ρ tp) (l1 : Int32) (h : zH) (res : Int32 × zH) (hR : zRq h ρ) (e : s_X4_readPart_J16 tp l1 h = some res) : zwp (d + 7) zm_X4_readPart 16 [some (zr ((16, 4, 0) : zF)), some (zi l1)] [] h (zQi ρ res) := by
  rw [s_X4_readPart_J16] at e
  refine zwp.go (m := 2) (j := 18) (ls' := [some (zr ((16, 4, 0) : zF)), some (zi l1)]) (st' := [zi (zI h 16 14)]) (h' := h) rfl ?_
  refine zb_if (j := 25) (j2 := 19) e rfl (fun e => ?_) (fun e => ?_)
  · exact s_X4_readPart_J25_ok d ρ hρ tp htp l1 h _ hR e
  · refine zwp.go (m := 3) (j := 22) (ls' := [some (zr ((16, 4, 0) : zF)), some (zi l1)]) (st' := [zi (5 : Int32), zi (zI h 16 9)]) (h' := h) rfl ?_
    refine zb_if (j := 25) (j2 := 23) e rfl (fun e => ?_) (fun e => ?_)
    · exact s_X4_readPart_J25_ok d ρ hρ tp htp l1 h _ hR e
    · refine zwp.go (m := 1) (j := 24) (ls' := [some (zr ((16, 4, 0) : zF)), some (zi l1)]) (st' := [zi (2 : Int32)]) (h' := h) rfl ?_
      cases e
      exact zwp.ret rfl rfl ⟨⟨rfl, rfl⟩, hR⟩
def s_X4_readPart (tp : Nat) (h : zH) : Option (Int32 × zH) := (s_X4_isSign tp (40 : Int32) h).bind fun v1 => if ¬ v1 = 0 then (s_X4_readPart_J16 tp v1 h) else (if (zI h 16 5) = (3 : Int32) then (s_X4_readPart_J16 tp v1 h) else (if (zI h 16 5) = (2 : Int32) then (s_X4_readPart_J16 tp v1 h) else (some ((1 : Int32), h))))
theorem s_X4_readPart_ok (d : Nat) (ρ : Nat → Nat → Option zF) (hρ : zSh ρ) (tp : Nat) (htp : ρ 16 2 = some (tp, 3, 0) ∧ zPlS ρ tp) (h : zH) (res : Int32 × zH) (hR : zRq h ρ) (e : s_X4_readPart tp h = some res) : zcl (d + 7) 49 [zr ((16, 4, 0) : zF)] h (zQi ρ res) := by
  rw [s_X4_readPart] at e
  refine ⟨zm_X4_readPart, rfl, ?_⟩
  show zwp (d + 7) zm_X4_readPart 0 [some (zr ((16, 4, 0) : zF)), none] [] h _
  refine zwp.go (m := 2) (j := 2) (ls' := [some (zr ((16, 4, 0) : zF)), none]) (st' := [zi (40 : Int32), zr ((16, 4, 0) : zF)]) (h' := h) rfl ?_
  refine zc_cp (d := d + 6) e (fun q e => s_X4_isSign_ok (d + 6) ρ hρ tp (40 : Int32) htp h q hR e) rfl rfl (fun v1 e => ?_)
  refine zwp.go (m := 2) (j := 5) (ls' := [some (zr ((16, 4, 0) : zF)), some (zi v1)]) (st' := [zi v1]) (h' := h) rfl ?_
  refine zb_if (j := 16) (j2 := 6) e rfl (fun e => ?_) (fun e => ?_)
  · exact s_X4_readPart_J16_ok d ρ hρ tp htp v1 h _ hR e
  · refine zwp.go (m := 3) (j := 9) (ls' := [some (zr ((16, 4, 0) : zF)), some (zi v1)]) (st' := [zi (3 : Int32), zi (zI h 16 5)]) (h' := h) rfl ?_
    refine zb_if (j := 16) (j2 := 10) e rfl (fun e => ?_) (fun e => ?_)
    · exact s_X4_readPart_J16_ok d ρ hρ tp htp v1 h _ hR e
    · refine zwp.go (m := 3) (j := 13) (ls' := [some (zr ((16, 4, 0) : zF)), some (zi v1)]) (st' := [zi (2 : Int32), zi (zI h 16 5)]) (h' := h) rfl ?_
      refine zb_if (j := 16) (j2 := 14) e rfl (fun e => ?_) (fun e => ?_)
      · exact s_X4_readPart_J16_ok d ρ hρ tp htp v1 h _ hR e
      · refine zwp.go (m := 1) (j := 15) (ls' := [some (zr ((16, 4, 0) : zF)), some (zi v1)]) (st' := [zi (1 : Int32)]) (h' := h) rfl ?_
        cases e
        exact zwp.ret rfl rfl ⟨⟨rfl, rfl⟩, hR⟩
def s_X4_operationNamed (tp : Nat) (h : zH) : Option (Int32) := if ¬ (zI h 16 5) = (2 : Int32) then (if ¬ (zI h 16 5) = (4 : Int32) then (some (-1 : Int32)) else (if (zI h 16 3) < (zI h 16 1) then (zix (zI h 16 3) 700 fun i1 => if (zI h 1 i1) = 42 then (some (8 : Int32)) else if (zI h 1 i1) = 43 then (some (6 : Int32)) else if (zI h 1 i1) = 44 then (some (-1 : Int32)) else if (zI h 1 i1) = 45 then (some (7 : Int32)) else if (zI h 1 i1) = 46 then (some (-1 : Int32)) else if (zI h 1 i1) = 47 then (some (9 : Int32)) else if (zI h 1 i1) = 48 then (some (-1 : Int32)) else if (zI h 1 i1) = 49 then (some (-1 : Int32)) else if (zI h 1 i1) = 50 then (some (-1 : Int32)) else if (zI h 1 i1) = 51 then (some (-1 : Int32)) else if (zI h 1 i1) = 52 then (some (-1 : Int32)) else if (zI h 1 i1) = 53 then (some (-1 : Int32)) else if (zI h 1 i1) = 54 then (some (-1 : Int32)) else if (zI h 1 i1) = 55 then (some (-1 : Int32)) else if (zI h 1 i1) = 56 then (some (-1 : Int32)) else if (zI h 1 i1) = 57 then (some (-1 : Int32)) else if (zI h 1 i1) = 58 then (some (-1 : Int32)) else if (zI h 1 i1) = 59 then (some (-1 : Int32)) else if (zI h 1 i1) = 60 then (some (4 : Int32)) else if (zI h 1 i1) = 61 then (some (5 : Int32)) else (some (-1 : Int32))) else (some (-1 : Int32)))) else ((s_X4_isWord tp 15 h).bind fun v2 => if v2 = 0 then ((s_X4_isWord tp 16 h).bind fun v3 => if v3 = 0 then (some (-1 : Int32)) else (some (2 : Int32))) else (some (1 : Int32)))
theorem s_X4_operationNamed_ok (d : Nat) (ρ : Nat → Nat → Option zF) (hρ : zSh ρ) (tp : Nat) (htp : ρ 16 2 = some (tp, 3, 0) ∧ zPlS ρ tp) (h : zH) (res : Int32) (hR : zRq h ρ) (e : s_X4_operationNamed tp h = some res) : zcl (d + 5) 50 [zr ((16, 4, 0) : zF)] h (zQp h res) := by
  rw [s_X4_operationNamed] at e
  refine ⟨zm_X4_operationNamed, rfl, ?_⟩
  show zwp (d + 5) zm_X4_operationNamed 0 [some (zr ((16, 4, 0) : zF))] [] h _
  refine zwp.go (m := 3) (j := 3) (ls' := [some (zr ((16, 4, 0) : zF))]) (st' := [zi (2 : Int32), zi (zI h 16 5)]) (h' := h) rfl ?_
  refine zb_if (j := 18) (j2 := 4) e rfl (fun e => ?_) (fun e => ?_)
  · refine zwp.go (m := 3) (j := 21) (ls' := [some (zr ((16, 4, 0) : zF))]) (st' := [zi (4 : Int32), zi (zI h 16 5)]) (h' := h) rfl ?_
    refine zb_if (j := 27) (j2 := 22) e rfl (fun e => ?_) (fun e => ?_)
    · refine zwp.go (m := 1) (j := 28) (ls' := [some (zr ((16, 4, 0) : zF))]) (st' := [zi (-1 : Int32)]) (h' := h) rfl ?_
      cases e
      exact zwp.ret rfl rfl ⟨rfl, rfl⟩
    · refine zwp.go (m := 4) (j := 26) (ls' := [some (zr ((16, 4, 0) : zF))]) (st' := [zi (zI h 16 1), zi (zI h 16 3)]) (h' := h) rfl ?_
      refine zb_if (j := 29) (j2 := 27) e rfl (fun e => ?_) (fun e => ?_)
      · refine zwp.go (m := 1) (j := 30) (ls' := [some (zr ((16, 4, 0) : zF))]) (st' := [zr ((16, 4, 0) : zF)]) (h' := h) rfl ?_
        refine zc_sr (r := ((1, 21, 700) : zF)) (zrf (a := 16) (y := 0) hR rfl (hρ 16 0 rfl)) rfl ?_
        refine zwp.go (m := 2) (j := 33) (ls' := [some (zr ((16, 4, 0) : zF))]) (st' := [zi (zI h 16 3), zr ((1, 21, 700) : zF)]) (h' := h) rfl ?_
        refine zc_ai e (fun _ => rfl) (fun i1 e => ?_)
        refine zwp.nx (j := zsw [(42, 43), (43, 39), (44, 47), (45, 41), (46, 47), (47, 45), (48, 47), (49, 47), (50, 47), (51, 47), (52, 47), (53, 47), (54, 47), (55, 47), (56, 47), (57, 47), (58, 47), (59, 47), (60, 35), (61, 37)] 47 (zI h 1 i1)) (ls' := [some (zr ((16, 4, 0) : zF))]) (st' := []) (h' := h) rfl ?_
        refine zb_sw e (fun e => ?_) (fun e => ?_)
        · refine zwp.go (m := 1) (j := 44) (ls' := [some (zr ((16, 4, 0) : zF))]) (st' := [zi (8 : Int32)]) (h' := h) rfl ?_
          cases e
          exact zwp.ret rfl rfl ⟨rfl, rfl⟩
        refine zb_sw e (fun e => ?_) (fun e => ?_)
        · refine zwp.go (m := 1) (j := 40) (ls' := [some (zr ((16, 4, 0) : zF))]) (st' := [zi (6 : Int32)]) (h' := h) rfl ?_
          cases e
          exact zwp.ret rfl rfl ⟨rfl, rfl⟩
        refine zb_sw e (fun e => ?_) (fun e => ?_)
        · refine zwp.go (m := 1) (j := 48) (ls' := [some (zr ((16, 4, 0) : zF))]) (st' := [zi (-1 : Int32)]) (h' := h) rfl ?_
          cases e
          exact zwp.ret rfl rfl ⟨rfl, rfl⟩
        refine zb_sw e (fun e => ?_) (fun e => ?_)
        · refine zwp.go (m := 1) (j := 42) (ls' := [some (zr ((16, 4, 0) : zF))]) (st' := [zi (7 : Int32)]) (h' := h) rfl ?_
          cases e
          exact zwp.ret rfl rfl ⟨rfl, rfl⟩
        refine zb_sw e (fun e => ?_) (fun e => ?_)
        · refine zwp.go (m := 1) (j := 48) (ls' := [some (zr ((16, 4, 0) : zF))]) (st' := [zi (-1 : Int32)]) (h' := h) rfl ?_
          cases e
          exact zwp.ret rfl rfl ⟨rfl, rfl⟩
        refine zb_sw e (fun e => ?_) (fun e => ?_)
        · refine zwp.go (m := 1) (j := 46) (ls' := [some (zr ((16, 4, 0) : zF))]) (st' := [zi (9 : Int32)]) (h' := h) rfl ?_
          cases e
          exact zwp.ret rfl rfl ⟨rfl, rfl⟩
        refine zb_sw e (fun e => ?_) (fun e => ?_)
        · refine zwp.go (m := 1) (j := 48) (ls' := [some (zr ((16, 4, 0) : zF))]) (st' := [zi (-1 : Int32)]) (h' := h) rfl ?_
          cases e
          exact zwp.ret rfl rfl ⟨rfl, rfl⟩
        refine zb_sw e (fun e => ?_) (fun e => ?_)
        · refine zwp.go (m := 1) (j := 48) (ls' := [some (zr ((16, 4, 0) : zF))]) (st' := [zi (-1 : Int32)]) (h' := h) rfl ?_
          cases e
          exact zwp.ret rfl rfl ⟨rfl, rfl⟩
        refine zb_sw e (fun e => ?_) (fun e => ?_)
        · refine zwp.go (m := 1) (j := 48) (ls' := [some (zr ((16, 4, 0) : zF))]) (st' := [zi (-1 : Int32)]) (h' := h) rfl ?_
          cases e
          exact zwp.ret rfl rfl ⟨rfl, rfl⟩
        refine zb_sw e (fun e => ?_) (fun e => ?_)
        · refine zwp.go (m := 1) (j := 48) (ls' := [some (zr ((16, 4, 0) : zF))]) (st' := [zi (-1 : Int32)]) (h' := h) rfl ?_
          cases e
          exact zwp.ret rfl rfl ⟨rfl, rfl⟩
        refine zb_sw e (fun e => ?_) (fun e => ?_)
        · refine zwp.go (m := 1) (j := 48) (ls' := [some (zr ((16, 4, 0) : zF))]) (st' := [zi (-1 : Int32)]) (h' := h) rfl ?_
          cases e
          exact zwp.ret rfl rfl ⟨rfl, rfl⟩
        refine zb_sw e (fun e => ?_) (fun e => ?_)
        · refine zwp.go (m := 1) (j := 48) (ls' := [some (zr ((16, 4, 0) : zF))]) (st' := [zi (-1 : Int32)]) (h' := h) rfl ?_
          cases e
          exact zwp.ret rfl rfl ⟨rfl, rfl⟩
        refine zb_sw e (fun e => ?_) (fun e => ?_)
        · refine zwp.go (m := 1) (j := 48) (ls' := [some (zr ((16, 4, 0) : zF))]) (st' := [zi (-1 : Int32)]) (h' := h) rfl ?_
          cases e
          exact zwp.ret rfl rfl ⟨rfl, rfl⟩
        refine zb_sw e (fun e => ?_) (fun e => ?_)
        · refine zwp.go (m := 1) (j := 48) (ls' := [some (zr ((16, 4, 0) : zF))]) (st' := [zi (-1 : Int32)]) (h' := h) rfl ?_
          cases e
          exact zwp.ret rfl rfl ⟨rfl, rfl⟩
        refine zb_sw e (fun e => ?_) (fun e => ?_)
        · refine zwp.go (m := 1) (j := 48) (ls' := [some (zr ((16, 4, 0) : zF))]) (st' := [zi (-1 : Int32)]) (h' := h) rfl ?_
          cases e
          exact zwp.ret rfl rfl ⟨rfl, rfl⟩
        refine zb_sw e (fun e => ?_) (fun e => ?_)
        · refine zwp.go (m := 1) (j := 48) (ls' := [some (zr ((16, 4, 0) : zF))]) (st' := [zi (-1 : Int32)]) (h' := h) rfl ?_
          cases e
          exact zwp.ret rfl rfl ⟨rfl, rfl⟩
        refine zb_sw e (fun e => ?_) (fun e => ?_)
        · refine zwp.go (m := 1) (j := 48) (ls' := [some (zr ((16, 4, 0) : zF))]) (st' := [zi (-1 : Int32)]) (h' := h) rfl ?_
          cases e
          exact zwp.ret rfl rfl ⟨rfl, rfl⟩
        refine zb_sw e (fun e => ?_) (fun e => ?_)
        · refine zwp.go (m := 1) (j := 48) (ls' := [some (zr ((16, 4, 0) : zF))]) (st' := [zi (-1 : Int32)]) (h' := h) rfl ?_
          cases e
          exact zwp.ret rfl rfl ⟨rfl, rfl⟩
        refine zb_sw e (fun e => ?_) (fun e => ?_)
        · refine zwp.go (m := 1) (j := 36) (ls' := [some (zr ((16, 4, 0) : zF))]) (st' := [zi (4 : Int32)]) (h' := h) rfl ?_
          cases e
          exact zwp.ret rfl rfl ⟨rfl, rfl⟩
        refine zb_sw e (fun e => ?_) (fun e => ?_)
        · refine zwp.go (m := 1) (j := 38) (ls' := [some (zr ((16, 4, 0) : zF))]) (st' := [zi (5 : Int32)]) (h' := h) rfl ?_
          cases e
          exact zwp.ret rfl rfl ⟨rfl, rfl⟩
        refine zwp.go (m := 1) (j := 48) (ls' := [some (zr ((16, 4, 0) : zF))]) (st' := [zi (-1 : Int32)]) (h' := h) rfl ?_
        cases e
        exact zwp.ret rfl rfl ⟨rfl, rfl⟩
      · refine zwp.go (m := 1) (j := 28) (ls' := [some (zr ((16, 4, 0) : zF))]) (st' := [zi (-1 : Int32)]) (h' := h) rfl ?_
        cases e
        exact zwp.ret rfl rfl ⟨rfl, rfl⟩
  · refine zwp.go (m := 2) (j := 6) (ls' := [some (zr ((16, 4, 0) : zF))]) (st' := [zr ((15, 30, 0) : zF), zr ((16, 4, 0) : zF)]) (h' := h) rfl ?_
    refine zc_cp (d := d + 4) e (fun q e => s_X4_isWord_ok (d + 0) ρ hρ tp 15 htp h q hR e) rfl rfl (fun v2 e => ?_)
    refine zb_if (j := 10) (j2 := 8) e rfl (fun e => ?_) (fun e => ?_)
    · refine zwp.go (m := 2) (j := 12) (ls' := [some (zr ((16, 4, 0) : zF))]) (st' := [zr ((16, 30, 0) : zF), zr ((16, 4, 0) : zF)]) (h' := h) rfl ?_
      refine zc_cp (d := d + 4) e (fun q e => s_X4_isWord_ok (d + 0) ρ hρ tp 16 htp h q hR e) rfl rfl (fun v3 e => ?_)
      refine zb_if (j := 16) (j2 := 14) e rfl (fun e => ?_) (fun e => ?_)
      · refine zwp.go (m := 1) (j := 17) (ls' := [some (zr ((16, 4, 0) : zF))]) (st' := [zi (-1 : Int32)]) (h' := h) rfl ?_
        cases e
        exact zwp.ret rfl rfl ⟨rfl, rfl⟩
      · refine zwp.go (m := 2) (j := 17) (ls' := [some (zr ((16, 4, 0) : zF))]) (st' := [zi (2 : Int32)]) (h' := h) rfl ?_
        cases e
        exact zwp.ret rfl rfl ⟨rfl, rfl⟩
    · refine zwp.go (m := 2) (j := 17) (ls' := [some (zr ((16, 4, 0) : zF))]) (st' := [zi (1 : Int32)]) (h' := h) rfl ?_
      cases e
      exact zwp.ret rfl rfl ⟨rfl, rfl⟩
