/-! ===== methods as functions, 10 ===== -/
def s_X11_game_L21 : Nat → Int32 → Int32 → Int32 → Int32 → zH → Option (Int32 × zH)
  | 0, _, _, _, _, _ => none
  | n + 1, l1, l2, l3, l4, h => if (4 : Int32) ≤ l4 then (if ¬ l1 = 0 then (some (l3, h)) else (some (l2, h))) else (zix ((2 : Int32) * (l4 ^^^ (2 : Int32))) 8 fun i1 => zix ((2 : Int32) * l4) 8 fun i2 => if (zI h 83 i2) < (zI h 83 i1) then (s_X11_game_L21 n l1 l2 l3 (l4 + (1 : Int32)) h) else (zix (((2 : Int32) * (l4 ^^^ (1 : Int32))) + (1 : Int32)) 8 fun i3 => zix (((2 : Int32) * l4) + (1 : Int32)) 8 fun i4 => if (zI h 83 i3) ≤ (zI h 83 i4) then (if ¬ l3 = (-1 : Int32) then (s_X11_game_L21 n l1 (l2 + (1 : Int32)) l3 (l4 + (1 : Int32)) h) else ((zdv l4 (2 : Int32)).bind fun v5 => (zre l4 (2 : Int32)).bind fun v6 => s_X11_game_L21 n l1 (l2 + (1 : Int32)) (((10 : Int32) * v5) + v6) (l4 + (1 : Int32)) h)) else (s_X11_game_L21 n l1 l2 l3 (l4 + (1 : Int32)) h)))
set_option maxRecDepth 100000 in
theorem s_X11_game_L21_ok (d : Nat) (ρ : Nat → Nat → Option zF) (hρ : zSh ρ) : ∀ (n : Nat) (l1 : Int32) (l2 : Int32) (l3 : Int32) (l4 : Int32) (h : zH) (res : Int32 × zH) (hR : zRq h ρ) (e : s_X11_game_L21  n l1 l2 l3 l4 h = some res), zwp (d + 7) zm_X11_game 21 [some (zr ((52, 11, 0) : zF)), some (zi l1), some (zi l2), some (zi l3), some (zi l4)] [] h (zQi ρ res) := by
  intro n
  induction n with
  | zero => intro l1 l2 l3 l4 h res hR e; cases e
  | succ n ih =>
    intro l1 l2 l3 l4 h res hR e
    rw [s_X11_game_L21] at e
    refine zwp.go (m := 2) (j := 23) (ls' := [some (zr ((52, 11, 0) : zF)), some (zi l1), some (zi l2), some (zi l3), some (zi l4)]) (st' := [zi (4 : Int32), zi l4]) (h' := h) rfl ?_
    refine zb_if (j := 77) (j2 := 24) e rfl (fun e => ?_) (fun e => ?_)
    · refine zwp.go (m := 1) (j := 78) (ls' := [some (zr ((52, 11, 0) : zF)), some (zi l1), some (zi l2), some (zi l3), some (zi l4)]) (st' := [zi l1]) (h' := h) rfl ?_
      refine zb_if (j := 81) (j2 := 79) e rfl (fun e => ?_) (fun e => ?_)
      · refine zwp.go (m := 1) (j := 82) (ls' := [some (zr ((52, 11, 0) : zF)), some (zi l1), some (zi l2), some (zi l3), some (zi l4)]) (st' := [zi l3]) (h' := h) rfl ?_
        cases e
        exact zwp.ret rfl rfl ⟨⟨rfl, rfl⟩, hR⟩
      · refine zwp.go (m := 2) (j := 82) (ls' := [some (zr ((52, 11, 0) : zF)), some (zi l1), some (zi l2), some (zi l3), some (zi l4)]) (st' := [zi l2]) (h' := h) rfl ?_
        cases e
        exact zwp.ret rfl rfl ⟨⟨rfl, rfl⟩, hR⟩
    · refine zwp.go (m := 1) (j := 25) (ls' := [some (zr ((52, 11, 0) : zF)), some (zi l1), some (zi l2), some (zi l3), some (zi l4)]) (st' := [zr ((52, 11, 0) : zF)]) (h' := h) rfl ?_
      refine zc_sr (r := ((83, 20, 8) : zF)) (zrf (a := 52) (y := 57) hR rfl (hρ 52 57 rfl)) rfl ?_
      refine zwp.go (m := 5) (j := 31) (ls' := [some (zr ((52, 11, 0) : zF)), some (zi l1), some (zi l2), some (zi l3), some (zi l4)]) (st' := [zi ((2 : Int32) * (l4 ^^^ (2 : Int32))), zr ((83, 20, 8) : zF)]) (h' := h) rfl ?_
      refine zc_ai e (fun _ => rfl) (fun i1 e => ?_)
      refine zwp.go (m := 1) (j := 33) (ls' := [some (zr ((52, 11, 0) : zF)), some (zi l1), some (zi l2), some (zi l3), some (zi l4)]) (st' := [zr ((52, 11, 0) : zF), zi (zI h 83 i1)]) (h' := h) rfl ?_
      refine zc_sr (r := ((83, 20, 8) : zF)) (zrf (a := 52) (y := 57) hR rfl (hρ 52 57 rfl)) rfl ?_
      refine zwp.go (m := 3) (j := 37) (ls' := [some (zr ((52, 11, 0) : zF)), some (zi l1), some (zi l2), some (zi l3), some (zi l4)]) (st' := [zi ((2 : Int32) * l4), zr ((83, 20, 8) : zF), zi (zI h 83 i1)]) (h' := h) rfl ?_
      refine zc_ai e (fun _ => rfl) (fun i2 e => ?_)
      refine zb_if (j := 75) (j2 := 39) e rfl (fun e => ?_) (fun e => ?_)
      · refine zwp.go (m := 2) (j := 21) (ls' := [some (zr ((52, 11, 0) : zF)), some (zi l1), some (zi l2), some (zi l3), some (zi (l4 + (1 : Int32)))]) (st' := []) (h' := h) rfl ?_
        exact ih l1 l2 l3 (l4 + (1 : Int32)) h _ hR e
      · refine zwp.go (m := 1) (j := 40) (ls' := [some (zr ((52, 11, 0) : zF)), some (zi l1), some (zi l2), some (zi l3), some (zi l4)]) (st' := [zr ((52, 11, 0) : zF)]) (h' := h) rfl ?_
        refine zc_sr (r := ((83, 20, 8) : zF)) (zrf (a := 52) (y := 57) hR rfl (hρ 52 57 rfl)) rfl ?_
        refine zwp.go (m := 7) (j := 48) (ls' := [some (zr ((52, 11, 0) : zF)), some (zi l1), some (zi l2), some (zi l3), some (zi l4)]) (st' := [zi (((2 : Int32) * (l4 ^^^ (1 : Int32))) + (1 : Int32)), zr ((83, 20, 8) : zF)]) (h' := h) rfl ?_
        refine zc_ai e (fun _ => rfl) (fun i3 e => ?_)
        refine zwp.go (m := 1) (j := 50) (ls' := [some (zr ((52, 11, 0) : zF)), some (zi l1), some (zi l2), some (zi l3), some (zi l4)]) (st' := [zr ((52, 11, 0) : zF), zi (zI h 83 i3)]) (h' := h) rfl ?_
        refine zc_sr (r := ((83, 20, 8) : zF)) (zrf (a := 52) (y := 57) hR rfl (hρ 52 57 rfl)) rfl ?_
        refine zwp.go (m := 5) (j := 56) (ls' := [some (zr ((52, 11, 0) : zF)), some (zi l1), some (zi l2), some (zi l3), some (zi l4)]) (st' := [zi (((2 : Int32) * l4) + (1 : Int32)), zr ((83, 20, 8) : zF), zi (zI h 83 i3)]) (h' := h) rfl ?_
        refine zc_ai e (fun _ => rfl) (fun i4 e => ?_)
        refine zb_if (j := 59) (j2 := 58) e rfl (fun e => ?_) (fun e => ?_)
        · refine zwp.go (m := 3) (j := 62) (ls' := [some (zr ((52, 11, 0) : zF)), some (zi l1), some (zi (l2 + (1 : Int32))), some (zi l3), some (zi l4)]) (st' := [zi (-1 : Int32), zi l3]) (h' := h) rfl ?_
          refine zb_if (j := 73) (j2 := 63) e rfl (fun e => ?_) (fun e => ?_)
          · refine zwp.go (m := 4) (j := 21) (ls' := [some (zr ((52, 11, 0) : zF)), some (zi l1), some (zi (l2 + (1 : Int32))), some (zi l3), some (zi (l4 + (1 : Int32)))]) (st' := []) (h' := h) rfl ?_
            exact ih l1 (l2 + (1 : Int32)) l3 (l4 + (1 : Int32)) h _ hR e
          · refine zwp.go (m := 3) (j := 66) (ls' := [some (zr ((52, 11, 0) : zF)), some (zi l1), some (zi (l2 + (1 : Int32))), some (zi l3), some (zi l4)]) (st' := [zi (2 : Int32), zi l4, zi (10 : Int32)]) (h' := h) rfl ?_
            refine zb_dv e rfl (fun v5 e => ?_)
            refine zwp.go (m := 3) (j := 70) (ls' := [some (zr ((52, 11, 0) : zF)), some (zi l1), some (zi (l2 + (1 : Int32))), some (zi l3), some (zi l4)]) (st' := [zi (2 : Int32), zi l4, zi ((10 : Int32) * v5)]) (h' := h) rfl ?_
            refine zb_re e rfl (fun v6 e => ?_)
            refine zwp.go (m := 5) (j := 21) (ls' := [some (zr ((52, 11, 0) : zF)), some (zi l1), some (zi (l2 + (1 : Int32))), some (zi (((10 : Int32) * v5) + v6)), some (zi (l4 + (1 : Int32)))]) (st' := []) (h' := h) rfl ?_
            exact ih l1 (l2 + (1 : Int32)) (((10 : Int32) * v5) + v6) (l4 + (1 : Int32)) h _ hR e
        · refine zwp.go (m := 3) (j := 21) (ls' := [some (zr ((52, 11, 0) : zF)), some (zi l1), some (zi l2), some (zi l3), some (zi (l4 + (1 : Int32)))]) (st' := []) (h' := h) rfl ?_
          exact ih l1 l2 l3 (l4 + (1 : Int32)) h _ hR e
def s_X11_game (a1 : Int32) (h : zH) : Option (Int32 × zH) := zlt (zwI h 52 4 (0 : Int32)) fun h1 => (s_X11_isIn a1.toInt64 (0 : Int64) (1 : Int64) h1).bind fun v2 => if ¬ v2 = 0 then ((s_X11_tellGains h1).bind fun h3 => s_X11_game_L21 zfu a1 (0 : Int32) (-1 : Int32) (0 : Int32) h3) else (zbd (s_X11_fail (1 : Int32) h1) fun v5 h4 => some (v5, h4))
set_option maxRecDepth 100000 in
theorem s_X11_game_ok (d : Nat) (ρ : Nat → Nat → Option zF) (hρ : zSh ρ) (a1 : Int32) (h : zH) (res : Int32 × zH) (hR : zRq h ρ) (e : s_X11_game a1 h = some res) : zcl (d + 7) 294 [zr ((52, 11, 0) : zF), zi a1] h (zQi ρ res) := by
  rw [s_X11_game] at e
  refine ⟨zm_X11_game, rfl, ?_⟩
  show zwp (d + 7) zm_X11_game 0 [some (zr ((52, 11, 0) : zF)), some (zi a1), none, none, none] [] h _
  refine zwp.go (m := 2) (j := 2) (ls' := [some (zr ((52, 11, 0) : zF)), some (zi a1), none, none, none]) (st' := [zi (0 : Int32), zr ((52, 11, 0) : zF)]) (h' := h) rfl ?_
  refine zc_w e rfl hR (fun h1 hR1 e => ?_)
  refine zwp.go (m := 4) (j := 7) (ls' := [some (zr ((52, 11, 0) : zF)), some (zi a1), none, none, none]) (st' := [zl (1 : Int64), zl (0 : Int64), zl a1.toInt64]) (h' := h1) rfl ?_
  refine zc_cp (d := d + 6) e (fun q e => s_X11_isIn_ok (d + 6) ρ hρ a1.toInt64 (0 : Int64) (1 : Int64) h1 q hR1 e) rfl rfl (fun v2 e => ?_)
  refine zb_if (j := 13) (j2 := 9) e rfl (fun e => ?_) (fun e => ?_)
  · refine zwp.go (m := 1) (j := 14) (ls' := [some (zr ((52, 11, 0) : zF)), some (zi a1), none, none, none]) (st' := [zr ((52, 11, 0) : zF)]) (h' := h1) rfl ?_
    refine zc_cv (d := d + 6) e (fun q e => s_X11_tellGains_ok (d + 0) ρ hρ h1 q hR1 e) rfl rfl (fun h3 hR3 e => ?_)
    refine zwp.go (m := 6) (j := 21) (ls' := [some (zr ((52, 11, 0) : zF)), some (zi a1), some (zi (0 : Int32)), some (zi (-1 : Int32)), some (zi (0 : Int32))]) (st' := []) (h' := h3) rfl ?_
    exact s_X11_game_L21_ok d ρ hρ zfu a1 (0 : Int32) (-1 : Int32) (0 : Int32) h3 _ hR3 e
  · refine zwp.go (m := 2) (j := 11) (ls' := [some (zr ((52, 11, 0) : zF)), some (zi a1), none, none, none]) (st' := [zi (1 : Int32), zr ((52, 11, 0) : zF)]) (h' := h1) rfl ?_
    refine zc_ci (d := d + 6) e (fun q e => s_X11_fail_ok (d + 6) ρ hρ (1 : Int32) h1 q hR1 e) rfl rfl (fun v5 h4 hR4 e => ?_)
    cases e
    exact zwp.ret rfl rfl ⟨⟨rfl, rfl⟩, hR4⟩
def s_X0_draw (a1 : Int32) (h : zH) : Option (Int32 × zH) := zlt (zwI h 50 0 (((zI h 50 0) * (1103515245 : Int32)) + (12345 : Int32))) fun h1 => if a1 ≤ 0 then (some ((0 : Int32), h1)) else ((zre (((zI h1 50 0).toUInt32 >>> ((16 : Int32).toUInt32 &&& Int32.toUInt32 31)).toInt32 &&& (32767 : Int32)) a1).bind fun v2 => some (v2, h1))
set_option maxRecDepth 100000 in
theorem s_X0_draw_ok (d : Nat) (ρ : Nat → Nat → Option zF) (hρ : zSh ρ) (a1 : Int32) (h : zH) (res : Int32 × zH) (hR : zRq h ρ) (e : s_X0_draw a1 h = some res) : zcl d 295 [zr ((50, 0, 0) : zF), zi a1] h (zQi ρ res) := by
  rw [s_X0_draw] at e
  refine ⟨zm_X0_draw, rfl, ?_⟩
  show zwp d zm_X0_draw 0 [some (zr ((50, 0, 0) : zF)), some (zi a1)] [] h _
  refine zwp.go (m := 7) (j := 7) (ls' := [some (zr ((50, 0, 0) : zF)), some (zi a1)]) (st' := [zi (((zI h 50 0) * (1103515245 : Int32)) + (12345 : Int32)), zr ((50, 0, 0) : zF)]) (h' := h) rfl ?_
  refine zc_w e rfl hR (fun h1 hR1 e => ?_)
  refine zwp.go (m := 1) (j := 9) (ls' := [some (zr ((50, 0, 0) : zF)), some (zi a1)]) (st' := [zi a1]) (h' := h1) rfl ?_
  refine zb_if (j := 19) (j2 := 10) e rfl (fun e => ?_) (fun e => ?_)
  · refine zwp.go (m := 1) (j := 20) (ls' := [some (zr ((50, 0, 0) : zF)), some (zi a1)]) (st' := [zi (0 : Int32)]) (h' := h1) rfl ?_
    cases e
    exact zwp.ret rfl rfl ⟨⟨rfl, rfl⟩, hR1⟩
  · refine zwp.go (m := 7) (j := 17) (ls' := [some (zr ((50, 0, 0) : zF)), some (zi a1)]) (st' := [zi a1, zi (((zI h1 50 0).toUInt32 >>> ((16 : Int32).toUInt32 &&& Int32.toUInt32 31)).toInt32 &&& (32767 : Int32))]) (h' := h1) rfl ?_
    refine zb_re e rfl (fun v2 e => ?_)
    refine zwp.go (m := 1) (j := 20) (ls' := [some (zr ((50, 0, 0) : zF)), some (zi a1)]) (st' := [zi v2]) (h' := h1) rfl ?_
    cases e
    exact zwp.ret rfl rfl ⟨⟨rfl, rfl⟩, hR1⟩
def s_X10_letChanceAct_J34 (pp : Nat) (l1 : Int32) (h : zH) : Option (zH) := if ¬ l1 = (2 : Int32) then (if ¬ l1 = (3 : Int32) then (some h) else (zbd (s_X0_draw (10 : Int32) h) fun v2 h1 => zlt (zwI h1 32 1 v2) fun h3 => some h3)) else (zbd (s_X0_draw (10 : Int32) h) fun v5 h4 => zlt (zwI h4 32 0 v5) fun h6 => some h6)
set_option maxRecDepth 100000 in
theorem s_X10_letChanceAct_J34_ok (d : Nat) (ρ : Nat → Nat → Option zF) (hρ : zSh ρ) (pp : Nat) (hpp : ρ 0 3 = some (pp, 3, 0) ∧ zPlS ρ pp) (l1 : Int32) (h : zH) (res : zH) (hR : zRq h ρ) (e : s_X10_letChanceAct_J34 pp l1 h = some res) : zwp (d + 2) zm_X10_letChanceAct 34 [some (zr ((0, 10, 0) : zF)), some (zi l1), none] [] h (zQv ρ res) := by
  rw [s_X10_letChanceAct_J34] at e
  refine zwp.go (m := 2) (j := 36) (ls' := [some (zr ((0, 10, 0) : zF)), some (zi l1), none]) (st' := [zi (2 : Int32), zi l1]) (h' := h) rfl ?_
  refine zb_if (j := 47) (j2 := 37) e rfl (fun e => ?_) (fun e => ?_)
  · refine zwp.go (m := 2) (j := 49) (ls' := [some (zr ((0, 10, 0) : zF)), some (zi l1), none]) (st' := [zi (3 : Int32), zi l1]) (h' := h) rfl ?_
    refine zb_if (j := 59) (j2 := 50) e rfl (fun e => ?_) (fun e => ?_)
    · cases e
      exact zwp.rv rfl ⟨⟨rfl, rfl⟩, hR⟩
    · refine zwp.go (m := 1) (j := 51) (ls' := [some (zr ((0, 10, 0) : zF)), some (zi l1), none]) (st' := [zr ((0, 10, 0) : zF)]) (h' := h) rfl ?_
      refine zc_sr (r := ((30, 8, 0) : zF)) (zrf (a := 0) (y := 9) hR rfl (hρ 0 9 rfl)) rfl ?_
      refine zc_sr (r := ((32, 20, 2) : zF)) (zrf (a := 30) (y := 1) hR rfl (zSh_st30 hρ).2.2.1) rfl ?_
      refine zwp.go (m := 2) (j := 55) (ls' := [some (zr ((0, 10, 0) : zF)), some (zi l1), none]) (st' := [zr ((0, 10, 0) : zF), zi (1 : Int32), zr ((32, 20, 2) : zF)]) (h' := h) rfl ?_
      refine zc_sr (r := ((50, 0, 0) : zF)) (zrf (a := 0) (y := 14) hR rfl (hρ 0 14 rfl)) rfl ?_
      refine zwp.go (m := 1) (j := 57) (ls' := [some (zr ((0, 10, 0) : zF)), some (zi l1), none]) (st' := [zi (10 : Int32), zr ((50, 0, 0) : zF), zi (1 : Int32), zr ((32, 20, 2) : zF)]) (h' := h) rfl ?_
      refine zc_ci (d := d + 1) e (fun q e => s_X0_draw_ok (d + 1) ρ hρ (10 : Int32) h q hR e) rfl rfl (fun v2 h1 hR1 e => ?_)
      refine zc_w e rfl hR1 (fun h3 hR3 e => ?_)
      cases e
      exact zwp.rv rfl ⟨⟨rfl, rfl⟩, hR3⟩
  · refine zwp.go (m := 1) (j := 38) (ls' := [some (zr ((0, 10, 0) : zF)), some (zi l1), none]) (st' := [zr ((0, 10, 0) : zF)]) (h' := h) rfl ?_
    refine zc_sr (r := ((30, 8, 0) : zF)) (zrf (a := 0) (y := 9) hR rfl (hρ 0 9 rfl)) rfl ?_
    refine zc_sr (r := ((32, 20, 2) : zF)) (zrf (a := 30) (y := 1) hR rfl (zSh_st30 hρ).2.2.1) rfl ?_
    refine zwp.go (m := 2) (j := 42) (ls' := [some (zr ((0, 10, 0) : zF)), some (zi l1), none]) (st' := [zr ((0, 10, 0) : zF), zi (0 : Int32), zr ((32, 20, 2) : zF)]) (h' := h) rfl ?_
    refine zc_sr (r := ((50, 0, 0) : zF)) (zrf (a := 0) (y := 14) hR rfl (hρ 0 14 rfl)) rfl ?_
    refine zwp.go (m := 1) (j := 44) (ls' := [some (zr ((0, 10, 0) : zF)), some (zi l1), none]) (st' := [zi (10 : Int32), zr ((50, 0, 0) : zF), zi (0 : Int32), zr ((32, 20, 2) : zF)]) (h' := h) rfl ?_
    refine zc_ci (d := d + 1) e (fun q e => s_X0_draw_ok (d + 1) ρ hρ (10 : Int32) h q hR e) rfl rfl (fun v5 h4 hR4 e => ?_)
    refine zc_w e rfl hR4 (fun h6 hR6 e => ?_)
    refine zwp.go (m := 1) (j := 59) (ls' := [some (zr ((0, 10, 0) : zF)), some (zi l1), none]) (st' := []) (h' := h6) rfl ?_
    cases e
    exact zwp.rv rfl ⟨⟨rfl, rfl⟩, hR6⟩
def s_X10_letChanceAct (pp : Nat) (h : zH) : Option (zH) := zbd (s_X0_draw (7 : Int32) h) fun v2 h1 => if (1 : Int32) < v2 then (s_X10_letChanceAct_J34 pp v2 h1) else (if (zI h1 pp 6) ≤ 0 then (s_X10_letChanceAct_J34 pp v2 h1) else (zbd (s_X0_draw (zI h1 pp 6) h1) fun v4 h3 => if ¬ v2 = 0 then ((s_X8_strengthen 30 v4 (9 : Int32) h3).bind fun h5 => some h5) else (zix v4 12 fun i7 => zlt (zwI h3 31 i7 (0 : Int32)) fun h6 => some h6)))
set_option maxRecDepth 100000 in
theorem s_X10_letChanceAct_ok (d : Nat) (ρ : Nat → Nat → Option zF) (hρ : zSh ρ) (pp : Nat) (hpp : ρ 0 3 = some (pp, 3, 0) ∧ zPlS ρ pp) (h : zH) (res : zH) (hR : zRq h ρ) (e : s_X10_letChanceAct pp h = some res) : zcl (d + 2) 296 [zr ((0, 10, 0) : zF)] h (zQv ρ res) := by
  rw [s_X10_letChanceAct] at e
  refine ⟨zm_X10_letChanceAct, rfl, ?_⟩
  show zwp (d + 2) zm_X10_letChanceAct 0 [some (zr ((0, 10, 0) : zF)), none, none] [] h _
  refine zwp.go (m := 1) (j := 1) (ls' := [some (zr ((0, 10, 0) : zF)), none, none]) (st' := [zr ((0, 10, 0) : zF)]) (h' := h) rfl ?_
  refine zc_sr (r := ((50, 0, 0) : zF)) (zrf (a := 0) (y := 14) hR rfl (hρ 0 14 rfl)) rfl ?_
  refine zwp.go (m := 1) (j := 3) (ls' := [some (zr ((0, 10, 0) : zF)), none, none]) (st' := [zi (7 : Int32), zr ((50, 0, 0) : zF)]) (h' := h) rfl ?_
  refine zc_ci (d := d + 1) e (fun q e => s_X0_draw_ok (d + 1) ρ hρ (7 : Int32) h q hR e) rfl rfl (fun v2 h1 hR1 e => ?_)
  refine zwp.go (m := 3) (j := 7) (ls' := [some (zr ((0, 10, 0) : zF)), some (zi v2), none]) (st' := [zi (1 : Int32), zi v2]) (h' := h1) rfl ?_
  refine zb_if (j := 34) (j2 := 8) e rfl (fun e => ?_) (fun e => ?_)
  · exact s_X10_letChanceAct_J34_ok d ρ hρ pp hpp v2 h1 _ hR1 e
  · refine zwp.go (m := 1) (j := 9) (ls' := [some (zr ((0, 10, 0) : zF)), some (zi v2), none]) (st' := [zr ((0, 10, 0) : zF)]) (h' := h1) rfl ?_
    refine zc_sr (r := ((pp, 3, 0) : zF)) (zrf (a := 0) (y := 3) hR1 rfl hpp.1) rfl ?_
    refine zwp.go (m := 1) (j := 11) (ls' := [some (zr ((0, 10, 0) : zF)), some (zi v2), none]) (st' := [zi (zI h1 pp 6)]) (h' := h1) rfl ?_
    refine zb_if (j := 34) (j2 := 12) e rfl (fun e => ?_) (fun e => ?_)
    · exact s_X10_letChanceAct_J34_ok d ρ hρ pp hpp v2 h1 _ hR1 e
    · refine zwp.go (m := 1) (j := 13) (ls' := [some (zr ((0, 10, 0) : zF)), some (zi v2), none]) (st' := [zr ((0, 10, 0) : zF)]) (h' := h1) rfl ?_
      refine zc_sr (r := ((50, 0, 0) : zF)) (zrf (a := 0) (y := 14) hR1 rfl (hρ 0 14 rfl)) rfl ?_
      refine zwp.go (m := 1) (j := 15) (ls' := [some (zr ((0, 10, 0) : zF)), some (zi v2), none]) (st' := [zr ((0, 10, 0) : zF), zr ((50, 0, 0) : zF)]) (h' := h1) rfl ?_
      refine zc_sr (r := ((pp, 3, 0) : zF)) (zrf (a := 0) (y := 3) hR1 rfl hpp.1) rfl ?_
      refine zwp.go (m := 1) (j := 17) (ls' := [some (zr ((0, 10, 0) : zF)), some (zi v2), none]) (st' := [zi (zI h1 pp 6), zr ((50, 0, 0) : zF)]) (h' := h1) rfl ?_
      refine zc_ci (d := d + 1) e (fun q e => s_X0_draw_ok (d + 1) ρ hρ (zI h1 pp 6) h1 q hR1 e) rfl rfl (fun v4 h3 hR3 e => ?_)
      refine zwp.go (m := 2) (j := 20) (ls' := [some (zr ((0, 10, 0) : zF)), some (zi v2), some (zi v4)]) (st' := [zi v2]) (h' := h3) rfl ?_
      refine zb_if (j := 28) (j2 := 21) e rfl (fun e => ?_) (fun e => ?_)
      · refine zwp.go (m := 1) (j := 29) (ls' := [some (zr ((0, 10, 0) : zF)), some (zi v2), some (zi v4)]) (st' := [zr ((0, 10, 0) : zF)]) (h' := h3) rfl ?_
        refine zc_sr (r := ((30, 8, 0) : zF)) (zrf (a := 0) (y := 9) hR3 rfl (hρ 0 9 rfl)) rfl ?_
        refine zwp.go (m := 2) (j := 32) (ls' := [some (zr ((0, 10, 0) : zF)), some (zi v2), some (zi v4)]) (st' := [zi (9 : Int32), zi v4, zr ((30, 8, 0) : zF)]) (h' := h3) rfl ?_
        refine zc_cv (d := d + 1) e (fun q e => s_X8_strengthen_ok (d + 0) ρ hρ 30 v4 (9 : Int32) (zSh_st30 hρ) h3 q hR3 e) rfl rfl (fun h5 hR5 e => ?_)
        refine zwp.go (m := 1) (j := 59) (ls' := [some (zr ((0, 10, 0) : zF)), some (zi v2), some (zi v4)]) (st' := []) (h' := h5) rfl ?_
        cases e
        exact zwp.rv rfl ⟨⟨rfl, rfl⟩, hR5⟩
      · refine zwp.go (m := 1) (j := 22) (ls' := [some (zr ((0, 10, 0) : zF)), some (zi v2), some (zi v4)]) (st' := [zr ((0, 10, 0) : zF)]) (h' := h3) rfl ?_
        refine zc_sr (r := ((30, 8, 0) : zF)) (zrf (a := 0) (y := 9) hR3 rfl (hρ 0 9 rfl)) rfl ?_
        refine zc_sr (r := ((31, 20, 12) : zF)) (zrf (a := 30) (y := 0) hR3 rfl (zSh_st30 hρ).2.1) rfl ?_
        refine zwp.go (m := 2) (j := 26) (ls' := [some (zr ((0, 10, 0) : zF)), some (zi v2), some (zi v4)]) (st' := [zi (0 : Int32), zi v4, zr ((31, 20, 12) : zF)]) (h' := h3) rfl ?_
        refine zc_si e (fun _ => rfl) hR3 (fun h6 hR6 e => ?_)
        refine zwp.go (m := 2) (j := 59) (ls' := [some (zr ((0, 10, 0) : zF)), some (zi v2), some (zi v4)]) (st' := []) (h' := h6) rfl ?_
        cases e
        exact zwp.rv rfl ⟨⟨rfl, rfl⟩, hR6⟩
def s_X10_years_L25 (pp : Nat) : Nat → Int32 → Int32 → Int32 → Int32 → Int32 → zH → Option ((Int32 ⊕ Nat) × zH)
  | 0, _, _, _, _, _, _ => none
  | n + 1, l2, l3, l4, l5, l6, h => if l2 ≤ l6 then (if l3 = 0 then (some (Sum.inl l4, h)) else if l3 = 1 then (some (Sum.inl l5, h)) else ((s_X8_total 30 (zI h pp 6) h).bind fun v1 => some (Sum.inl v1, h))) else ((s_X10_letChanceAct pp h).bind fun h2 => zbd (s_X9_pass pp 30 h2) fun v4 h3 => if v4 = 0 then (s_X10_years_L25 pp n l2 l3 l4 l5 (l6 + (1 : Int32)) h3) else ((s_J6_bitCount_0f7a4 (zI h3 36 2) h3).bind fun v5 => s_X10_years_L25 pp n l2 l3 (l4 + (1 : Int32)) (l5 + v5) (l6 + (1 : Int32)) h3))
set_option maxRecDepth 100000 in
theorem s_X10_years_L25_ok (d : Nat) (ρ : Nat → Nat → Option zF) (hρ : zSh ρ) (pp : Nat) (hpp : ρ 0 3 = some (pp, 3, 0) ∧ zPlS ρ pp) : ∀ (n : Nat) (l2 : Int32) (l3 : Int32) (l4 : Int32) (l5 : Int32) (l6 : Int32) (h : zH) (res : (Int32 ⊕ Nat) × zH) (hR : zRq h ρ) (e : s_X10_years_L25 pp n l2 l3 l4 l5 l6 h = some res), zwp (d + 5) zm_X10_years 25 [some (zr ((0, 10, 0) : zF)), none, some (zi l2), some (zi l3), some (zi l4), some (zi l5), some (zi l6)] [] h (zQx ρ res) := by
  intro n
  induction n with
  | zero => intro l2 l3 l4 l5 l6 h res hR e; cases e
  | succ n ih =>
    intro l2 l3 l4 l5 l6 h res hR e
    rw [s_X10_years_L25] at e
    refine zwp.go (m := 2) (j := 27) (ls' := [some (zr ((0, 10, 0) : zF)), none, some (zi l2), some (zi l3), some (zi l4), some (zi l5), some (zi l6)]) (st' := [zi l2, zi l6]) (h' := h) rfl ?_
    refine zb_if (j := 48) (j2 := 28) e rfl (fun e => ?_) (fun e => ?_)
    · refine zwp.go (m := 1) (j := 49) (ls' := [some (zr ((0, 10, 0) : zF)), none, some (zi l2), some (zi l3), some (zi l4), some (zi l5), some (zi l6)]) (st' := [zi l3]) (h' := h) rfl ?_
      refine zwp.nx (j := zsw [(0, 50), (1, 52)] 54 l3) (ls' := [some (zr ((0, 10, 0) : zF)), none, some (zi l2), some (zi l3), some (zi l4), some (zi l5), some (zi l6)]) (st' := []) (h' := h) rfl ?_
      refine zb_sw e (fun e => ?_) (fun e => ?_)
      · refine zwp.go (m := 1) (j := 51) (ls' := [some (zr ((0, 10, 0) : zF)), none, some (zi l2), some (zi l3), some (zi l4), some (zi l5), some (zi l6)]) (st' := [zi l4]) (h' := h) rfl ?_
        cases e
        exact zwp.ret rfl rfl ⟨⟨rfl, rfl⟩, hR⟩
      refine zb_sw e (fun e => ?_) (fun e => ?_)
      · refine zwp.go (m := 1) (j := 53) (ls' := [some (zr ((0, 10, 0) : zF)), none, some (zi l2), some (zi l3), some (zi l4), some (zi l5), some (zi l6)]) (st' := [zi l5]) (h' := h) rfl ?_
        cases e
        exact zwp.ret rfl rfl ⟨⟨rfl, rfl⟩, hR⟩
      refine zwp.go (m := 1) (j := 55) (ls' := [some (zr ((0, 10, 0) : zF)), none, some (zi l2), some (zi l3), some (zi l4), some (zi l5), some (zi l6)]) (st' := [zr ((0, 10, 0) : zF)]) (h' := h) rfl ?_
      refine zc_sr (r := ((30, 8, 0) : zF)) (zrf (a := 0) (y := 9) hR rfl (hρ 0 9 rfl)) rfl ?_
      refine zwp.go (m := 1) (j := 57) (ls' := [some (zr ((0, 10, 0) : zF)), none, some (zi l2), some (zi l3), some (zi l4), some (zi l5), some (zi l6)]) (st' := [zr ((0, 10, 0) : zF), zr ((30, 8, 0) : zF)]) (h' := h) rfl ?_
      refine zc_sr (r := ((pp, 3, 0) : zF)) (zrf (a := 0) (y := 3) hR rfl hpp.1) rfl ?_
      refine zwp.go (m := 1) (j := 59) (ls' := [some (zr ((0, 10, 0) : zF)), none, some (zi l2), some (zi l3), some (zi l4), some (zi l5), some (zi l6)]) (st' := [zi (zI h pp 6), zr ((30, 8, 0) : zF)]) (h' := h) rfl ?_
      refine zc_cp (d := d + 4) e (fun q e => s_X8_total_ok (d + 4) ρ hρ 30 (zI h pp 6) (zSh_st30 hρ) h q hR e) rfl rfl (fun v1 e => ?_)
      cases e
      exact zwp.ret rfl rfl ⟨⟨rfl, rfl⟩, hR⟩
    · refine zwp.go (m := 1) (j := 29) (ls' := [some (zr ((0, 10, 0) : zF)), none, some (zi l2), some (zi l3), some (zi l4), some (zi l5), some (zi l6)]) (st' := [zr ((0, 10, 0) : zF)]) (h' := h) rfl ?_
      refine zc_cv (d := d + 4) e (fun q e => s_X10_letChanceAct_ok (d + 2) ρ hρ pp hpp h q hR e) rfl rfl (fun h2 hR2 e => ?_)
      refine zwp.go (m := 1) (j := 31) (ls' := [some (zr ((0, 10, 0) : zF)), none, some (zi l2), some (zi l3), some (zi l4), some (zi l5), some (zi l6)]) (st' := [zr ((0, 10, 0) : zF)]) (h' := h2) rfl ?_
      refine zc_sr (r := ((36, 9, 0) : zF)) (zrf (a := 0) (y := 10) hR2 rfl (hρ 0 10 rfl)) rfl ?_
      refine zwp.go (m := 1) (j := 33) (ls' := [some (zr ((0, 10, 0) : zF)), none, some (zi l2), some (zi l3), some (zi l4), some (zi l5), some (zi l6)]) (st' := [zr ((0, 10, 0) : zF), zr ((36, 9, 0) : zF)]) (h' := h2) rfl ?_
      refine zc_sr (r := ((pp, 3, 0) : zF)) (zrf (a := 0) (y := 3) hR2 rfl hpp.1) rfl ?_
      refine zwp.go (m := 1) (j := 35) (ls' := [some (zr ((0, 10, 0) : zF)), none, some (zi l2), some (zi l3), some (zi l4), some (zi l5), some (zi l6)]) (st' := [zr ((0, 10, 0) : zF), zr ((pp, 3, 0) : zF), zr ((36, 9, 0) : zF)]) (h' := h2) rfl ?_
      refine zc_sr (r := ((30, 8, 0) : zF)) (zrf (a := 0) (y := 9) hR2 rfl (hρ 0 9 rfl)) rfl ?_
      refine zc_ci (d := d + 4) e (fun q e => s_X9_pass_ok (d + 0) ρ hρ pp 30 hpp.2 (zSh_st30 hρ) h2 q hR2 e) rfl rfl (fun v4 h3 hR3 e => ?_)
      refine zb_if (j := 46) (j2 := 38) e rfl (fun e => ?_) (fun e => ?_)
      · refine zwp.go (m := 2) (j := 25) (ls' := [some (zr ((0, 10, 0) : zF)), none, some (zi l2), some (zi l3), some (zi l4), some (zi l5), some (zi (l6 + (1 : Int32)))]) (st' := []) (h' := h3) rfl ?_
        exact ih l2 l3 l4 l5 (l6 + (1 : Int32)) h3 _ hR3 e
      · refine zwp.go (m := 3) (j := 41) (ls' := [some (zr ((0, 10, 0) : zF)), none, some (zi l2), some (zi l3), some (zi (l4 + (1 : Int32))), some (zi l5), some (zi l6)]) (st' := [zr ((0, 10, 0) : zF), zi l5]) (h' := h3) rfl ?_
        refine zc_sr (r := ((36, 9, 0) : zF)) (zrf (a := 0) (y := 10) hR3 rfl (hρ 0 10 rfl)) rfl ?_
        refine zwp.go (m := 1) (j := 43) (ls' := [some (zr ((0, 10, 0) : zF)), none, some (zi l2), some (zi l3), some (zi (l4 + (1 : Int32))), some (zi l5), some (zi l6)]) (st' := [zi (zI h3 36 2), zi l5]) (h' := h3) rfl ?_
        refine zc_cp (d := d + 4) e (fun q e => s_J6_bitCount_0f7a4_ok (d + 4) ρ hρ (zI h3 36 2) h3 q hR3 e) rfl rfl (fun v5 e => ?_)
        refine zwp.go (m := 4) (j := 25) (ls' := [some (zr ((0, 10, 0) : zF)), none, some (zi l2), some (zi l3), some (zi (l4 + (1 : Int32))), some (zi (l5 + v5)), some (zi (l6 + (1 : Int32)))]) (st' := []) (h' := h3) rfl ?_
        exact ih l2 l3 (l4 + (1 : Int32)) (l5 + v5) (l6 + (1 : Int32)) h3 _ hR3 e
def s_X10_years (pp : Nat) (a1 : Int32) (a2 : Int32) (a3 : Int32) (h : zH) : Option ((Int32 ⊕ Nat) × zH) := zbx (s_X10_needWhat pp a3 (3 : Int32) h) (fun _ h2 => zbx (s_X10_needWithin pp a2 (0 : Int32) (60 : Int32) h2) (fun _ h4 => (s_X8_copyFrom 30 19 h4).bind fun h5 => zlt (zwI h5 50 0 a1) fun h6 => s_X10_years_L25 pp zfu a2 a3 (0 : Int32) (0 : Int32) (0 : Int32) h6) (fun x h3 => some (Sum.inr x, h3))) (fun x h1 => some (Sum.inr x, h1))
set_option maxRecDepth 100000 in
theorem s_X10_years_ok (d : Nat) (ρ : Nat → Nat → Option zF) (hρ : zSh ρ) (pp : Nat) (a1 : Int32) (a2 : Int32) (a3 : Int32) (hpp : ρ 0 3 = some (pp, 3, 0) ∧ zPlS ρ pp) (h : zH) (res : (Int32 ⊕ Nat) × zH) (hR : zRq h ρ) (e : s_X10_years pp a1 a2 a3 h = some res) : zcl (d + 5) 297 [zr ((0, 10, 0) : zF), zi a1, zi a2, zi a3] h (zQx ρ res) := by
  rw [s_X10_years] at e
  refine ⟨zm_X10_years, rfl, ?_⟩
  show zwp (d + 5) zm_X10_years 0 [some (zr ((0, 10, 0) : zF)), some (zi a1), some (zi a2), some (zi a3), none, none, none] [] h _
  refine zwp.go (m := 3) (j := 3) (ls' := [some (zr ((0, 10, 0) : zF)), some (zi a1), some (zi a2), some (zi a3), none, none, none]) (st' := [zi (3 : Int32), zi a3, zr ((0, 10, 0) : zF)]) (h' := h) rfl ?_
  refine zc_cu (d := d + 4) e (fun q e => s_X10_needWhat_ok (d + 4) ρ hρ pp a3 (3 : Int32) hpp h q hR e) rfl rfl (fun h2 hR2 e => ?_) (fun x h1 hR1 e => ?_)
  · refine zwp.go (m := 4) (j := 8) (ls' := [some (zr ((0, 10, 0) : zF)), some (zi a1), some (zi a2), some (zi a3), none, none, none]) (st' := [zi (60 : Int32), zi (0 : Int32), zi a2, zr ((0, 10, 0) : zF)]) (h' := h2) rfl ?_
    refine zc_cu (d := d + 4) e (fun q e => s_X10_needWithin_ok (d + 4) ρ hρ pp a2 (0 : Int32) (60 : Int32) hpp h2 q hR2 e) rfl rfl (fun h4 hR4 e => ?_) (fun x h3 hR3 e => ?_)
    · refine zwp.go (m := 1) (j := 10) (ls' := [some (zr ((0, 10, 0) : zF)), some (zi a1), some (zi a2), some (zi a3), none, none, none]) (st' := [zr ((0, 10, 0) : zF)]) (h' := h4) rfl ?_
      refine zc_sr (r := ((30, 8, 0) : zF)) (zrf (a := 0) (y := 9) hR4 rfl (hρ 0 9 rfl)) rfl ?_
      refine zwp.go (m := 1) (j := 12) (ls' := [some (zr ((0, 10, 0) : zF)), some (zi a1), some (zi a2), some (zi a3), none, none, none]) (st' := [zr ((0, 10, 0) : zF), zr ((30, 8, 0) : zF)]) (h' := h4) rfl ?_
      refine zc_sr (r := ((18, 2, 0) : zF)) (zrf (a := 0) (y := 6) hR4 rfl (hρ 0 6 rfl)) rfl ?_
      refine zc_sr (r := ((19, 8, 0) : zF)) (zrf (a := 18) (y := 0) hR4 rfl (zSh_ld18 hρ).2.1) rfl ?_
      refine zc_cv (d := d + 4) e (fun q e => s_X8_copyFrom_ok (d + 4) ρ hρ 30 19 (zSh_st30 hρ) (zSh_st19 hρ) h4 q hR4 e) rfl rfl (fun h5 hR5 e => ?_)
      refine zwp.go (m := 1) (j := 16) (ls' := [some (zr ((0, 10, 0) : zF)), some (zi a1), some (zi a2), some (zi a3), none, none, none]) (st' := [zr ((0, 10, 0) : zF)]) (h' := h5) rfl ?_
      refine zc_sr (r := ((50, 0, 0) : zF)) (zrf (a := 0) (y := 14) hR5 rfl (hρ 0 14 rfl)) rfl ?_
      refine zwp.go (m := 1) (j := 18) (ls' := [some (zr ((0, 10, 0) : zF)), some (zi a1), some (zi a2), some (zi a3), none, none, none]) (st' := [zi a1, zr ((50, 0, 0) : zF)]) (h' := h5) rfl ?_
      refine zc_w e rfl hR5 (fun h6 hR6 e => ?_)
      refine zwp.go (m := 6) (j := 25) (ls' := [some (zr ((0, 10, 0) : zF)), some (zi a1), some (zi a2), some (zi a3), some (zi (0 : Int32)), some (zi (0 : Int32)), some (zi (0 : Int32))]) (st' := []) (h' := h6) rfl ?_
      refine zwp.fg (a := [some (zr ((0, 10, 0) : zF)), none, some (zi a2), some (zi a3), some (zi (0 : Int32)), some (zi (0 : Int32)), some (zi (0 : Int32))]) (And.intro rfl (And.intro rfl (And.intro rfl (And.intro rfl (And.intro rfl (And.intro rfl trivial)))))) ?_
      exact s_X10_years_L25_ok d ρ hρ pp hpp zfu a2 a3 (0 : Int32) (0 : Int32) (0 : Int32) h6 _ hR6 e
    · cases e
      exact ⟨rfl, ⟨⟨rfl, rfl⟩, hR3⟩⟩
  · cases e
    exact ⟨rfl, ⟨⟨rfl, rfl⟩, hR1⟩⟩
def s_L_years (pp : Nat) (a1 : Int32) (a2 : Int32) (a3 : Int32) (a4 n4 : Nat) (h : zH) : Option (Int32 × zH) := zbx (s_X10_years pp a1 a2 a3 h) (fun v3 h2 => zix (0 : Int32) n4 fun i5 => zlt (zwL h2 a4 i5 v3.toInt64) fun h4 => some ((0 : Int32), h4)) (fun x h1 => if x = 1 then (some ((1 : Int32), h1)) else if x = 0 then (some ((2 : Int32), h1)) else none)
set_option maxRecDepth 100000 in
theorem s_L_years_ok (d : Nat) (ρ : Nat → Nat → Option zF) (hρ : zSh ρ) (pp : Nat) (a1 : Int32) (a2 : Int32) (a3 : Int32) (a4 n4 : Nat) (hpp : ρ 0 3 = some (pp, 3, 0) ∧ zPlS ρ pp) (h : zH) (res : Int32 × zH) (hR : zRq h ρ) (e : s_L_years pp a1 a2 a3 a4 n4 h = some res) : zcl (d + 6) 298 [zr ((0, 10, 0) : zF), zi a1, zi a2, zi a3, zr ((a4, 23, n4) : zF)] h (zQi ρ res) := by
  rw [s_L_years] at e
  refine ⟨zm_L_years, rfl, ?_⟩
  show zwp (d + 6) zm_L_years 0 [some (zr ((0, 10, 0) : zF)), some (zi a1), some (zi a2), some (zi a3), some (zr ((a4, 23, n4) : zF)), none] [] h _
  refine zwp.go (m := 6) (j := 6) (ls' := [some (zr ((0, 10, 0) : zF)), some (zi a1), some (zi a2), some (zi a3), some (zr ((a4, 23, n4) : zF)), none]) (st' := [zi a3, zi a2, zi a1, zr ((0, 10, 0) : zF), zi (0 : Int32), zr ((a4, 23, n4) : zF)]) (h' := h) rfl ?_
  refine zc_cx (d := d + 5) e (fun q e => s_X10_years_ok (d + 0) ρ hρ pp a1 a2 a3 hpp h q hR e) rfl rfl (fun v3 h2 hR2 e => ?_) (fun x h1 hR1 e => ?_)
  · refine zwp.go (m := 1) (j := 8) (ls' := [some (zr ((0, 10, 0) : zF)), some (zi a1), some (zi a2), some (zi a3), some (zr ((a4, 23, n4) : zF)), none]) (st' := [zl v3.toInt64, zi (0 : Int32), zr ((a4, 23, n4) : zF)]) (h' := h2) rfl ?_
    refine zc_sl e (fun _ => rfl) hR2 (fun h4 hR4 e => ?_)
    refine zwp.go (m := 2) (j := 17) (ls' := [some (zr ((0, 10, 0) : zF)), some (zi a1), some (zi a2), some (zi a3), some (zr ((a4, 23, n4) : zF)), none]) (st' := [zi (0 : Int32)]) (h' := h4) rfl ?_
    cases e
    exact zwp.ret rfl rfl ⟨⟨rfl, rfl⟩, hR4⟩
  · by_cases q1 : x = 1
    · subst q1
      replace e : (some ((1 : Int32), h1)) = some res := by simpa using e
      show zwp _ _ 11 [some (zr ((0, 10, 0) : zF)), some (zi a1), some (zi a2), some (zi a3), some (zr ((a4, 23, n4) : zF)), none] [] _ _
      refine zwp.go (m := 1) (j := 12) (ls' := [some (zr ((0, 10, 0) : zF)), some (zi a1), some (zi a2), some (zi a3), some (zr ((a4, 23, n4) : zF)), none]) (st' := [zi (1 : Int32)]) (h' := h1) rfl ?_
      cases e
      exact zwp.ret rfl rfl ⟨⟨rfl, rfl⟩, hR1⟩
    · skip
      by_cases q0 : x = 0
      · subst q0
        replace e : (some ((2 : Int32), h1)) = some res := by simpa using e
        show zwp _ _ 14 [some (zr ((0, 10, 0) : zF)), some (zi a1), some (zi a2), some (zi a3), some (zr ((a4, 23, n4) : zF)), none] [] _ _
        refine zwp.go (m := 1) (j := 15) (ls' := [some (zr ((0, 10, 0) : zF)), some (zi a1), some (zi a2), some (zi a3), some (zr ((a4, 23, n4) : zF)), none]) (st' := [zi (2 : Int32)]) (h' := h1) rfl ?_
        cases e
        exact zwp.ret rfl rfl ⟨⟨rfl, rfl⟩, hR1⟩
      · skip
        simp [q1, q0] at e
def s_X11_drawOf (a1 : Int32) (h : zH) : Option (Int32 × zH) := zlt (zwI h 52 58 (((zI h 52 58) * (1103515245 : Int32)) + (12345 : Int32))) fun h1 => (zre (((zI h1 52 58) >>> ((16 : Int32) &&& 31)) &&& (32767 : Int32)) a1).bind fun v2 => some (v2, h1)
set_option maxRecDepth 100000 in
theorem s_X11_drawOf_ok (d : Nat) (ρ : Nat → Nat → Option zF) (hρ : zSh ρ) (a1 : Int32) (h : zH) (res : Int32 × zH) (hR : zRq h ρ) (e : s_X11_drawOf a1 h = some res) : zcl d 299 [zr ((52, 11, 0) : zF), zi a1] h (zQi ρ res) := by
  rw [s_X11_drawOf] at e
  refine ⟨zm_X11_drawOf, rfl, ?_⟩
  show zwp d zm_X11_drawOf 0 [some (zr ((52, 11, 0) : zF)), some (zi a1)] [] h _
  refine zwp.go (m := 7) (j := 7) (ls' := [some (zr ((52, 11, 0) : zF)), some (zi a1)]) (st' := [zi (((zI h 52 58) * (1103515245 : Int32)) + (12345 : Int32)), zr ((52, 11, 0) : zF)]) (h' := h) rfl ?_
  refine zc_w e rfl hR (fun h1 hR1 e => ?_)
  refine zwp.go (m := 7) (j := 15) (ls' := [some (zr ((52, 11, 0) : zF)), some (zi a1)]) (st' := [zi a1, zi (((zI h1 52 58) >>> ((16 : Int32) &&& 31)) &&& (32767 : Int32))]) (h' := h1) rfl ?_
  refine zb_re e rfl (fun v2 e => ?_)
  cases e
  exact zwp.ret rfl rfl ⟨⟨rfl, rfl⟩, hR1⟩
def s_X11_something_J19 (l1 : Int32) (h : zH) : Option (zH) := if (1 : Int32) < l1 then (some h) else (if ¬ (zI h 56 0) = 0 then (zbd (s_X11_drawOf (zI h 56 0) h) fun v2 h1 => if ¬ l1 = 0 then (zix v2 12 fun i3 => (s_J9_min_7cf53 (99 : Int32) ((zI h1 64 i3) + (9 : Int32)) h1).bind fun v4 => zix v2 12 fun i6 => zlt (zwI h1 64 i6 v4) fun h5 => some h5) else (zix v2 12 fun i8 => zlt (zwI h1 64 i8 (0 : Int32)) fun h7 => some h7)) else (some h))
set_option maxRecDepth 100000 in
theorem s_X11_something_J19_ok (d : Nat) (ρ : Nat → Nat → Option zF) (hρ : zSh ρ) (l1 : Int32) (h : zH) (res : zH) (hR : zRq h ρ) (e : s_X11_something_J19  l1 h = some res) : zwp (d + 1) zm_X11_something 19 [some (zr ((52, 11, 0) : zF)), some (zi l1), none] [] h (zQv ρ res) := by
  rw [s_X11_something_J19] at e
  refine zwp.go (m := 2) (j := 21) (ls' := [some (zr ((52, 11, 0) : zF)), some (zi l1), none]) (st' := [zi (1 : Int32), zi l1]) (h' := h) rfl ?_
  refine zb_if (j := 27) (j2 := 22) e rfl (fun e => ?_) (fun e => ?_)
  · cases e
    exact zwp.rv rfl ⟨⟨rfl, rfl⟩, hR⟩
  · refine zwp.go (m := 1) (j := 23) (ls' := [some (zr ((52, 11, 0) : zF)), some (zi l1), none]) (st' := [zr ((52, 11, 0) : zF)]) (h' := h) rfl ?_
    refine zc_sr (r := ((56, 20, 12) : zF)) (zrf (a := 52) (y := 5) hR rfl (hρ 52 5 rfl)) rfl ?_
    refine zwp.go (m := 2) (j := 26) (ls' := [some (zr ((52, 11, 0) : zF)), some (zi l1), none]) (st' := [zi (zI h 56 0)]) (h' := h) rfl ?_
    refine zb_if (j := 28) (j2 := 27) e rfl (fun e => ?_) (fun e => ?_)
    · refine zwp.go (m := 2) (j := 30) (ls' := [some (zr ((52, 11, 0) : zF)), some (zi l1), none]) (st' := [zr ((52, 11, 0) : zF), zr ((52, 11, 0) : zF)]) (h' := h) rfl ?_
      refine zc_sr (r := ((56, 20, 12) : zF)) (zrf (a := 52) (y := 5) hR rfl (hρ 52 5 rfl)) rfl ?_
      refine zwp.go (m := 2) (j := 33) (ls' := [some (zr ((52, 11, 0) : zF)), some (zi l1), none]) (st' := [zi (zI h 56 0), zr ((52, 11, 0) : zF)]) (h' := h) rfl ?_
      refine zc_ci (d := d + 0) e (fun q e => s_X11_drawOf_ok (d + 0) ρ hρ (zI h 56 0) h q hR e) rfl rfl (fun v2 h1 hR1 e => ?_)
      refine zwp.go (m := 2) (j := 36) (ls' := [some (zr ((52, 11, 0) : zF)), some (zi l1), some (zi v2)]) (st' := [zr ((52, 11, 0) : zF)]) (h' := h1) rfl ?_
      refine zc_sr (r := ((64, 20, 12) : zF)) (zrf (a := 52) (y := 24) hR1 rfl (hρ 52 24 rfl)) rfl ?_
      refine zwp.go (m := 2) (j := 39) (ls' := [some (zr ((52, 11, 0) : zF)), some (zi l1), some (zi v2)]) (st' := [zi l1, zi v2, zr ((64, 20, 12) : zF)]) (h' := h1) rfl ?_
      refine zb_if (j := 42) (j2 := 40) e rfl (fun e => ?_) (fun e => ?_)
      · refine zwp.go (m := 2) (j := 44) (ls' := [some (zr ((52, 11, 0) : zF)), some (zi l1), some (zi v2)]) (st' := [zr ((52, 11, 0) : zF), zi (99 : Int32), zi v2, zr ((64, 20, 12) : zF)]) (h' := h1) rfl ?_
        refine zc_sr (r := ((64, 20, 12) : zF)) (zrf (a := 52) (y := 24) hR1 rfl (hρ 52 24 rfl)) rfl ?_
        refine zwp.go (m := 1) (j := 46) (ls' := [some (zr ((52, 11, 0) : zF)), some (zi l1), some (zi v2)]) (st' := [zi v2, zr ((64, 20, 12) : zF), zi (99 : Int32), zi v2, zr ((64, 20, 12) : zF)]) (h' := h1) rfl ?_
        refine zc_ai e (fun _ => rfl) (fun i3 e => ?_)
        refine zwp.go (m := 2) (j := 49) (ls' := [some (zr ((52, 11, 0) : zF)), some (zi l1), some (zi v2)]) (st' := [zi ((zI h1 64 i3) + (9 : Int32)), zi (99 : Int32), zi v2, zr ((64, 20, 12) : zF)]) (h' := h1) rfl ?_
        refine zc_cp (d := d + 0) e (fun q e => s_J9_min_7cf53_ok (d + 0) ρ hρ (99 : Int32) ((zI h1 64 i3) + (9 : Int32)) h1 q hR1 e) rfl rfl (fun v4 e => ?_)
        refine zc_si e (fun _ => rfl) hR1 (fun h5 hR5 e => ?_)
        cases e
        exact zwp.rv rfl ⟨⟨rfl, rfl⟩, hR5⟩
      · refine zwp.go (m := 2) (j := 50) (ls' := [some (zr ((52, 11, 0) : zF)), some (zi l1), some (zi v2)]) (st' := [zi (0 : Int32), zi v2, zr ((64, 20, 12) : zF)]) (h' := h1) rfl ?_
        refine zc_si e (fun _ => rfl) hR1 (fun h7 hR7 e => ?_)
        cases e
        exact zwp.rv rfl ⟨⟨rfl, rfl⟩, hR7⟩
    · cases e
      exact zwp.rv rfl ⟨⟨rfl, rfl⟩, hR⟩
def s_X11_something_J10 (l1 : Int32) (h : zH) : Option (zH) := zbd (s_X11_drawOf (10 : Int32) h) fun v2 h1 => zix (l1 - (2 : Int32)) 2 fun i4 => zlt (zwI h1 65 i4 v2) fun h3 => s_X11_something_J19 l1 h3
set_option maxRecDepth 100000 in
theorem s_X11_something_J10_ok (d : Nat) (ρ : Nat → Nat → Option zF) (hρ : zSh ρ) (l1 : Int32) (h : zH) (res : zH) (hR : zRq h ρ) (e : s_X11_something_J10  l1 h = some res) : zwp (d + 1) zm_X11_something 10 [some (zr ((52, 11, 0) : zF)), some (zi l1), none] [] h (zQv ρ res) := by
  rw [s_X11_something_J10] at e
  refine zwp.go (m := 1) (j := 11) (ls' := [some (zr ((52, 11, 0) : zF)), some (zi l1), none]) (st' := [zr ((52, 11, 0) : zF)]) (h' := h) rfl ?_
  refine zc_sr (r := ((65, 20, 2) : zF)) (zrf (a := 52) (y := 25) hR rfl (hρ 52 25 rfl)) rfl ?_
  refine zwp.go (m := 5) (j := 17) (ls' := [some (zr ((52, 11, 0) : zF)), some (zi l1), none]) (st' := [zi (10 : Int32), zr ((52, 11, 0) : zF), zi (l1 - (2 : Int32)), zr ((65, 20, 2) : zF)]) (h' := h) rfl ?_
  refine zc_ci (d := d + 0) e (fun q e => s_X11_drawOf_ok (d + 0) ρ hρ (10 : Int32) h q hR e) rfl rfl (fun v2 h1 hR1 e => ?_)
  refine zc_si e (fun _ => rfl) hR1 (fun h3 hR3 e => ?_)
  exact s_X11_something_J19_ok d ρ hρ l1 h3 _ hR3 e
def s_X11_something (h : zH) : Option (zH) := zbd (s_X11_drawOf (7 : Int32) h) fun v2 h1 => if v2 = (2 : Int32) then (s_X11_something_J10 v2 h1) else (if ¬ v2 = (3 : Int32) then (s_X11_something_J19 v2 h1) else (s_X11_something_J10 v2 h1))
set_option maxRecDepth 100000 in
theorem s_X11_something_ok (d : Nat) (ρ : Nat → Nat → Option zF) (hρ : zSh ρ) (h : zH) (res : zH) (hR : zRq h ρ) (e : s_X11_something  h = some res) : zcl (d + 1) 300 [zr ((52, 11, 0) : zF)] h (zQv ρ res) := by
  rw [s_X11_something] at e
  refine ⟨zm_X11_something, rfl, ?_⟩
  show zwp (d + 1) zm_X11_something 0 [some (zr ((52, 11, 0) : zF)), none, none] [] h _
  refine zwp.go (m := 2) (j := 2) (ls' := [some (zr ((52, 11, 0) : zF)), none, none]) (st' := [zi (7 : Int32), zr ((52, 11, 0) : zF)]) (h' := h) rfl ?_
  refine zc_ci (d := d + 0) e (fun q e => s_X11_drawOf_ok (d + 0) ρ hρ (7 : Int32) h q hR e) rfl rfl (fun v2 h1 hR1 e => ?_)
  refine zwp.go (m := 3) (j := 6) (ls' := [some (zr ((52, 11, 0) : zF)), some (zi v2), none]) (st' := [zi (2 : Int32), zi v2]) (h' := h1) rfl ?_
  refine zb_if (j := 10) (j2 := 7) e rfl (fun e => ?_) (fun e => ?_)
  · exact s_X11_something_J10_ok d ρ hρ v2 h1 _ hR1 e
  · refine zwp.go (m := 2) (j := 9) (ls' := [some (zr ((52, 11, 0) : zF)), some (zi v2), none]) (st' := [zi (3 : Int32), zi v2]) (h' := h1) rfl ?_
    refine zb_if (j := 19) (j2 := 10) e rfl (fun e => ?_) (fun e => ?_)
    · exact s_X11_something_J19_ok d ρ hρ v2 h1 _ hR1 e
    · exact s_X11_something_J10_ok d ρ hρ v2 h1 _ hR1 e
def s_X11_years_J77 (s0 : Int32) (h : zH) : Option (Int32 × zH) := (s_X11_unpack 71 38 (0 : Int32) h).bind fun h1 => some (s0, h1)
set_option maxRecDepth 100000 in
theorem s_X11_years_J77_ok (d : Nat) (ρ : Nat → Nat → Option zF) (hρ : zSh ρ) (s0 : Int32) (h : zH) (res : Int32 × zH) (hR : zRq h ρ) (e : s_X11_years_J77  s0 h = some res) : zwp (d + 5) zm_X11_years 77 [some (zr ((52, 11, 0) : zF)), none, none, none, none, none, none] [zi s0] h (zQi ρ res) := by
  rw [s_X11_years_J77] at e
  refine zwp.go (m := 3) (j := 80) (ls' := [some (zr ((52, 11, 0) : zF)), none, none, none, none, none, some (zi s0)]) (st' := [zr ((52, 11, 0) : zF), zr ((52, 11, 0) : zF)]) (h' := h) rfl ?_
  refine zc_sr (r := ((71, 20, 38) : zF)) (zrf (a := 52) (y := 42) hR rfl (hρ 52 42 rfl)) rfl ?_
  refine zwp.go (m := 1) (j := 82) (ls' := [some (zr ((52, 11, 0) : zF)), none, none, none, none, none, some (zi s0)]) (st' := [zi (0 : Int32), zr ((71, 20, 38) : zF), zr ((52, 11, 0) : zF)]) (h' := h) rfl ?_
  refine zc_cv (d := d + 4) e (fun q e => s_X11_unpack_ok (d + 4) ρ hρ 71 38 (0 : Int32) h q hR e) rfl rfl (fun h1 hR1 e => ?_)
  refine zwp.go (m := 1) (j := 84) (ls' := [some (zr ((52, 11, 0) : zF)), none, none, none, none, none, some (zi s0)]) (st' := [zi s0]) (h' := h1) rfl ?_
  cases e
  exact zwp.ret rfl rfl ⟨⟨rfl, rfl⟩, hR1⟩
def s_X11_years_J51 (k37 : (Int32 → Int32 → Int32 → Int32 → Int32 → zH → Option (Int32 × zH))) (l2 : Int32) (l3 : Int32) (l5 : Int32) (l6 : Int32) (s0 : Int32) (s1 : Int32) (h : zH) : Option (Int32 × zH) := if (zI h 52 39) = 0 then (k37 l2 l3 (s0 + s1) (l5 + (0 : Int32)) (l6 + (1 : Int32)) h) else ((s_X11_bitsOf (zI h 52 40) h).bind fun v1 => k37 l2 l3 (s0 + s1) (l5 + v1) (l6 + (1 : Int32)) h)
set_option maxRecDepth 100000 in
theorem s_X11_years_J51_ok (d : Nat) (ρ : Nat → Nat → Option zF) (hρ : zSh ρ) (k37 : (Int32 → Int32 → Int32 → Int32 → Int32 → zH → Option (Int32 × zH))) (hk37 : ∀ l2 l3 l4 l5 l6 h res, zRq h ρ → k37 l2 l3 l4 l5 l6 h = some res → zwp (d + 5) zm_X11_years 37 [some (zr ((52, 11, 0) : zF)), none, some (zi l2), some (zi l3), some (zi l4), some (zi l5), some (zi l6)] [] h (zQi ρ res)) (l2 : Int32) (l3 : Int32) (l5 : Int32) (l6 : Int32) (s0 : Int32) (s1 : Int32) (h : zH) (res : Int32 × zH) (hR : zRq h ρ) (e : s_X11_years_J51 k37 l2 l3 l5 l6 s0 s1 h = some res) : zwp (d + 5) zm_X11_years 51 [some (zr ((52, 11, 0) : zF)), none, some (zi l2), some (zi l3), none, some (zi l5), some (zi l6)] [zi s1, zi s0] h (zQi ρ res) := by
  rw [s_X11_years_J51] at e
  refine zwp.go (m := 5) (j := 56) (ls' := [some (zr ((52, 11, 0) : zF)), none, some (zi l2), some (zi l3), some (zi (s0 + s1)), some (zi l5), some (zi l6)]) (st' := [zi (zI h 52 39), zi l5]) (h' := h) rfl ?_
  refine zb_if (j := 61) (j2 := 57) e rfl (fun e => ?_) (fun e => ?_)
  · refine zwp.go (m := 5) (j := 37) (ls' := [some (zr ((52, 11, 0) : zF)), none, some (zi l2), some (zi l3), some (zi (s0 + s1)), some (zi (l5 + (0 : Int32))), some (zi (l6 + (1 : Int32)))]) (st' := []) (h' := h) rfl ?_
    exact hk37 l2 l3 (s0 + s1) (l5 + (0 : Int32)) (l6 + (1 : Int32)) h _ hR e
  · refine zwp.go (m := 2) (j := 59) (ls' := [some (zr ((52, 11, 0) : zF)), none, some (zi l2), some (zi l3), some (zi (s0 + s1)), some (zi l5), some (zi l6)]) (st' := [zi (zI h 52 40), zi l5]) (h' := h) rfl ?_
    refine zc_cp (d := d + 4) e (fun q e => s_X11_bitsOf_ok (d + 4) ρ hρ (zI h 52 40) h q hR e) rfl rfl (fun v1 e => ?_)
    refine zwp.go (m := 5) (j := 37) (ls' := [some (zr ((52, 11, 0) : zF)), none, some (zi l2), some (zi l3), some (zi (s0 + s1)), some (zi (l5 + v1)), some (zi (l6 + (1 : Int32)))]) (st' := []) (h' := h) rfl ?_
    exact hk37 l2 l3 (s0 + s1) (l5 + v1) (l6 + (1 : Int32)) h _ hR e
def s_X11_years_L37 : Nat → Int32 → Int32 → Int32 → Int32 → Int32 → zH → Option (Int32 × zH)
  | 0, _, _, _, _, _, _ => none
  | n + 1, l2, l3, l4, l5, l6, h => if l2 ≤ l6 then (if ¬ l3 = 0 then (if ¬ l3 = (1 : Int32) then ((s_X11_allStrength h).bind fun v1 => s_X11_years_J77 v1 h) else (s_X11_years_J77 l5 h)) else (s_X11_years_J77 l4 h)) else ((s_X11_something h).bind fun h2 => (s_X11_aDay h2).bind fun h3 => if (zI h3 52 39) = 0 then (s_X11_years_J51 (s_X11_years_L37 n) l2 l3 l5 l6 l4 (0 : Int32) h3) else (s_X11_years_J51 (s_X11_years_L37 n) l2 l3 l5 l6 l4 (1 : Int32) h3))
set_option maxRecDepth 100000 in
theorem s_X11_years_L37_ok (d : Nat) (ρ : Nat → Nat → Option zF) (hρ : zSh ρ) : ∀ (n : Nat) (l2 : Int32) (l3 : Int32) (l4 : Int32) (l5 : Int32) (l6 : Int32) (h : zH) (res : Int32 × zH) (hR : zRq h ρ) (e : s_X11_years_L37  n l2 l3 l4 l5 l6 h = some res), zwp (d + 5) zm_X11_years 37 [some (zr ((52, 11, 0) : zF)), none, some (zi l2), some (zi l3), some (zi l4), some (zi l5), some (zi l6)] [] h (zQi ρ res) := by
  intro n
  induction n with
  | zero => intro l2 l3 l4 l5 l6 h res hR e; cases e
  | succ n ih =>
    intro l2 l3 l4 l5 l6 h res hR e
    rw [s_X11_years_L37] at e
    refine zwp.go (m := 2) (j := 39) (ls' := [some (zr ((52, 11, 0) : zF)), none, some (zi l2), some (zi l3), some (zi l4), some (zi l5), some (zi l6)]) (st' := [zi l2, zi l6]) (h' := h) rfl ?_
    refine zb_if (j := 66) (j2 := 40) e rfl (fun e => ?_) (fun e => ?_)
    · refine zwp.go (m := 1) (j := 67) (ls' := [some (zr ((52, 11, 0) : zF)), none, some (zi l2), some (zi l3), some (zi l4), some (zi l5), some (zi l6)]) (st' := [zi l3]) (h' := h) rfl ?_
      refine zb_if (j := 70) (j2 := 68) e rfl (fun e => ?_) (fun e => ?_)
      · refine zwp.go (m := 2) (j := 72) (ls' := [some (zr ((52, 11, 0) : zF)), none, some (zi l2), some (zi l3), some (zi l4), some (zi l5), some (zi l6)]) (st' := [zi (1 : Int32), zi l3]) (h' := h) rfl ?_
        refine zb_if (j := 75) (j2 := 73) e rfl (fun e => ?_) (fun e => ?_)
        · refine zwp.go (m := 1) (j := 76) (ls' := [some (zr ((52, 11, 0) : zF)), none, some (zi l2), some (zi l3), some (zi l4), some (zi l5), some (zi l6)]) (st' := [zr ((52, 11, 0) : zF)]) (h' := h) rfl ?_
          refine zc_cp (d := d + 4) e (fun q e => s_X11_allStrength_ok (d + 4) ρ hρ h q hR e) rfl rfl (fun v1 e => ?_)
          refine zwp.fg (a := [some (zr ((52, 11, 0) : zF)), none, none, none, none, none, none]) (And.intro rfl trivial) ?_
          exact s_X11_years_J77_ok d ρ hρ v1 h _ hR e
        · refine zwp.go (m := 2) (j := 77) (ls' := [some (zr ((52, 11, 0) : zF)), none, some (zi l2), some (zi l3), some (zi l4), some (zi l5), some (zi l6)]) (st' := [zi l5]) (h' := h) rfl ?_
          refine zwp.fg (a := [some (zr ((52, 11, 0) : zF)), none, none, none, none, none, none]) (And.intro rfl trivial) ?_
          exact s_X11_years_J77_ok d ρ hρ l5 h _ hR e
      · refine zwp.go (m := 2) (j := 77) (ls' := [some (zr ((52, 11, 0) : zF)), none, some (zi l2), some (zi l3), some (zi l4), some (zi l5), some (zi l6)]) (st' := [zi l4]) (h' := h) rfl ?_
        refine zwp.fg (a := [some (zr ((52, 11, 0) : zF)), none, none, none, none, none, none]) (And.intro rfl trivial) ?_
        exact s_X11_years_J77_ok d ρ hρ l4 h _ hR e
    · refine zwp.go (m := 1) (j := 41) (ls' := [some (zr ((52, 11, 0) : zF)), none, some (zi l2), some (zi l3), some (zi l4), some (zi l5), some (zi l6)]) (st' := [zr ((52, 11, 0) : zF)]) (h' := h) rfl ?_
      refine zc_cv (d := d + 4) e (fun q e => s_X11_something_ok (d + 3) ρ hρ h q hR e) rfl rfl (fun h2 hR2 e => ?_)
      refine zwp.go (m := 1) (j := 43) (ls' := [some (zr ((52, 11, 0) : zF)), none, some (zi l2), some (zi l3), some (zi l4), some (zi l5), some (zi l6)]) (st' := [zr ((52, 11, 0) : zF)]) (h' := h2) rfl ?_
      refine zc_cv (d := d + 4) e (fun q e => s_X11_aDay_ok (d + 0) ρ hρ h2 q hR2 e) rfl rfl (fun h3 hR3 e => ?_)
      refine zwp.go (m := 3) (j := 47) (ls' := [some (zr ((52, 11, 0) : zF)), none, some (zi l2), some (zi l3), some (zi l4), some (zi l5), some (zi l6)]) (st' := [zi (zI h3 52 39), zi l4]) (h' := h3) rfl ?_
      refine zb_if (j := 50) (j2 := 48) e rfl (fun e => ?_) (fun e => ?_)
      · refine zwp.go (m := 1) (j := 51) (ls' := [some (zr ((52, 11, 0) : zF)), none, some (zi l2), some (zi l3), some (zi l4), some (zi l5), some (zi l6)]) (st' := [zi (0 : Int32), zi l4]) (h' := h3) rfl ?_
        refine zwp.fg (a := [some (zr ((52, 11, 0) : zF)), none, some (zi l2), some (zi l3), none, some (zi l5), some (zi l6)]) (And.intro rfl (And.intro rfl (And.intro rfl (And.intro rfl (And.intro rfl trivial))))) ?_
        exact s_X11_years_J51_ok d ρ hρ (s_X11_years_L37 n) ih l2 l3 l5 l6 l4 (0 : Int32) h3 _ hR3 e
      · refine zwp.go (m := 2) (j := 51) (ls' := [some (zr ((52, 11, 0) : zF)), none, some (zi l2), some (zi l3), some (zi l4), some (zi l5), some (zi l6)]) (st' := [zi (1 : Int32), zi l4]) (h' := h3) rfl ?_
        refine zwp.fg (a := [some (zr ((52, 11, 0) : zF)), none, some (zi l2), some (zi l3), none, some (zi l5), some (zi l6)]) (And.intro rfl (And.intro rfl (And.intro rfl (And.intro rfl (And.intro rfl trivial))))) ?_
        exact s_X11_years_J51_ok d ρ hρ (s_X11_years_L37 n) ih l2 l3 l5 l6 l4 (1 : Int32) h3 _ hR3 e
def s_X11_years (a1 : Int32) (a2 : Int32) (a3 : Int32) (h : zH) : Option (Int32 × zH) := zlt (zwI h 52 4 (0 : Int32)) fun h1 => (s_X11_isIn a3.toInt64 (0 : Int64) (2 : Int64) h1).bind fun v2 => if ¬ v2 = 0 then ((s_X11_isIn a2.toInt64 (0 : Int64) (60 : Int64) h1).bind fun v3 => if ¬ v3 = 0 then ((s_X11_pack 71 38 (0 : Int32) h1).bind fun h4 => zlt (zwI h4 52 58 a1) fun h5 => s_X11_years_L37 zfu a2 a3 (0 : Int32) (0 : Int32) (0 : Int32) h5) else (zbd (s_X11_fail (2 : Int32) h1) fun v7 h6 => some (v7, h6))) else (zbd (s_X11_fail (1 : Int32) h1) fun v9 h8 => some (v9, h8))
set_option maxRecDepth 100000 in
theorem s_X11_years_ok (d : Nat) (ρ : Nat → Nat → Option zF) (hρ : zSh ρ) (a1 : Int32) (a2 : Int32) (a3 : Int32) (h : zH) (res : Int32 × zH) (hR : zRq h ρ) (e : s_X11_years a1 a2 a3 h = some res) : zcl (d + 5) 301 [zr ((52, 11, 0) : zF), zi a1, zi a2, zi a3] h (zQi ρ res) := by
  rw [s_X11_years] at e
  refine ⟨zm_X11_years, rfl, ?_⟩
  show zwp (d + 5) zm_X11_years 0 [some (zr ((52, 11, 0) : zF)), some (zi a1), some (zi a2), some (zi a3), none, none, none] [] h _
  refine zwp.go (m := 2) (j := 2) (ls' := [some (zr ((52, 11, 0) : zF)), some (zi a1), some (zi a2), some (zi a3), none, none, none]) (st' := [zi (0 : Int32), zr ((52, 11, 0) : zF)]) (h' := h) rfl ?_
  refine zc_w e rfl hR (fun h1 hR1 e => ?_)
  refine zwp.go (m := 4) (j := 7) (ls' := [some (zr ((52, 11, 0) : zF)), some (zi a1), some (zi a2), some (zi a3), none, none, none]) (st' := [zl (2 : Int64), zl (0 : Int64), zl a3.toInt64]) (h' := h1) rfl ?_
  refine zc_cp (d := d + 4) e (fun q e => s_X11_isIn_ok (d + 4) ρ hρ a3.toInt64 (0 : Int64) (2 : Int64) h1 q hR1 e) rfl rfl (fun v2 e => ?_)
  refine zb_if (j := 13) (j2 := 9) e rfl (fun e => ?_) (fun e => ?_)
  · refine zwp.go (m := 4) (j := 17) (ls' := [some (zr ((52, 11, 0) : zF)), some (zi a1), some (zi a2), some (zi a3), none, none, none]) (st' := [zl (60 : Int64), zl (0 : Int64), zl a2.toInt64]) (h' := h1) rfl ?_
    refine zc_cp (d := d + 4) e (fun q e => s_X11_isIn_ok (d + 4) ρ hρ a2.toInt64 (0 : Int64) (60 : Int64) h1 q hR1 e) rfl rfl (fun v3 e => ?_)
    refine zb_if (j := 23) (j2 := 19) e rfl (fun e => ?_) (fun e => ?_)
    · refine zwp.go (m := 2) (j := 25) (ls' := [some (zr ((52, 11, 0) : zF)), some (zi a1), some (zi a2), some (zi a3), none, none, none]) (st' := [zr ((52, 11, 0) : zF), zr ((52, 11, 0) : zF)]) (h' := h1) rfl ?_
      refine zc_sr (r := ((71, 20, 38) : zF)) (zrf (a := 52) (y := 42) hR1 rfl (hρ 52 42 rfl)) rfl ?_
      refine zwp.go (m := 1) (j := 27) (ls' := [some (zr ((52, 11, 0) : zF)), some (zi a1), some (zi a2), some (zi a3), none, none, none]) (st' := [zi (0 : Int32), zr ((71, 20, 38) : zF), zr ((52, 11, 0) : zF)]) (h' := h1) rfl ?_
      refine zc_cv (d := d + 4) e (fun q e => s_X11_pack_ok (d + 4) ρ hρ 71 38 (0 : Int32) h1 q hR1 e) rfl rfl (fun h4 hR4 e => ?_)
      refine zwp.go (m := 2) (j := 30) (ls' := [some (zr ((52, 11, 0) : zF)), some (zi a1), some (zi a2), some (zi a3), none, none, none]) (st' := [zi a1, zr ((52, 11, 0) : zF)]) (h' := h4) rfl ?_
      refine zc_w e rfl hR4 (fun h5 hR5 e => ?_)
      refine zwp.go (m := 6) (j := 37) (ls' := [some (zr ((52, 11, 0) : zF)), some (zi a1), some (zi a2), some (zi a3), some (zi (0 : Int32)), some (zi (0 : Int32)), some (zi (0 : Int32))]) (st' := []) (h' := h5) rfl ?_
      refine zwp.fg (a := [some (zr ((52, 11, 0) : zF)), none, some (zi a2), some (zi a3), some (zi (0 : Int32)), some (zi (0 : Int32)), some (zi (0 : Int32))]) (And.intro rfl (And.intro rfl (And.intro rfl (And.intro rfl (And.intro rfl (And.intro rfl trivial)))))) ?_
      exact s_X11_years_L37_ok d ρ hρ zfu a2 a3 (0 : Int32) (0 : Int32) (0 : Int32) h5 _ hR5 e
    · refine zwp.go (m := 2) (j := 21) (ls' := [some (zr ((52, 11, 0) : zF)), some (zi a1), some (zi a2), some (zi a3), none, none, none]) (st' := [zi (2 : Int32), zr ((52, 11, 0) : zF)]) (h' := h1) rfl ?_
      refine zc_ci (d := d + 4) e (fun q e => s_X11_fail_ok (d + 4) ρ hρ (2 : Int32) h1 q hR1 e) rfl rfl (fun v7 h6 hR6 e => ?_)
      cases e
      exact zwp.ret rfl rfl ⟨⟨rfl, rfl⟩, hR6⟩
  · refine zwp.go (m := 2) (j := 11) (ls' := [some (zr ((52, 11, 0) : zF)), some (zi a1), some (zi a2), some (zi a3), none, none, none]) (st' := [zi (1 : Int32), zr ((52, 11, 0) : zF)]) (h' := h1) rfl ?_
    refine zc_ci (d := d + 4) e (fun q e => s_X11_fail_ok (d + 4) ρ hρ (1 : Int32) h1 q hR1 e) rfl rfl (fun v9 h8 hR8 e => ?_)
    cases e
    exact zwp.ret rfl rfl ⟨⟨rfl, rfl⟩, hR8⟩
def s_X2_copyFrom_L34 (a0 : Nat) (a1 : Nat) : Nat → Int32 → zH → Option (zH)
  | 0, _, _ => none
  | n + 1, l2, h => if (zI h a0 7) ≤ l2 then (some h) else (zix l2 8 fun i1 => zix l2 8 fun i9 => zlt (zwI h (a0 + 7) i9 (zI h (a1 + 7) i1)) fun h2 => zix l2 8 fun i3 => zix l2 8 fun i8 => zlt (zwI h2 (a0 + 8) i8 (zI h2 (a1 + 8) i3)) fun h4 => zix l2 8 fun i5 => zix l2 8 fun i7 => zlt (zwI h4 (a0 + 9) i7 ((zI h4 (a1 + 9) i5) &&& 1)) fun h6 => s_X2_copyFrom_L34 a0 a1 n (l2 + (1 : Int32)) h6)
set_option maxRecDepth 100000 in
theorem s_X2_copyFrom_L34_ok (d : Nat) (ρ : Nat → Nat → Option zF) (hρ : zSh ρ) (a0 : Nat) (a1 : Nat) (ha0 : zLdS ρ a0) (ha1 : zLdS ρ a1) : ∀ (n : Nat) (l2 : Int32) (h : zH) (res : zH) (hR : zRq h ρ) (e : s_X2_copyFrom_L34 a0 a1 n l2 h = some res), zwp (d + 1) zm_X2_copyFrom 34 [some (zr ((a0, 2, 0) : zF)), some (zr ((a1, 2, 0) : zF)), some (zi l2)] [] h (zQv ρ res) := by
  intro n
  induction n with
  | zero => intro l2 h res hR e; cases e
  | succ n ih =>
    intro l2 h res hR e
    rw [s_X2_copyFrom_L34] at e
    refine zwp.go (m := 3) (j := 37) (ls' := [some (zr ((a0, 2, 0) : zF)), some (zr ((a1, 2, 0) : zF)), some (zi l2)]) (st' := [zi (zI h a0 7), zi l2]) (h' := h) rfl ?_
    refine zb_if (j := 64) (j2 := 38) e rfl (fun e => ?_) (fun e => ?_)
    · cases e
      exact zwp.rv rfl ⟨⟨rfl, rfl⟩, hR⟩
    · refine zwp.go (m := 1) (j := 39) (ls' := [some (zr ((a0, 2, 0) : zF)), some (zr ((a1, 2, 0) : zF)), some (zi l2)]) (st' := [zr ((a0, 2, 0) : zF)]) (h' := h) rfl ?_
      refine zc_sr (r := (((a0 + 7), 20, 8) : zF)) (zrf (a := a0) (y := 1) hR rfl ha0.2.2.1) rfl ?_
      refine zwp.go (m := 2) (j := 42) (ls' := [some (zr ((a0, 2, 0) : zF)), some (zr ((a1, 2, 0) : zF)), some (zi l2)]) (st' := [zr ((a1, 2, 0) : zF), zi l2, zr (((a0 + 7), 20, 8) : zF)]) (h' := h) rfl ?_
      refine zc_sr (r := (((a1 + 7), 20, 8) : zF)) (zrf (a := a1) (y := 1) hR rfl ha1.2.2.1) rfl ?_
      refine zwp.go (m := 1) (j := 44) (ls' := [some (zr ((a0, 2, 0) : zF)), some (zr ((a1, 2, 0) : zF)), some (zi l2)]) (st' := [zi l2, zr (((a1 + 7), 20, 8) : zF), zi l2, zr (((a0 + 7), 20, 8) : zF)]) (h' := h) rfl ?_
      refine zc_ai e (fun _ => rfl) (fun i1 e => ?_)
      refine zc_si e (fun _ => rfl) hR (fun h2 hR2 e => ?_)
      refine zwp.go (m := 1) (j := 47) (ls' := [some (zr ((a0, 2, 0) : zF)), some (zr ((a1, 2, 0) : zF)), some (zi l2)]) (st' := [zr ((a0, 2, 0) : zF)]) (h' := h2) rfl ?_
      refine zc_sr (r := (((a0 + 8), 20, 8) : zF)) (zrf (a := a0) (y := 2) hR2 rfl ha0.2.2.2.1) rfl ?_
      refine zwp.go (m := 2) (j := 50) (ls' := [some (zr ((a0, 2, 0) : zF)), some (zr ((a1, 2, 0) : zF)), some (zi l2)]) (st' := [zr ((a1, 2, 0) : zF), zi l2, zr (((a0 + 8), 20, 8) : zF)]) (h' := h2) rfl ?_
      refine zc_sr (r := (((a1 + 8), 20, 8) : zF)) (zrf (a := a1) (y := 2) hR2 rfl ha1.2.2.2.1) rfl ?_
      refine zwp.go (m := 1) (j := 52) (ls' := [some (zr ((a0, 2, 0) : zF)), some (zr ((a1, 2, 0) : zF)), some (zi l2)]) (st' := [zi l2, zr (((a1 + 8), 20, 8) : zF), zi l2, zr (((a0 + 8), 20, 8) : zF)]) (h' := h2) rfl ?_
      refine zc_ai e (fun _ => rfl) (fun i3 e => ?_)
      refine zc_si e (fun _ => rfl) hR2 (fun h4 hR4 e => ?_)
      refine zwp.go (m := 1) (j := 55) (ls' := [some (zr ((a0, 2, 0) : zF)), some (zr ((a1, 2, 0) : zF)), some (zi l2)]) (st' := [zr ((a0, 2, 0) : zF)]) (h' := h4) rfl ?_
      refine zc_sr (r := (((a0 + 9), 22, 8) : zF)) (zrf (a := a0) (y := 3) hR4 (zmu3 ha0.1) ha0.2.2.2.2.1) rfl ?_
      refine zwp.go (m := 2) (j := 58) (ls' := [some (zr ((a0, 2, 0) : zF)), some (zr ((a1, 2, 0) : zF)), some (zi l2)]) (st' := [zr ((a1, 2, 0) : zF), zi l2, zr (((a0 + 9), 22, 8) : zF)]) (h' := h4) rfl ?_
      refine zc_sr (r := (((a1 + 9), 22, 8) : zF)) (zrf (a := a1) (y := 3) hR4 (zmu3 ha1.1) ha1.2.2.2.2.1) rfl ?_
      refine zwp.go (m := 1) (j := 60) (ls' := [some (zr ((a0, 2, 0) : zF)), some (zr ((a1, 2, 0) : zF)), some (zi l2)]) (st' := [zi l2, zr (((a1 + 9), 22, 8) : zF), zi l2, zr (((a0 + 9), 22, 8) : zF)]) (h' := h4) rfl ?_
      refine zc_ai e (fun _ => rfl) (fun i5 e => ?_)
      refine zc_si e (fun _ => rfl) hR4 (fun h6 hR6 e => ?_)
      refine zwp.go (m := 2) (j := 34) (ls' := [some (zr ((a0, 2, 0) : zF)), some (zr ((a1, 2, 0) : zF)), some (zi (l2 + (1 : Int32)))]) (st' := []) (h' := h6) rfl ?_
      exact ih (l2 + (1 : Int32)) h6 _ hR6 e
def s_X2_copyFrom (a0 : Nat) (a1 : Nat) (h : zH) : Option (zH) := (s_X8_copyFrom (a0 + 1) (a1 + 1) h).bind fun h1 => zcq (a1 + 11) 1520 (0 : Int32) (a0 + 11) 1520 (0 : Int32) ((zI h1 a1 6) * (38 : Int32)) h1 fun h2 => zlt (zwI h2 a0 6 (zI h2 a1 6)) fun h3 => zcq (a1 + 10) 3 (0 : Int32) (a0 + 10) 3 (0 : Int32) (3 : Int32) h3 fun h4 => zlt (zwI h4 a0 7 (zI h4 a1 7)) fun h5 => s_X2_copyFrom_L34 a0 a1 zfu (0 : Int32) h5
set_option maxRecDepth 100000 in
theorem s_X2_copyFrom_ok (d : Nat) (ρ : Nat → Nat → Option zF) (hρ : zSh ρ) (a0 : Nat) (a1 : Nat) (ha0 : zLdS ρ a0) (ha1 : zLdS ρ a1) (h : zH) (res : zH) (hR : zRq h ρ) (e : s_X2_copyFrom a0 a1 h = some res) : zcl (d + 1) 302 [zr ((a0, 2, 0) : zF), zr ((a1, 2, 0) : zF)] h (zQv ρ res) := by
  rw [s_X2_copyFrom] at e
  refine ⟨zm_X2_copyFrom, rfl, ?_⟩
  show zwp (d + 1) zm_X2_copyFrom 0 [some (zr ((a0, 2, 0) : zF)), some (zr ((a1, 2, 0) : zF)), none] [] h _
  refine zwp.go (m := 1) (j := 1) (ls' := [some (zr ((a0, 2, 0) : zF)), some (zr ((a1, 2, 0) : zF)), none]) (st' := [zr ((a0, 2, 0) : zF)]) (h' := h) rfl ?_
  refine zc_sr (r := (((a0 + 1), 8, 0) : zF)) (zrf (a := a0) (y := 0) hR rfl ha0.2.1) rfl ?_
  refine zwp.go (m := 1) (j := 3) (ls' := [some (zr ((a0, 2, 0) : zF)), some (zr ((a1, 2, 0) : zF)), none]) (st' := [zr ((a1, 2, 0) : zF), zr (((a0 + 1), 8, 0) : zF)]) (h' := h) rfl ?_
  refine zc_sr (r := (((a1 + 1), 8, 0) : zF)) (zrf (a := a1) (y := 0) hR rfl ha1.2.1) rfl ?_
  refine zc_cv (d := d + 0) e (fun q e => s_X8_copyFrom_ok (d + 0) ρ hρ (a0 + 1) (a1 + 1) ha0.2.2.2.2.2.2.2 ha1.2.2.2.2.2.2.2 h q hR e) rfl rfl (fun h1 hR1 e => ?_)
  refine zwp.go (m := 1) (j := 6) (ls' := [some (zr ((a0, 2, 0) : zF)), some (zr ((a1, 2, 0) : zF)), none]) (st' := [zr ((a1, 2, 0) : zF)]) (h' := h1) rfl ?_
  refine zc_sr (r := (((a1 + 11), 20, 1520) : zF)) (zrf (a := a1) (y := 5) hR1 rfl ha1.2.2.2.2.2.2.1) rfl ?_
  refine zwp.go (m := 2) (j := 9) (ls' := [some (zr ((a0, 2, 0) : zF)), some (zr ((a1, 2, 0) : zF)), none]) (st' := [zr ((a0, 2, 0) : zF), zi (0 : Int32), zr (((a1 + 11), 20, 1520) : zF)]) (h' := h1) rfl ?_
  refine zc_sr (r := (((a0 + 11), 20, 1520) : zF)) (zrf (a := a0) (y := 5) hR1 rfl ha0.2.2.2.2.2.2.1) rfl ?_
  refine zwp.go (m := 5) (j := 15) (ls' := [some (zr ((a0, 2, 0) : zF)), some (zr ((a1, 2, 0) : zF)), none]) (st' := [zi ((zI h1 a1 6) * (38 : Int32)), zi (0 : Int32), zr (((a0 + 11), 20, 1520) : zF), zi (0 : Int32), zr (((a1 + 11), 20, 1520) : zF)]) (h' := h1) rfl ?_
  refine zc_cq e rfl rfl hR1 (fun h2 hR2 e => ?_)
  refine zwp.go (m := 3) (j := 19) (ls' := [some (zr ((a0, 2, 0) : zF)), some (zr ((a1, 2, 0) : zF)), none]) (st' := [zi (zI h2 a1 6), zr ((a0, 2, 0) : zF)]) (h' := h2) rfl ?_
  refine zc_w e rfl hR2 (fun h3 hR3 e => ?_)
  refine zwp.go (m := 1) (j := 21) (ls' := [some (zr ((a0, 2, 0) : zF)), some (zr ((a1, 2, 0) : zF)), none]) (st' := [zr ((a1, 2, 0) : zF)]) (h' := h3) rfl ?_
  refine zc_sr (r := (((a1 + 10), 20, 3) : zF)) (zrf (a := a1) (y := 4) hR3 rfl ha1.2.2.2.2.2.1) rfl ?_
  refine zwp.go (m := 2) (j := 24) (ls' := [some (zr ((a0, 2, 0) : zF)), some (zr ((a1, 2, 0) : zF)), none]) (st' := [zr ((a0, 2, 0) : zF), zi (0 : Int32), zr (((a1 + 10), 20, 3) : zF)]) (h' := h3) rfl ?_
  refine zc_sr (r := (((a0 + 10), 20, 3) : zF)) (zrf (a := a0) (y := 4) hR3 rfl ha0.2.2.2.2.2.1) rfl ?_
  refine zwp.go (m := 2) (j := 27) (ls' := [some (zr ((a0, 2, 0) : zF)), some (zr ((a1, 2, 0) : zF)), none]) (st' := [zi (3 : Int32), zi (0 : Int32), zr (((a0 + 10), 20, 3) : zF), zi (0 : Int32), zr (((a1 + 10), 20, 3) : zF)]) (h' := h3) rfl ?_
  refine zc_cq e rfl rfl hR3 (fun h4 hR4 e => ?_)
  refine zwp.go (m := 3) (j := 31) (ls' := [some (zr ((a0, 2, 0) : zF)), some (zr ((a1, 2, 0) : zF)), none]) (st' := [zi (zI h4 a1 7), zr ((a0, 2, 0) : zF)]) (h' := h4) rfl ?_
  refine zc_w e rfl hR4 (fun h5 hR5 e => ?_)
  refine zwp.go (m := 2) (j := 34) (ls' := [some (zr ((a0, 2, 0) : zF)), some (zr ((a1, 2, 0) : zF)), some (zi (0 : Int32))]) (st' := []) (h' := h5) rfl ?_
  exact s_X2_copyFrom_L34_ok d ρ hρ a0 a1 ha0 ha1 zfu (0 : Int32) h5 _ hR5 e
def s_X11_copyTo_L2 (a0 n0 : Nat) (a1 n1 : Nat) : Nat → Int32 → zH → Option (zH)
  | 0, _, _ => none
  | n + 1, l2, h => if (Int32.ofNat n0) ≤ l2 then (some h) else (zix l2 n1 fun i1 => zix l2 n0 fun i3 => zlt (zwI h a0 i3 (zI h a1 i1)) fun h2 => s_X11_copyTo_L2 a0 n0 a1 n1 n (l2 + (1 : Int32)) h2)
set_option maxRecDepth 100000 in
theorem s_X11_copyTo_L2_ok (d : Nat) (ρ : Nat → Nat → Option zF) (hρ : zSh ρ) (a0 n0 : Nat) (a1 n1 : Nat) : ∀ (n : Nat) (l2 : Int32) (h : zH) (res : zH) (hR : zRq h ρ) (e : s_X11_copyTo_L2 a0 n0 a1 n1 n l2 h = some res), zwp d zm_X11_copyTo 2 [some (zr ((a0, 20, n0) : zF)), some (zr ((a1, 20, n1) : zF)), some (zi l2)] [] h (zQv ρ res) := by
  intro n
  induction n with
  | zero => intro l2 h res hR e; cases e
  | succ n ih =>
    intro l2 h res hR e
    rw [s_X11_copyTo_L2] at e
    refine zwp.go (m := 3) (j := 5) (ls' := [some (zr ((a0, 20, n0) : zF)), some (zr ((a1, 20, n1) : zF)), some (zi l2)]) (st' := [zi (Int32.ofNat n0), zi l2]) (h' := h) rfl ?_
    refine zb_if (j := 14) (j2 := 6) e rfl (fun e => ?_) (fun e => ?_)
    · cases e
      exact zwp.rv rfl ⟨⟨rfl, rfl⟩, hR⟩
    · refine zwp.go (m := 4) (j := 10) (ls' := [some (zr ((a0, 20, n0) : zF)), some (zr ((a1, 20, n1) : zF)), some (zi l2)]) (st' := [zi l2, zr ((a1, 20, n1) : zF), zi l2, zr ((a0, 20, n0) : zF)]) (h' := h) rfl ?_
      refine zc_ai e (fun _ => rfl) (fun i1 e => ?_)
      refine zc_si e (fun _ => rfl) hR (fun h2 hR2 e => ?_)
      refine zwp.go (m := 2) (j := 2) (ls' := [some (zr ((a0, 20, n0) : zF)), some (zr ((a1, 20, n1) : zF)), some (zi (l2 + (1 : Int32)))]) (st' := []) (h' := h2) rfl ?_
      exact ih (l2 + (1 : Int32)) h2 _ hR2 e
def s_X11_copyTo (a0 n0 : Nat) (a1 n1 : Nat) (h : zH) : Option (zH) := s_X11_copyTo_L2 a0 n0 a1 n1 zfu (0 : Int32) h
set_option maxRecDepth 100000 in
theorem s_X11_copyTo_ok (d : Nat) (ρ : Nat → Nat → Option zF) (hρ : zSh ρ) (a0 n0 : Nat) (a1 n1 : Nat) (h : zH) (res : zH) (hR : zRq h ρ) (e : s_X11_copyTo a0 n0 a1 n1 h = some res) : zcl d 304 [zr ((a0, 20, n0) : zF), zr ((a1, 20, n1) : zF)] h (zQv ρ res) := by
  rw [s_X11_copyTo] at e
  refine ⟨zm_X11_copyTo, rfl, ?_⟩
  show zwp d zm_X11_copyTo 0 [some (zr ((a0, 20, n0) : zF)), some (zr ((a1, 20, n1) : zF)), none] [] h _
  refine zwp.go (m := 2) (j := 2) (ls' := [some (zr ((a0, 20, n0) : zF)), some (zr ((a1, 20, n1) : zF)), some (zi (0 : Int32))]) (st' := []) (h' := h) rfl ?_
  exact s_X11_copyTo_L2_ok d ρ hρ a0 n0 a1 n1 zfu (0 : Int32) h _ hR e
def s_X11_image_L36 : Nat → Int32 → zH → Option (zH)
  | 0, _, _ => none
  | n + 1, l1, h => if (8 : Int32) ≤ l1 then ((s_X11_copyTo 88 3 62 3 h).bind fun h1 => some h1) else (zix l1 8 fun i2 => zix l1 8 fun i4 => zlt (zwI h 89 i4 ((zI h 79 i2) &&& 1)) fun h3 => s_X11_image_L36 n (l1 + (1 : Int32)) h3)
set_option maxRecDepth 100000 in
theorem s_X11_image_L36_ok (d : Nat) (ρ : Nat → Nat → Option zF) (hρ : zSh ρ) : ∀ (n : Nat) (l1 : Int32) (h : zH) (res : zH) (hR : zRq h ρ) (e : s_X11_image_L36  n l1 h = some res), zwp (d + 1) zm_X11_image 36 [some (zr ((52, 11, 0) : zF)), some (zi l1)] [] h (zQv ρ res) := by
  intro n
  induction n with
  | zero => intro l1 h res hR e; cases e
  | succ n ih =>
    intro l1 h res hR e
    rw [s_X11_image_L36] at e
    refine zwp.go (m := 2) (j := 38) (ls' := [some (zr ((52, 11, 0) : zF)), some (zi l1)]) (st' := [zi (8 : Int32), zi l1]) (h' := h) rfl ?_
    refine zb_if (j := 49) (j2 := 39) e rfl (fun e => ?_) (fun e => ?_)
    · refine zwp.go (m := 1) (j := 50) (ls' := [some (zr ((52, 11, 0) : zF)), some (zi l1)]) (st' := [zr ((52, 11, 0) : zF)]) (h' := h) rfl ?_
      refine zc_sr (r := ((88, 20, 3) : zF)) (zrf (a := 52) (y := 66) hR rfl (hρ 52 66 rfl)) rfl ?_
      refine zwp.go (m := 1) (j := 52) (ls' := [some (zr ((52, 11, 0) : zF)), some (zi l1)]) (st' := [zr ((52, 11, 0) : zF), zr ((88, 20, 3) : zF)]) (h' := h) rfl ?_
      refine zc_sr (r := ((62, 20, 3) : zF)) (zrf (a := 52) (y := 11) hR rfl (hρ 52 11 rfl)) rfl ?_
      refine zc_cv (d := d + 0) e (fun q e => s_X11_copyTo_ok (d + 0) ρ hρ 88 3 62 3 h q hR e) rfl rfl (fun h1 hR1 e => ?_)
      cases e
      exact zwp.rv rfl ⟨⟨rfl, rfl⟩, hR1⟩
    · refine zwp.go (m := 1) (j := 40) (ls' := [some (zr ((52, 11, 0) : zF)), some (zi l1)]) (st' := [zr ((52, 11, 0) : zF)]) (h' := h) rfl ?_
      refine zc_sr (r := ((89, 22, 8) : zF)) (zrf (a := 52) (y := 67) hR rfl (hρ 52 67 rfl)) rfl ?_
      refine zwp.go (m := 2) (j := 43) (ls' := [some (zr ((52, 11, 0) : zF)), some (zi l1)]) (st' := [zr ((52, 11, 0) : zF), zi l1, zr ((89, 22, 8) : zF)]) (h' := h) rfl ?_
      refine zc_sr (r := ((79, 22, 8) : zF)) (zrf (a := 52) (y := 51) hR rfl (hρ 52 51 rfl)) rfl ?_
      refine zwp.go (m := 1) (j := 45) (ls' := [some (zr ((52, 11, 0) : zF)), some (zi l1)]) (st' := [zi l1, zr ((79, 22, 8) : zF), zi l1, zr ((89, 22, 8) : zF)]) (h' := h) rfl ?_
      refine zc_ai e (fun _ => rfl) (fun i2 e => ?_)
      refine zc_si e (fun _ => rfl) hR (fun h3 hR3 e => ?_)
      refine zwp.go (m := 2) (j := 36) (ls' := [some (zr ((52, 11, 0) : zF)), some (zi (l1 + (1 : Int32)))]) (st' := []) (h' := h3) rfl ?_
      exact ih (l1 + (1 : Int32)) h3 _ hR3 e
def s_X11_image (h : zH) : Option (zH) := zlt (zwI h 52 4 (0 : Int32)) fun h1 => zlt (zwI h1 52 59 (1 : Int32)) fun h2 => zlt (zwI h2 52 60 (zI h2 52 35)) fun h3 => zlt (zwI h3 52 61 (zI h3 52 36)) fun h4 => (s_X11_pack 84 38 (0 : Int32) h4).bind fun h5 => (s_X11_copyTo 85 1520 68 1520 h5).bind fun h6 => (s_X11_copyTo 86 8 76 8 h6).bind fun h7 => (s_X11_copyTo 87 8 77 8 h7).bind fun h8 => s_X11_image_L36 zfu (0 : Int32) h8
set_option maxRecDepth 100000 in
theorem s_X11_image_ok (d : Nat) (ρ : Nat → Nat → Option zF) (hρ : zSh ρ) (h : zH) (res : zH) (hR : zRq h ρ) (e : s_X11_image  h = some res) : zcl (d + 1) 305 [zr ((52, 11, 0) : zF)] h (zQv ρ res) := by
  rw [s_X11_image] at e
  refine ⟨zm_X11_image, rfl, ?_⟩
  show zwp (d + 1) zm_X11_image 0 [some (zr ((52, 11, 0) : zF)), none] [] h _
  refine zwp.go (m := 2) (j := 2) (ls' := [some (zr ((52, 11, 0) : zF)), none]) (st' := [zi (0 : Int32), zr ((52, 11, 0) : zF)]) (h' := h) rfl ?_
  refine zc_w e rfl hR (fun h1 hR1 e => ?_)
  refine zwp.go (m := 2) (j := 5) (ls' := [some (zr ((52, 11, 0) : zF)), none]) (st' := [zi (1 : Int32), zr ((52, 11, 0) : zF)]) (h' := h1) rfl ?_
  refine zc_w e rfl hR1 (fun h2 hR2 e => ?_)
  refine zwp.go (m := 3) (j := 9) (ls' := [some (zr ((52, 11, 0) : zF)), none]) (st' := [zi (zI h2 52 35), zr ((52, 11, 0) : zF)]) (h' := h2) rfl ?_
  refine zc_w e rfl hR2 (fun h3 hR3 e => ?_)
  refine zwp.go (m := 3) (j := 13) (ls' := [some (zr ((52, 11, 0) : zF)), none]) (st' := [zi (zI h3 52 36), zr ((52, 11, 0) : zF)]) (h' := h3) rfl ?_
  refine zc_w e rfl hR3 (fun h4 hR4 e => ?_)
  refine zwp.go (m := 2) (j := 16) (ls' := [some (zr ((52, 11, 0) : zF)), none]) (st' := [zr ((52, 11, 0) : zF), zr ((52, 11, 0) : zF)]) (h' := h4) rfl ?_
  refine zc_sr (r := ((84, 20, 38) : zF)) (zrf (a := 52) (y := 62) hR4 rfl (hρ 52 62 rfl)) rfl ?_
  refine zwp.go (m := 1) (j := 18) (ls' := [some (zr ((52, 11, 0) : zF)), none]) (st' := [zi (0 : Int32), zr ((84, 20, 38) : zF), zr ((52, 11, 0) : zF)]) (h' := h4) rfl ?_
  refine zc_cv (d := d + 0) e (fun q e => s_X11_pack_ok (d + 0) ρ hρ 84 38 (0 : Int32) h4 q hR4 e) rfl rfl (fun h5 hR5 e => ?_)
  refine zwp.go (m := 1) (j := 20) (ls' := [some (zr ((52, 11, 0) : zF)), none]) (st' := [zr ((52, 11, 0) : zF)]) (h' := h5) rfl ?_
  refine zc_sr (r := ((85, 20, 1520) : zF)) (zrf (a := 52) (y := 63) hR5 rfl (hρ 52 63 rfl)) rfl ?_
  refine zwp.go (m := 1) (j := 22) (ls' := [some (zr ((52, 11, 0) : zF)), none]) (st' := [zr ((52, 11, 0) : zF), zr ((85, 20, 1520) : zF)]) (h' := h5) rfl ?_
  refine zc_sr (r := ((68, 20, 1520) : zF)) (zrf (a := 52) (y := 28) hR5 rfl (hρ 52 28 rfl)) rfl ?_
  refine zc_cv (d := d + 0) e (fun q e => s_X11_copyTo_ok (d + 0) ρ hρ 85 1520 68 1520 h5 q hR5 e) rfl rfl (fun h6 hR6 e => ?_)
  refine zwp.go (m := 1) (j := 25) (ls' := [some (zr ((52, 11, 0) : zF)), none]) (st' := [zr ((52, 11, 0) : zF)]) (h' := h6) rfl ?_
  refine zc_sr (r := ((86, 20, 8) : zF)) (zrf (a := 52) (y := 64) hR6 rfl (hρ 52 64 rfl)) rfl ?_
  refine zwp.go (m := 1) (j := 27) (ls' := [some (zr ((52, 11, 0) : zF)), none]) (st' := [zr ((52, 11, 0) : zF), zr ((86, 20, 8) : zF)]) (h' := h6) rfl ?_
  refine zc_sr (r := ((76, 20, 8) : zF)) (zrf (a := 52) (y := 48) hR6 rfl (hρ 52 48 rfl)) rfl ?_
  refine zc_cv (d := d + 0) e (fun q e => s_X11_copyTo_ok (d + 0) ρ hρ 86 8 76 8 h6 q hR6 e) rfl rfl (fun h7 hR7 e => ?_)
  refine zwp.go (m := 1) (j := 30) (ls' := [some (zr ((52, 11, 0) : zF)), none]) (st' := [zr ((52, 11, 0) : zF)]) (h' := h7) rfl ?_
  refine zc_sr (r := ((87, 20, 8) : zF)) (zrf (a := 52) (y := 65) hR7 rfl (hρ 52 65 rfl)) rfl ?_
  refine zwp.go (m := 1) (j := 32) (ls' := [some (zr ((52, 11, 0) : zF)), none]) (st' := [zr ((52, 11, 0) : zF), zr ((87, 20, 8) : zF)]) (h' := h7) rfl ?_
  refine zc_sr (r := ((77, 20, 8) : zF)) (zrf (a := 52) (y := 49) hR7 rfl (hρ 52 49 rfl)) rfl ?_
  refine zc_cv (d := d + 0) e (fun q e => s_X11_copyTo_ok (d + 0) ρ hρ 87 8 77 8 h7 q hR7 e) rfl rfl (fun h8 hR8 e => ?_)
  refine zwp.go (m := 2) (j := 36) (ls' := [some (zr ((52, 11, 0) : zF)), some (zi (0 : Int32))]) (st' := []) (h' := h8) rfl ?_
  exact s_X11_image_L36_ok d ρ hρ zfu (0 : Int32) h8 _ hR8 e
def s_X11_restore_L38 : Nat → Int32 → zH → Option (Int32 × zH)
  | 0, _, _ => none
  | n + 1, l1, h => if (8 : Int32) ≤ l1 then ((s_X11_copyTo 62 3 88 3 h).bind fun h1 => some ((1 : Int32), h1)) else (zix l1 8 fun i2 => zix l1 8 fun i4 => zlt (zwI h 79 i4 ((zI h 89 i2) &&& 1)) fun h3 => s_X11_restore_L38 n (l1 + (1 : Int32)) h3)
set_option maxRecDepth 100000 in
theorem s_X11_restore_L38_ok (d : Nat) (ρ : Nat → Nat → Option zF) (hρ : zSh ρ) : ∀ (n : Nat) (l1 : Int32) (h : zH) (res : Int32 × zH) (hR : zRq h ρ) (e : s_X11_restore_L38  n l1 h = some res), zwp (d + 1) zm_X11_restore 38 [some (zr ((52, 11, 0) : zF)), some (zi l1)] [] h (zQi ρ res) := by
  intro n
  induction n with
  | zero => intro l1 h res hR e; cases e
  | succ n ih =>
    intro l1 h res hR e
    rw [s_X11_restore_L38] at e
    refine zwp.go (m := 2) (j := 40) (ls' := [some (zr ((52, 11, 0) : zF)), some (zi l1)]) (st' := [zi (8 : Int32), zi l1]) (h' := h) rfl ?_
    refine zb_if (j := 51) (j2 := 41) e rfl (fun e => ?_) (fun e => ?_)
    · refine zwp.go (m := 1) (j := 52) (ls' := [some (zr ((52, 11, 0) : zF)), some (zi l1)]) (st' := [zr ((52, 11, 0) : zF)]) (h' := h) rfl ?_
      refine zc_sr (r := ((62, 20, 3) : zF)) (zrf (a := 52) (y := 11) hR rfl (hρ 52 11 rfl)) rfl ?_
      refine zwp.go (m := 1) (j := 54) (ls' := [some (zr ((52, 11, 0) : zF)), some (zi l1)]) (st' := [zr ((52, 11, 0) : zF), zr ((62, 20, 3) : zF)]) (h' := h) rfl ?_
      refine zc_sr (r := ((88, 20, 3) : zF)) (zrf (a := 52) (y := 66) hR rfl (hρ 52 66 rfl)) rfl ?_
      refine zc_cv (d := d + 0) e (fun q e => s_X11_copyTo_ok (d + 0) ρ hρ 62 3 88 3 h q hR e) rfl rfl (fun h1 hR1 e => ?_)
      refine zwp.go (m := 1) (j := 57) (ls' := [some (zr ((52, 11, 0) : zF)), some (zi l1)]) (st' := [zi (1 : Int32)]) (h' := h1) rfl ?_
      cases e
      exact zwp.ret rfl rfl ⟨⟨rfl, rfl⟩, hR1⟩
    · refine zwp.go (m := 1) (j := 42) (ls' := [some (zr ((52, 11, 0) : zF)), some (zi l1)]) (st' := [zr ((52, 11, 0) : zF)]) (h' := h) rfl ?_
      refine zc_sr (r := ((79, 22, 8) : zF)) (zrf (a := 52) (y := 51) hR rfl (hρ 52 51 rfl)) rfl ?_
      refine zwp.go (m := 2) (j := 45) (ls' := [some (zr ((52, 11, 0) : zF)), some (zi l1)]) (st' := [zr ((52, 11, 0) : zF), zi l1, zr ((79, 22, 8) : zF)]) (h' := h) rfl ?_
      refine zc_sr (r := ((89, 22, 8) : zF)) (zrf (a := 52) (y := 67) hR rfl (hρ 52 67 rfl)) rfl ?_
      refine zwp.go (m := 1) (j := 47) (ls' := [some (zr ((52, 11, 0) : zF)), some (zi l1)]) (st' := [zi l1, zr ((89, 22, 8) : zF), zi l1, zr ((79, 22, 8) : zF)]) (h' := h) rfl ?_
      refine zc_ai e (fun _ => rfl) (fun i2 e => ?_)
      refine zc_si e (fun _ => rfl) hR (fun h3 hR3 e => ?_)
      refine zwp.go (m := 2) (j := 38) (ls' := [some (zr ((52, 11, 0) : zF)), some (zi (l1 + (1 : Int32)))]) (st' := []) (h' := h3) rfl ?_
      exact ih (l1 + (1 : Int32)) h3 _ hR3 e
def s_X11_restore (h : zH) : Option (Int32 × zH) := zlt (zwI h 52 4 (0 : Int32)) fun h1 => if ¬ (zI h1 52 59) = 0 then (zlt (zwI h1 52 35 (zI h1 52 60)) fun h2 => zlt (zwI h2 52 36 (zI h2 52 61)) fun h3 => (s_X11_unpack 84 38 (0 : Int32) h3).bind fun h4 => (s_X11_copyTo 68 1520 85 1520 h4).bind fun h5 => (s_X11_copyTo 76 8 86 8 h5).bind fun h6 => (s_X11_copyTo 77 8 87 8 h6).bind fun h7 => s_X11_restore_L38 zfu (0 : Int32) h7) else (some ((0 : Int32), h1))
set_option maxRecDepth 100000 in
theorem s_X11_restore_ok (d : Nat) (ρ : Nat → Nat → Option zF) (hρ : zSh ρ) (h : zH) (res : Int32 × zH) (hR : zRq h ρ) (e : s_X11_restore  h = some res) : zcl (d + 1) 307 [zr ((52, 11, 0) : zF)] h (zQi ρ res) := by
  rw [s_X11_restore] at e
  refine ⟨zm_X11_restore, rfl, ?_⟩
  show zwp (d + 1) zm_X11_restore 0 [some (zr ((52, 11, 0) : zF)), none] [] h _
  refine zwp.go (m := 2) (j := 2) (ls' := [some (zr ((52, 11, 0) : zF)), none]) (st' := [zi (0 : Int32), zr ((52, 11, 0) : zF)]) (h' := h) rfl ?_
  refine zc_w e rfl hR (fun h1 hR1 e => ?_)
  refine zwp.go (m := 2) (j := 5) (ls' := [some (zr ((52, 11, 0) : zF)), none]) (st' := [zi (zI h1 52 59)]) (h' := h1) rfl ?_
  refine zb_if (j := 8) (j2 := 6) e rfl (fun e => ?_) (fun e => ?_)
  · refine zwp.go (m := 3) (j := 11) (ls' := [some (zr ((52, 11, 0) : zF)), none]) (st' := [zi (zI h1 52 60), zr ((52, 11, 0) : zF)]) (h' := h1) rfl ?_
    refine zc_w e rfl hR1 (fun h2 hR2 e => ?_)
    refine zwp.go (m := 3) (j := 15) (ls' := [some (zr ((52, 11, 0) : zF)), none]) (st' := [zi (zI h2 52 61), zr ((52, 11, 0) : zF)]) (h' := h2) rfl ?_
    refine zc_w e rfl hR2 (fun h3 hR3 e => ?_)
    refine zwp.go (m := 2) (j := 18) (ls' := [some (zr ((52, 11, 0) : zF)), none]) (st' := [zr ((52, 11, 0) : zF), zr ((52, 11, 0) : zF)]) (h' := h3) rfl ?_
    refine zc_sr (r := ((84, 20, 38) : zF)) (zrf (a := 52) (y := 62) hR3 rfl (hρ 52 62 rfl)) rfl ?_
    refine zwp.go (m := 1) (j := 20) (ls' := [some (zr ((52, 11, 0) : zF)), none]) (st' := [zi (0 : Int32), zr ((84, 20, 38) : zF), zr ((52, 11, 0) : zF)]) (h' := h3) rfl ?_
    refine zc_cv (d := d + 0) e (fun q e => s_X11_unpack_ok (d + 0) ρ hρ 84 38 (0 : Int32) h3 q hR3 e) rfl rfl (fun h4 hR4 e => ?_)
    refine zwp.go (m := 1) (j := 22) (ls' := [some (zr ((52, 11, 0) : zF)), none]) (st' := [zr ((52, 11, 0) : zF)]) (h' := h4) rfl ?_
    refine zc_sr (r := ((68, 20, 1520) : zF)) (zrf (a := 52) (y := 28) hR4 rfl (hρ 52 28 rfl)) rfl ?_
    refine zwp.go (m := 1) (j := 24) (ls' := [some (zr ((52, 11, 0) : zF)), none]) (st' := [zr ((52, 11, 0) : zF), zr ((68, 20, 1520) : zF)]) (h' := h4) rfl ?_
    refine zc_sr (r := ((85, 20, 1520) : zF)) (zrf (a := 52) (y := 63) hR4 rfl (hρ 52 63 rfl)) rfl ?_
    refine zc_cv (d := d + 0) e (fun q e => s_X11_copyTo_ok (d + 0) ρ hρ 68 1520 85 1520 h4 q hR4 e) rfl rfl (fun h5 hR5 e => ?_)
    refine zwp.go (m := 1) (j := 27) (ls' := [some (zr ((52, 11, 0) : zF)), none]) (st' := [zr ((52, 11, 0) : zF)]) (h' := h5) rfl ?_
    refine zc_sr (r := ((76, 20, 8) : zF)) (zrf (a := 52) (y := 48) hR5 rfl (hρ 52 48 rfl)) rfl ?_
    refine zwp.go (m := 1) (j := 29) (ls' := [some (zr ((52, 11, 0) : zF)), none]) (st' := [zr ((52, 11, 0) : zF), zr ((76, 20, 8) : zF)]) (h' := h5) rfl ?_
    refine zc_sr (r := ((86, 20, 8) : zF)) (zrf (a := 52) (y := 64) hR5 rfl (hρ 52 64 rfl)) rfl ?_
    refine zc_cv (d := d + 0) e (fun q e => s_X11_copyTo_ok (d + 0) ρ hρ 76 8 86 8 h5 q hR5 e) rfl rfl (fun h6 hR6 e => ?_)
    refine zwp.go (m := 1) (j := 32) (ls' := [some (zr ((52, 11, 0) : zF)), none]) (st' := [zr ((52, 11, 0) : zF)]) (h' := h6) rfl ?_
    refine zc_sr (r := ((77, 20, 8) : zF)) (zrf (a := 52) (y := 49) hR6 rfl (hρ 52 49 rfl)) rfl ?_
    refine zwp.go (m := 1) (j := 34) (ls' := [some (zr ((52, 11, 0) : zF)), none]) (st' := [zr ((52, 11, 0) : zF), zr ((77, 20, 8) : zF)]) (h' := h6) rfl ?_
    refine zc_sr (r := ((87, 20, 8) : zF)) (zrf (a := 52) (y := 65) hR6 rfl (hρ 52 65 rfl)) rfl ?_
    refine zc_cv (d := d + 0) e (fun q e => s_X11_copyTo_ok (d + 0) ρ hρ 77 8 87 8 h6 q hR6 e) rfl rfl (fun h7 hR7 e => ?_)
    refine zwp.go (m := 2) (j := 38) (ls' := [some (zr ((52, 11, 0) : zF)), some (zi (0 : Int32))]) (st' := []) (h' := h7) rfl ?_
    exact s_X11_restore_L38_ok d ρ hρ zfu (0 : Int32) h7 _ hR7 e
  · refine zwp.go (m := 1) (j := 7) (ls' := [some (zr ((52, 11, 0) : zF)), none]) (st' := [zi (0 : Int32)]) (h' := h1) rfl ?_
    cases e
    exact zwp.ret rfl rfl ⟨⟨rfl, rfl⟩, hR1⟩
