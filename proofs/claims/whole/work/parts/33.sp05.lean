/-! ===== methods as functions, 5 ===== -/
def s_X11_keep_J29 (h : zH) : Option (zH) := (s_X11_pack 68 1520 ((38 : Int32) * (zI h 52 35)) h).bind fun h1 => zlt (zwI h1 52 35 ((zI h1 52 35) + (1 : Int32))) fun h2 => some h2
set_option maxRecDepth 100000 in
theorem s_X11_keep_J29_ok (d : Nat) (ρ : Nat → Nat → Option zF) (hρ : zSh ρ) (h : zH) (res : zH) (hR : zRq h ρ) (e : s_X11_keep_J29   h = some res) : zwp (d + 1) zm_X11_keep 29 [some (zr ((52, 11, 0) : zF)), none] [] h (zQv ρ res) := by
  rw [s_X11_keep_J29] at e
  refine zwp.go (m := 2) (j := 31) (ls' := [some (zr ((52, 11, 0) : zF)), none]) (st' := [zr ((52, 11, 0) : zF), zr ((52, 11, 0) : zF)]) (h' := h) rfl ?_
  refine zc_sr (r := ((68, 20, 1520) : zF)) (zrf (a := 52) (y := 28) hR rfl (hρ 52 28 rfl)) rfl ?_
  refine zwp.go (m := 4) (j := 36) (ls' := [some (zr ((52, 11, 0) : zF)), none]) (st' := [zi ((38 : Int32) * (zI h 52 35)), zr ((68, 20, 1520) : zF), zr ((52, 11, 0) : zF)]) (h' := h) rfl ?_
  refine zc_cv (d := d + 0) e (fun q e => s_X11_pack_ok (d + 0) ρ hρ 68 1520 ((38 : Int32) * (zI h 52 35)) h q hR e) rfl rfl (fun h1 hR1 e => ?_)
  refine zwp.go (m := 5) (j := 42) (ls' := [some (zr ((52, 11, 0) : zF)), none]) (st' := [zi ((zI h1 52 35) + (1 : Int32)), zr ((52, 11, 0) : zF)]) (h' := h1) rfl ?_
  refine zc_w e rfl hR1 (fun h2 hR2 e => ?_)
  cases e
  exact zwp.rv rfl ⟨⟨rfl, rfl⟩, hR2⟩
def s_X11_keep_L6 : Nat → Int32 → zH → Option (zH)
  | 0, _, _ => none
  | n + 1, l1, h => if (Int32.ofNat 1520) ≤ l1 then (zlt (zwI h 52 35 ((zI h 52 35) - (1 : Int32))) fun h1 => s_X11_keep_J29 h1) else (zix l1 1520 fun i2 => zix (l1 - (38 : Int32)) 1520 fun i4 => zlt (zwI h 68 i4 (zI h 68 i2)) fun h3 => s_X11_keep_L6 n (l1 + (1 : Int32)) h3)
set_option maxRecDepth 100000 in
theorem s_X11_keep_L6_ok (d : Nat) (ρ : Nat → Nat → Option zF) (hρ : zSh ρ) : ∀ (n : Nat) (l1 : Int32) (h : zH) (res : zH) (hR : zRq h ρ) (e : s_X11_keep_L6  n l1 h = some res), zwp (d + 1) zm_X11_keep 6 [some (zr ((52, 11, 0) : zF)), some (zi l1)] [] h (zQv ρ res) := by
  intro n
  induction n with
  | zero => intro l1 h res hR e; cases e
  | succ n ih =>
    intro l1 h res hR e
    rw [s_X11_keep_L6] at e
    refine zwp.go (m := 2) (j := 8) (ls' := [some (zr ((52, 11, 0) : zF)), some (zi l1)]) (st' := [zr ((52, 11, 0) : zF), zi l1]) (h' := h) rfl ?_
    refine zc_sr (r := ((68, 20, 1520) : zF)) (zrf (a := 52) (y := 28) hR rfl (hρ 52 28 rfl)) rfl ?_
    refine zwp.go (m := 1) (j := 10) (ls' := [some (zr ((52, 11, 0) : zF)), some (zi l1)]) (st' := [zi (Int32.ofNat 1520), zi l1]) (h' := h) rfl ?_
    refine zb_if (j := 23) (j2 := 11) e rfl (fun e => ?_) (fun e => ?_)
    · refine zwp.go (m := 5) (j := 28) (ls' := [some (zr ((52, 11, 0) : zF)), some (zi l1)]) (st' := [zi ((zI h 52 35) - (1 : Int32)), zr ((52, 11, 0) : zF)]) (h' := h) rfl ?_
      refine zc_w e rfl hR (fun h1 hR1 e => ?_)
      refine zwp.fg (a := [some (zr ((52, 11, 0) : zF)), none]) (And.intro rfl trivial) ?_
      exact s_X11_keep_J29_ok d ρ hρ h1 _ hR1 e
    · refine zwp.go (m := 1) (j := 12) (ls' := [some (zr ((52, 11, 0) : zF)), some (zi l1)]) (st' := [zr ((52, 11, 0) : zF)]) (h' := h) rfl ?_
      refine zc_sr (r := ((68, 20, 1520) : zF)) (zrf (a := 52) (y := 28) hR rfl (hρ 52 28 rfl)) rfl ?_
      refine zwp.go (m := 4) (j := 17) (ls' := [some (zr ((52, 11, 0) : zF)), some (zi l1)]) (st' := [zr ((52, 11, 0) : zF), zi (l1 - (38 : Int32)), zr ((68, 20, 1520) : zF)]) (h' := h) rfl ?_
      refine zc_sr (r := ((68, 20, 1520) : zF)) (zrf (a := 52) (y := 28) hR rfl (hρ 52 28 rfl)) rfl ?_
      refine zwp.go (m := 1) (j := 19) (ls' := [some (zr ((52, 11, 0) : zF)), some (zi l1)]) (st' := [zi l1, zr ((68, 20, 1520) : zF), zi (l1 - (38 : Int32)), zr ((68, 20, 1520) : zF)]) (h' := h) rfl ?_
      refine zc_ai e (fun _ => rfl) (fun i2 e => ?_)
      refine zc_si e (fun _ => rfl) hR (fun h3 hR3 e => ?_)
      refine zwp.go (m := 2) (j := 6) (ls' := [some (zr ((52, 11, 0) : zF)), some (zi (l1 + (1 : Int32)))]) (st' := []) (h' := h3) rfl ?_
      exact ih (l1 + (1 : Int32)) h3 _ hR3 e
def s_X11_keep (h : zH) : Option (zH) := if ¬ (zI h 52 35) = (40 : Int32) then (s_X11_keep_J29 h) else (s_X11_keep_L6 zfu (38 : Int32) h)
set_option maxRecDepth 100000 in
theorem s_X11_keep_ok (d : Nat) (ρ : Nat → Nat → Option zF) (hρ : zSh ρ) (h : zH) (res : zH) (hR : zRq h ρ) (e : s_X11_keep  h = some res) : zcl (d + 1) 148 [zr ((52, 11, 0) : zF)] h (zQv ρ res) := by
  rw [s_X11_keep] at e
  refine ⟨zm_X11_keep, rfl, ?_⟩
  show zwp (d + 1) zm_X11_keep 0 [some (zr ((52, 11, 0) : zF)), none] [] h _
  refine zwp.go (m := 3) (j := 3) (ls' := [some (zr ((52, 11, 0) : zF)), none]) (st' := [zi (40 : Int32), zi (zI h 52 35)]) (h' := h) rfl ?_
  refine zb_if (j := 29) (j2 := 4) e rfl (fun e => ?_) (fun e => ?_)
  · exact s_X11_keep_J29_ok d ρ hρ h _ hR e
  · refine zwp.go (m := 2) (j := 6) (ls' := [some (zr ((52, 11, 0) : zF)), some (zi (38 : Int32))]) (st' := []) (h' := h) rfl ?_
    exact s_X11_keep_L6_ok d ρ hρ zfu (38 : Int32) h _ hR e
def s_X11_strengthAt (a1 : Int32) (h : zH) : Option (Int32) := (s_X11_isRib a1 h).bind fun v1 => if v1 = 0 then (some (0 : Int32)) else (zix a1 12 fun i2 => some (zI h 64 i2))
set_option maxRecDepth 100000 in
theorem s_X11_strengthAt_ok (d : Nat) (ρ : Nat → Nat → Option zF) (hρ : zSh ρ) (a1 : Int32) (h : zH) (res : Int32) (hR : zRq h ρ) (e : s_X11_strengthAt a1 h = some res) : zcl (d + 2) 149 [zr ((52, 11, 0) : zF), zi a1] h (zQp h res) := by
  rw [s_X11_strengthAt] at e
  refine ⟨zm_X11_strengthAt, rfl, ?_⟩
  show zwp (d + 2) zm_X11_strengthAt 0 [some (zr ((52, 11, 0) : zF)), some (zi a1)] [] h _
  refine zwp.go (m := 2) (j := 2) (ls' := [some (zr ((52, 11, 0) : zF)), some (zi a1)]) (st' := [zi a1, zr ((52, 11, 0) : zF)]) (h' := h) rfl ?_
  refine zc_cp (d := d + 1) e (fun q e => s_X11_isRib_ok (d + 0) ρ hρ a1 h q hR e) rfl rfl (fun v1 e => ?_)
  refine zb_if (j := 9) (j2 := 4) e rfl (fun e => ?_) (fun e => ?_)
  · refine zwp.go (m := 1) (j := 10) (ls' := [some (zr ((52, 11, 0) : zF)), some (zi a1)]) (st' := [zi (0 : Int32)]) (h' := h) rfl ?_
    cases e
    exact zwp.ret rfl rfl ⟨rfl, rfl⟩
  · refine zwp.go (m := 1) (j := 5) (ls' := [some (zr ((52, 11, 0) : zF)), some (zi a1)]) (st' := [zr ((52, 11, 0) : zF)]) (h' := h) rfl ?_
    refine zc_sr (r := ((64, 20, 12) : zF)) (zrf (a := 52) (y := 24) hR rfl (hρ 52 24 rfl)) rfl ?_
    refine zwp.go (m := 1) (j := 7) (ls' := [some (zr ((52, 11, 0) : zF)), some (zi a1)]) (st' := [zi a1, zr ((64, 20, 12) : zF)]) (h' := h) rfl ?_
    refine zc_ai e (fun _ => rfl) (fun i2 e => ?_)
    refine zwp.go (m := 1) (j := 10) (ls' := [some (zr ((52, 11, 0) : zF)), some (zi a1)]) (st' := [zi (zI h 64 i2)]) (h' := h) rfl ?_
    cases e
    exact zwp.ret rfl rfl ⟨rfl, rfl⟩
def s_X11_reckon (a0 : Int32) (a1 : Int32) (a2 : Int32) (h : zH) : Option (Int32) := if a0 = -26 then (if a1 = 0 then (some (0 : Int32)) else (if a2 = 0 then (some (0 : Int32)) else (some (1 : Int32)))) else if a0 = -25 then (if ¬ a1 = a2 then (some (0 : Int32)) else (some (1 : Int32))) else if a0 = -24 then (if a2 ≤ a1 then (some (0 : Int32)) else (some (1 : Int32))) else if a0 = -23 then (if ¬ a2 = 0 then ((zdv a1 a2).bind fun v1 => some v1) else (some (0 : Int32))) else if a0 = -22 then (some (a1 * a2)) else if a0 = -21 then (some (a1 - a2)) else if a0 = -20 then (some (a1 + a2)) else (if ¬ a1 = 0 then (some (1 : Int32)) else (if a2 = 0 then (some (0 : Int32)) else (some (1 : Int32))))
set_option maxRecDepth 100000 in
theorem s_X11_reckon_ok (d : Nat) (ρ : Nat → Nat → Option zF) (hρ : zSh ρ) (a0 : Int32) (a1 : Int32) (a2 : Int32) (h : zH) (res : Int32) (hR : zRq h ρ) (e : s_X11_reckon a0 a1 a2 h = some res) : zcl d 150 [zi a0, zi a1, zi a2] h (zQp h res) := by
  rw [s_X11_reckon] at e
  refine ⟨zm_X11_reckon, rfl, ?_⟩
  show zwp d zm_X11_reckon 0 [some (zi a0), some (zi a1), some (zi a2)] [] h _
  refine zwp.go (m := 1) (j := 1) (ls' := [some (zi a0), some (zi a1), some (zi a2)]) (st' := [zi a0]) (h' := h) rfl ?_
  refine zwp.nx (j := zsw [(-26, 36), (-25, 29), (-24, 22), (-23, 14), (-22, 10), (-21, 6), (-20, 2)] 44 a0) (ls' := [some (zi a0), some (zi a1), some (zi a2)]) (st' := []) (h' := h) rfl ?_
  refine zb_sw e (fun e => ?_) (fun e => ?_)
  · refine zwp.go (m := 1) (j := 37) (ls' := [some (zi a0), some (zi a1), some (zi a2)]) (st' := [zi a1]) (h' := h) rfl ?_
    refine zb_if (j := 42) (j2 := 38) e rfl (fun e => ?_) (fun e => ?_)
    · refine zwp.go (m := 1) (j := 43) (ls' := [some (zi a0), some (zi a1), some (zi a2)]) (st' := [zi (0 : Int32)]) (h' := h) rfl ?_
      cases e
      exact zwp.ret rfl rfl ⟨rfl, rfl⟩
    · refine zwp.go (m := 1) (j := 39) (ls' := [some (zi a0), some (zi a1), some (zi a2)]) (st' := [zi a2]) (h' := h) rfl ?_
      refine zb_if (j := 42) (j2 := 40) e rfl (fun e => ?_) (fun e => ?_)
      · refine zwp.go (m := 1) (j := 43) (ls' := [some (zi a0), some (zi a1), some (zi a2)]) (st' := [zi (0 : Int32)]) (h' := h) rfl ?_
        cases e
        exact zwp.ret rfl rfl ⟨rfl, rfl⟩
      · refine zwp.go (m := 2) (j := 43) (ls' := [some (zi a0), some (zi a1), some (zi a2)]) (st' := [zi (1 : Int32)]) (h' := h) rfl ?_
        cases e
        exact zwp.ret rfl rfl ⟨rfl, rfl⟩
  refine zb_sw e (fun e => ?_) (fun e => ?_)
  · refine zwp.go (m := 2) (j := 31) (ls' := [some (zi a0), some (zi a1), some (zi a2)]) (st' := [zi a2, zi a1]) (h' := h) rfl ?_
    refine zb_if (j := 34) (j2 := 32) e rfl (fun e => ?_) (fun e => ?_)
    · refine zwp.go (m := 1) (j := 35) (ls' := [some (zi a0), some (zi a1), some (zi a2)]) (st' := [zi (0 : Int32)]) (h' := h) rfl ?_
      cases e
      exact zwp.ret rfl rfl ⟨rfl, rfl⟩
    · refine zwp.go (m := 2) (j := 35) (ls' := [some (zi a0), some (zi a1), some (zi a2)]) (st' := [zi (1 : Int32)]) (h' := h) rfl ?_
      cases e
      exact zwp.ret rfl rfl ⟨rfl, rfl⟩
  refine zb_sw e (fun e => ?_) (fun e => ?_)
  · refine zwp.go (m := 2) (j := 24) (ls' := [some (zi a0), some (zi a1), some (zi a2)]) (st' := [zi a2, zi a1]) (h' := h) rfl ?_
    refine zb_if (j := 27) (j2 := 25) e rfl (fun e => ?_) (fun e => ?_)
    · refine zwp.go (m := 1) (j := 28) (ls' := [some (zi a0), some (zi a1), some (zi a2)]) (st' := [zi (0 : Int32)]) (h' := h) rfl ?_
      cases e
      exact zwp.ret rfl rfl ⟨rfl, rfl⟩
    · refine zwp.go (m := 2) (j := 28) (ls' := [some (zi a0), some (zi a1), some (zi a2)]) (st' := [zi (1 : Int32)]) (h' := h) rfl ?_
      cases e
      exact zwp.ret rfl rfl ⟨rfl, rfl⟩
  refine zb_sw e (fun e => ?_) (fun e => ?_)
  · refine zwp.go (m := 1) (j := 15) (ls' := [some (zi a0), some (zi a1), some (zi a2)]) (st' := [zi a2]) (h' := h) rfl ?_
    refine zb_if (j := 18) (j2 := 16) e rfl (fun e => ?_) (fun e => ?_)
    · refine zwp.go (m := 2) (j := 20) (ls' := [some (zi a0), some (zi a1), some (zi a2)]) (st' := [zi a2, zi a1]) (h' := h) rfl ?_
      refine zb_dv e rfl (fun v1 e => ?_)
      cases e
      exact zwp.ret rfl rfl ⟨rfl, rfl⟩
    · refine zwp.go (m := 2) (j := 21) (ls' := [some (zi a0), some (zi a1), some (zi a2)]) (st' := [zi (0 : Int32)]) (h' := h) rfl ?_
      cases e
      exact zwp.ret rfl rfl ⟨rfl, rfl⟩
  refine zb_sw e (fun e => ?_) (fun e => ?_)
  · refine zwp.go (m := 3) (j := 13) (ls' := [some (zi a0), some (zi a1), some (zi a2)]) (st' := [zi (a1 * a2)]) (h' := h) rfl ?_
    cases e
    exact zwp.ret rfl rfl ⟨rfl, rfl⟩
  refine zb_sw e (fun e => ?_) (fun e => ?_)
  · refine zwp.go (m := 3) (j := 9) (ls' := [some (zi a0), some (zi a1), some (zi a2)]) (st' := [zi (a1 - a2)]) (h' := h) rfl ?_
    cases e
    exact zwp.ret rfl rfl ⟨rfl, rfl⟩
  refine zb_sw e (fun e => ?_) (fun e => ?_)
  · refine zwp.go (m := 3) (j := 5) (ls' := [some (zi a0), some (zi a1), some (zi a2)]) (st' := [zi (a1 + a2)]) (h' := h) rfl ?_
    cases e
    exact zwp.ret rfl rfl ⟨rfl, rfl⟩
  refine zwp.go (m := 1) (j := 45) (ls' := [some (zi a0), some (zi a1), some (zi a2)]) (st' := [zi a1]) (h' := h) rfl ?_
  refine zb_if (j := 48) (j2 := 46) e rfl (fun e => ?_) (fun e => ?_)
  · refine zwp.go (m := 2) (j := 51) (ls' := [some (zi a0), some (zi a1), some (zi a2)]) (st' := [zi (1 : Int32)]) (h' := h) rfl ?_
    cases e
    exact zwp.ret rfl rfl ⟨rfl, rfl⟩
  · refine zwp.go (m := 1) (j := 47) (ls' := [some (zi a0), some (zi a1), some (zi a2)]) (st' := [zi a2]) (h' := h) rfl ?_
    refine zb_if (j := 50) (j2 := 48) e rfl (fun e => ?_) (fun e => ?_)
    · refine zwp.go (m := 1) (j := 51) (ls' := [some (zi a0), some (zi a1), some (zi a2)]) (st' := [zi (0 : Int32)]) (h' := h) rfl ?_
      cases e
      exact zwp.ret rfl rfl ⟨rfl, rfl⟩
    · refine zwp.go (m := 2) (j := 51) (ls' := [some (zi a0), some (zi a1), some (zi a2)]) (st' := [zi (1 : Int32)]) (h' := h) rfl ?_
      cases e
      exact zwp.ret rfl rfl ⟨rfl, rfl⟩
def s_X11_valueNow_L4 (a1 n1 : Nat) : Nat → Int32 → Int32 → Int32 → zH → Option (Int32 × zH)
  | 0, _, _, _, _ => none
  | n + 1, l2, l3, l4, h => if l2 ≤ l4 then (some ((zI h 70 0), h)) else (zix l4 n1 fun i1 => if (zI h a1 i1) ≤ (-20 : Int32) then (if ¬ (zI h a1 i1) = (-28 : Int32) then (zix ((l3 + (-1 : Int32)) - (1 : Int32)) 64 fun i2 => zix (l3 + (-1 : Int32)) 64 fun i3 => (s_X11_reckon (zI h a1 i1) (zI h 70 i2) (zI h 70 i3) h).bind fun v4 => zix ((l3 + (-1 : Int32)) - (1 : Int32)) 64 fun i6 => zlt (zwI h 70 i6 v4) fun h5 => s_X11_valueNow_L4 a1 n1 n l2 (l3 + (-1 : Int32)) (l4 + (1 : Int32)) h5) else (zix (l3 - (1 : Int32)) 64 fun i7 => if (zI h 70 i7) = 0 then (zix (l3 - (1 : Int32)) 64 fun i9 => zlt (zwI h 70 i9 (1 : Int32)) fun h8 => s_X11_valueNow_L4 a1 n1 n l2 l3 (l4 + (1 : Int32)) h8) else (zix (l3 - (1 : Int32)) 64 fun i11 => zlt (zwI h 70 i11 (0 : Int32)) fun h10 => s_X11_valueNow_L4 a1 n1 n l2 l3 (l4 + (1 : Int32)) h10))) else (if (zI h a1 i1) < 0 then (zix ((-1 : Int32) - (zI h a1 i1)) 5 fun i12 => zix l3 64 fun i14 => zlt (zwI h 70 i14 (zI h 69 i12)) fun h13 => s_X11_valueNow_L4 a1 n1 n l2 (l3 + (1 : Int32)) (l4 + (1 : Int32)) h13) else (zix l3 64 fun i16 => zlt (zwI h 70 i16 (zI h a1 i1)) fun h15 => s_X11_valueNow_L4 a1 n1 n l2 (l3 + (1 : Int32)) (l4 + (1 : Int32)) h15)))
set_option maxRecDepth 100000 in
theorem s_X11_valueNow_L4_ok (d : Nat) (ρ : Nat → Nat → Option zF) (hρ : zSh ρ) (a1 n1 : Nat) : ∀ (n : Nat) (l2 : Int32) (l3 : Int32) (l4 : Int32) (h : zH) (res : Int32 × zH) (hR : zRq h ρ) (e : s_X11_valueNow_L4 a1 n1 n l2 l3 l4 h = some res), zwp (d + 1) zm_X11_valueNow 4 [some (zr ((52, 11, 0) : zF)), some (zr ((a1, 20, n1) : zF)), some (zi l2), some (zi l3), some (zi l4), none] [] h (zQi ρ res) := by
  intro n
  induction n with
  | zero => intro l2 l3 l4 h res hR e; cases e
  | succ n ih =>
    intro l2 l3 l4 h res hR e
    rw [s_X11_valueNow_L4] at e
    refine zwp.go (m := 2) (j := 6) (ls' := [some (zr ((52, 11, 0) : zF)), some (zr ((a1, 20, n1) : zF)), some (zi l2), some (zi l3), some (zi l4), none]) (st' := [zi l2, zi l4]) (h' := h) rfl ?_
    refine zb_if (j := 71) (j2 := 7) e rfl (fun e => ?_) (fun e => ?_)
    · refine zwp.go (m := 1) (j := 72) (ls' := [some (zr ((52, 11, 0) : zF)), some (zr ((a1, 20, n1) : zF)), some (zi l2), some (zi l3), some (zi l4), none]) (st' := [zr ((52, 11, 0) : zF)]) (h' := h) rfl ?_
      refine zc_sr (r := ((70, 20, 64) : zF)) (zrf (a := 52) (y := 38) hR rfl (hρ 52 38 rfl)) rfl ?_
      refine zwp.go (m := 2) (j := 75) (ls' := [some (zr ((52, 11, 0) : zF)), some (zr ((a1, 20, n1) : zF)), some (zi l2), some (zi l3), some (zi l4), none]) (st' := [zi (zI h 70 0)]) (h' := h) rfl ?_
      cases e
      exact zwp.ret rfl rfl ⟨⟨rfl, rfl⟩, hR⟩
    · refine zwp.go (m := 2) (j := 9) (ls' := [some (zr ((52, 11, 0) : zF)), some (zr ((a1, 20, n1) : zF)), some (zi l2), some (zi l3), some (zi l4), none]) (st' := [zi l4, zr ((a1, 20, n1) : zF)]) (h' := h) rfl ?_
      refine zc_ai e (fun _ => rfl) (fun i1 e => ?_)
      refine zwp.go (m := 3) (j := 13) (ls' := [some (zr ((52, 11, 0) : zF)), some (zr ((a1, 20, n1) : zF)), some (zi l2), some (zi l3), some (zi l4), some (zi (zI h a1 i1))]) (st' := [zi (-20 : Int32), zi (zI h a1 i1)]) (h' := h) rfl ?_
      refine zb_if (j := 30) (j2 := 14) e rfl (fun e => ?_) (fun e => ?_)
      · refine zwp.go (m := 2) (j := 32) (ls' := [some (zr ((52, 11, 0) : zF)), some (zr ((a1, 20, n1) : zF)), some (zi l2), some (zi l3), some (zi l4), some (zi (zI h a1 i1))]) (st' := [zi (-28 : Int32), zi (zI h a1 i1)]) (h' := h) rfl ?_
        refine zb_if (j := 50) (j2 := 33) e rfl (fun e => ?_) (fun e => ?_)
        · refine zwp.go (m := 2) (j := 52) (ls' := [some (zr ((52, 11, 0) : zF)), some (zr ((a1, 20, n1) : zF)), some (zi l2), some (zi (l3 + (-1 : Int32))), some (zi l4), some (zi (zI h a1 i1))]) (st' := [zr ((52, 11, 0) : zF)]) (h' := h) rfl ?_
          refine zc_sr (r := ((70, 20, 64) : zF)) (zrf (a := 52) (y := 38) hR rfl (hρ 52 38 rfl)) rfl ?_
          refine zwp.go (m := 5) (j := 58) (ls' := [some (zr ((52, 11, 0) : zF)), some (zr ((a1, 20, n1) : zF)), some (zi l2), some (zi (l3 + (-1 : Int32))), some (zi l4), some (zi (zI h a1 i1))]) (st' := [zr ((52, 11, 0) : zF), zi (zI h a1 i1), zi ((l3 + (-1 : Int32)) - (1 : Int32)), zr ((70, 20, 64) : zF)]) (h' := h) rfl ?_
          refine zc_sr (r := ((70, 20, 64) : zF)) (zrf (a := 52) (y := 38) hR rfl (hρ 52 38 rfl)) rfl ?_
          refine zwp.go (m := 3) (j := 62) (ls' := [some (zr ((52, 11, 0) : zF)), some (zr ((a1, 20, n1) : zF)), some (zi l2), some (zi (l3 + (-1 : Int32))), some (zi l4), some (zi (zI h a1 i1))]) (st' := [zi ((l3 + (-1 : Int32)) - (1 : Int32)), zr ((70, 20, 64) : zF), zi (zI h a1 i1), zi ((l3 + (-1 : Int32)) - (1 : Int32)), zr ((70, 20, 64) : zF)]) (h' := h) rfl ?_
          refine zc_ai e (fun _ => rfl) (fun i2 e => ?_)
          refine zwp.go (m := 1) (j := 64) (ls' := [some (zr ((52, 11, 0) : zF)), some (zr ((a1, 20, n1) : zF)), some (zi l2), some (zi (l3 + (-1 : Int32))), some (zi l4), some (zi (zI h a1 i1))]) (st' := [zr ((52, 11, 0) : zF), zi (zI h 70 i2), zi (zI h a1 i1), zi ((l3 + (-1 : Int32)) - (1 : Int32)), zr ((70, 20, 64) : zF)]) (h' := h) rfl ?_
          refine zc_sr (r := ((70, 20, 64) : zF)) (zrf (a := 52) (y := 38) hR rfl (hρ 52 38 rfl)) rfl ?_
          refine zwp.go (m := 1) (j := 66) (ls' := [some (zr ((52, 11, 0) : zF)), some (zr ((a1, 20, n1) : zF)), some (zi l2), some (zi (l3 + (-1 : Int32))), some (zi l4), some (zi (zI h a1 i1))]) (st' := [zi (l3 + (-1 : Int32)), zr ((70, 20, 64) : zF), zi (zI h 70 i2), zi (zI h a1 i1), zi ((l3 + (-1 : Int32)) - (1 : Int32)), zr ((70, 20, 64) : zF)]) (h' := h) rfl ?_
          refine zc_ai e (fun _ => rfl) (fun i3 e => ?_)
          refine zc_cp (d := d + 0) e (fun q e => s_X11_reckon_ok (d + 0) ρ hρ (zI h a1 i1) (zI h 70 i2) (zI h 70 i3) h q hR e) rfl rfl (fun v4 e => ?_)
          refine zc_si e (fun _ => rfl) hR (fun h5 hR5 e => ?_)
          refine zwp.go (m := 2) (j := 4) (ls' := [some (zr ((52, 11, 0) : zF)), some (zr ((a1, 20, n1) : zF)), some (zi l2), some (zi (l3 + (-1 : Int32))), some (zi (l4 + (1 : Int32))), some (zi (zI h a1 i1))]) (st' := []) (h' := h5) rfl ?_
          refine zwp.fg (a := [some (zr ((52, 11, 0) : zF)), some (zr ((a1, 20, n1) : zF)), some (zi l2), some (zi (l3 + (-1 : Int32))), some (zi (l4 + (1 : Int32))), none]) (And.intro rfl (And.intro rfl (And.intro rfl (And.intro rfl (And.intro rfl trivial))))) ?_
          exact ih l2 (l3 + (-1 : Int32)) (l4 + (1 : Int32)) h5 _ hR5 e
        · refine zwp.go (m := 1) (j := 34) (ls' := [some (zr ((52, 11, 0) : zF)), some (zr ((a1, 20, n1) : zF)), some (zi l2), some (zi l3), some (zi l4), some (zi (zI h a1 i1))]) (st' := [zr ((52, 11, 0) : zF)]) (h' := h) rfl ?_
          refine zc_sr (r := ((70, 20, 64) : zF)) (zrf (a := 52) (y := 38) hR rfl (hρ 52 38 rfl)) rfl ?_
          refine zwp.go (m := 4) (j := 39) (ls' := [some (zr ((52, 11, 0) : zF)), some (zr ((a1, 20, n1) : zF)), some (zi l2), some (zi l3), some (zi l4), some (zi (zI h a1 i1))]) (st' := [zr ((52, 11, 0) : zF), zi (l3 - (1 : Int32)), zr ((70, 20, 64) : zF)]) (h' := h) rfl ?_
          refine zc_sr (r := ((70, 20, 64) : zF)) (zrf (a := 52) (y := 38) hR rfl (hρ 52 38 rfl)) rfl ?_
          refine zwp.go (m := 3) (j := 43) (ls' := [some (zr ((52, 11, 0) : zF)), some (zr ((a1, 20, n1) : zF)), some (zi l2), some (zi l3), some (zi l4), some (zi (zI h a1 i1))]) (st' := [zi (l3 - (1 : Int32)), zr ((70, 20, 64) : zF), zi (l3 - (1 : Int32)), zr ((70, 20, 64) : zF)]) (h' := h) rfl ?_
          refine zc_ai e (fun _ => rfl) (fun i7 e => ?_)
          refine zb_if (j := 47) (j2 := 45) e rfl (fun e => ?_) (fun e => ?_)
          · refine zwp.go (m := 1) (j := 48) (ls' := [some (zr ((52, 11, 0) : zF)), some (zr ((a1, 20, n1) : zF)), some (zi l2), some (zi l3), some (zi l4), some (zi (zI h a1 i1))]) (st' := [zi (1 : Int32), zi (l3 - (1 : Int32)), zr ((70, 20, 64) : zF)]) (h' := h) rfl ?_
            refine zc_si e (fun _ => rfl) hR (fun h8 hR8 e => ?_)
            refine zwp.go (m := 3) (j := 4) (ls' := [some (zr ((52, 11, 0) : zF)), some (zr ((a1, 20, n1) : zF)), some (zi l2), some (zi l3), some (zi (l4 + (1 : Int32))), some (zi (zI h a1 i1))]) (st' := []) (h' := h8) rfl ?_
            refine zwp.fg (a := [some (zr ((52, 11, 0) : zF)), some (zr ((a1, 20, n1) : zF)), some (zi l2), some (zi l3), some (zi (l4 + (1 : Int32))), none]) (And.intro rfl (And.intro rfl (And.intro rfl (And.intro rfl (And.intro rfl trivial))))) ?_
            exact ih l2 l3 (l4 + (1 : Int32)) h8 _ hR8 e
          · refine zwp.go (m := 2) (j := 48) (ls' := [some (zr ((52, 11, 0) : zF)), some (zr ((a1, 20, n1) : zF)), some (zi l2), some (zi l3), some (zi l4), some (zi (zI h a1 i1))]) (st' := [zi (0 : Int32), zi (l3 - (1 : Int32)), zr ((70, 20, 64) : zF)]) (h' := h) rfl ?_
            refine zc_si e (fun _ => rfl) hR (fun h10 hR10 e => ?_)
            refine zwp.go (m := 3) (j := 4) (ls' := [some (zr ((52, 11, 0) : zF)), some (zr ((a1, 20, n1) : zF)), some (zi l2), some (zi l3), some (zi (l4 + (1 : Int32))), some (zi (zI h a1 i1))]) (st' := []) (h' := h10) rfl ?_
            refine zwp.fg (a := [some (zr ((52, 11, 0) : zF)), some (zr ((a1, 20, n1) : zF)), some (zi l2), some (zi l3), some (zi (l4 + (1 : Int32))), none]) (And.intro rfl (And.intro rfl (And.intro rfl (And.intro rfl (And.intro rfl trivial))))) ?_
            exact ih l2 l3 (l4 + (1 : Int32)) h10 _ hR10 e
      · refine zwp.go (m := 1) (j := 15) (ls' := [some (zr ((52, 11, 0) : zF)), some (zr ((a1, 20, n1) : zF)), some (zi l2), some (zi l3), some (zi l4), some (zi (zI h a1 i1))]) (st' := [zr ((52, 11, 0) : zF)]) (h' := h) rfl ?_
        refine zc_sr (r := ((70, 20, 64) : zF)) (zrf (a := 52) (y := 38) hR rfl (hρ 52 38 rfl)) rfl ?_
        refine zwp.go (m := 2) (j := 18) (ls' := [some (zr ((52, 11, 0) : zF)), some (zr ((a1, 20, n1) : zF)), some (zi l2), some (zi l3), some (zi l4), some (zi (zI h a1 i1))]) (st' := [zi (zI h a1 i1), zi l3, zr ((70, 20, 64) : zF)]) (h' := h) rfl ?_
        refine zb_if (j := 21) (j2 := 19) e rfl (fun e => ?_) (fun e => ?_)
        · refine zwp.go (m := 1) (j := 22) (ls' := [some (zr ((52, 11, 0) : zF)), some (zr ((a1, 20, n1) : zF)), some (zi l2), some (zi l3), some (zi l4), some (zi (zI h a1 i1))]) (st' := [zr ((52, 11, 0) : zF), zi l3, zr ((70, 20, 64) : zF)]) (h' := h) rfl ?_
          refine zc_sr (r := ((69, 20, 5) : zF)) (zrf (a := 52) (y := 37) hR rfl (hρ 52 37 rfl)) rfl ?_
          refine zwp.go (m := 3) (j := 26) (ls' := [some (zr ((52, 11, 0) : zF)), some (zr ((a1, 20, n1) : zF)), some (zi l2), some (zi l3), some (zi l4), some (zi (zI h a1 i1))]) (st' := [zi ((-1 : Int32) - (zI h a1 i1)), zr ((69, 20, 5) : zF), zi l3, zr ((70, 20, 64) : zF)]) (h' := h) rfl ?_
          refine zc_ai e (fun _ => rfl) (fun i12 e => ?_)
          refine zc_si e (fun _ => rfl) hR (fun h13 hR13 e => ?_)
          refine zwp.go (m := 4) (j := 4) (ls' := [some (zr ((52, 11, 0) : zF)), some (zr ((a1, 20, n1) : zF)), some (zi l2), some (zi (l3 + (1 : Int32))), some (zi (l4 + (1 : Int32))), some (zi (zI h a1 i1))]) (st' := []) (h' := h13) rfl ?_
          refine zwp.fg (a := [some (zr ((52, 11, 0) : zF)), some (zr ((a1, 20, n1) : zF)), some (zi l2), some (zi (l3 + (1 : Int32))), some (zi (l4 + (1 : Int32))), none]) (And.intro rfl (And.intro rfl (And.intro rfl (And.intro rfl (And.intro rfl trivial))))) ?_
          exact ih l2 (l3 + (1 : Int32)) (l4 + (1 : Int32)) h13 _ hR13 e
        · refine zwp.go (m := 2) (j := 27) (ls' := [some (zr ((52, 11, 0) : zF)), some (zr ((a1, 20, n1) : zF)), some (zi l2), some (zi l3), some (zi l4), some (zi (zI h a1 i1))]) (st' := [zi (zI h a1 i1), zi l3, zr ((70, 20, 64) : zF)]) (h' := h) rfl ?_
          refine zc_si e (fun _ => rfl) hR (fun h15 hR15 e => ?_)
          refine zwp.go (m := 4) (j := 4) (ls' := [some (zr ((52, 11, 0) : zF)), some (zr ((a1, 20, n1) : zF)), some (zi l2), some (zi (l3 + (1 : Int32))), some (zi (l4 + (1 : Int32))), some (zi (zI h a1 i1))]) (st' := []) (h' := h15) rfl ?_
          refine zwp.fg (a := [some (zr ((52, 11, 0) : zF)), some (zr ((a1, 20, n1) : zF)), some (zi l2), some (zi (l3 + (1 : Int32))), some (zi (l4 + (1 : Int32))), none]) (And.intro rfl (And.intro rfl (And.intro rfl (And.intro rfl (And.intro rfl trivial))))) ?_
          exact ih l2 (l3 + (1 : Int32)) (l4 + (1 : Int32)) h15 _ hR15 e
def s_X11_valueNow (a1 n1 : Nat) (a2 : Int32) (h : zH) : Option (Int32 × zH) := s_X11_valueNow_L4 a1 n1 zfu a2 (0 : Int32) (0 : Int32) h
set_option maxRecDepth 100000 in
theorem s_X11_valueNow_ok (d : Nat) (ρ : Nat → Nat → Option zF) (hρ : zSh ρ) (a1 n1 : Nat) (a2 : Int32) (h : zH) (res : Int32 × zH) (hR : zRq h ρ) (e : s_X11_valueNow a1 n1 a2 h = some res) : zcl (d + 1) 151 [zr ((52, 11, 0) : zF), zr ((a1, 20, n1) : zF), zi a2] h (zQi ρ res) := by
  rw [s_X11_valueNow] at e
  refine ⟨zm_X11_valueNow, rfl, ?_⟩
  show zwp (d + 1) zm_X11_valueNow 0 [some (zr ((52, 11, 0) : zF)), some (zr ((a1, 20, n1) : zF)), some (zi a2), none, none, none] [] h _
  refine zwp.go (m := 4) (j := 4) (ls' := [some (zr ((52, 11, 0) : zF)), some (zr ((a1, 20, n1) : zF)), some (zi a2), some (zi (0 : Int32)), some (zi (0 : Int32)), none]) (st' := []) (h' := h) rfl ?_
  exact s_X11_valueNow_L4_ok d ρ hρ a1 n1 zfu a2 (0 : Int32) (0 : Int32) h _ hR e
def s_X11_rotsOf_J82 (l3 : Int32) (h : zH) : Option (Int32 × zH) := (s_J9_min_7cf53 (20 : Int32) l3 h).bind fun v1 => (s_J9_max_7cf53 (0 : Int32) v1 h).bind fun v2 => some (v2, h)
set_option maxRecDepth 100000 in
theorem s_X11_rotsOf_J82_ok (d : Nat) (ρ : Nat → Nat → Option zF) (hρ : zSh ρ) (l3 : Int32) (h : zH) (res : Int32 × zH) (hR : zRq h ρ) (e : s_X11_rotsOf_J82  l3 h = some res) : zwp (d + 3) zm_X11_rotsOf 82 [none, none, none, some (zi l3)] [] h (zQi ρ res) := by
  rw [s_X11_rotsOf_J82] at e
  refine zwp.go (m := 3) (j := 85) (ls' := [none, none, none, some (zi l3)]) (st' := [zi l3, zi (20 : Int32), zi (0 : Int32)]) (h' := h) rfl ?_
  refine zc_cp (d := d + 2) e (fun q e => s_J9_min_7cf53_ok (d + 2) ρ hρ (20 : Int32) l3 h q hR e) rfl rfl (fun v1 e => ?_)
  refine zc_cp (d := d + 2) e (fun q e => s_J9_max_7cf53_ok (d + 2) ρ hρ (0 : Int32) v1 h q hR e) rfl rfl (fun v2 e => ?_)
  cases e
  exact zwp.ret rfl rfl ⟨⟨rfl, rfl⟩, hR⟩
def s_X11_rotsOf_J66 (s1 : Int32) (s2 : Int32) (h : zH) : Option (Int32 × zH) := zix s1 5 fun i5 => zlt (zwI h 69 i5 s2) fun h1 => zlt (zwI h1 69 4 (zI h1 52 29)) fun h2 => zbd (s_X11_valueNow 60 1400 (zI h2 56 4) h2) fun v4 h3 => s_X11_rotsOf_J82 v4 h3
set_option maxRecDepth 100000 in
theorem s_X11_rotsOf_J66_ok (d : Nat) (ρ : Nat → Nat → Option zF) (hρ : zSh ρ) (s1 : Int32) (s2 : Int32) (h : zH) (res : Int32 × zH) (hR : zRq h ρ) (e : s_X11_rotsOf_J66  s1 s2 h = some res) : zwp (d + 3) zm_X11_rotsOf 66 [some (zr ((52, 11, 0) : zF)), none, none, none] [zi s2, zi s1, zr ((69, 20, 5) : zF)] h (zQi ρ res) := by
  rw [s_X11_rotsOf_J66] at e
  refine zc_si e (fun _ => rfl) hR (fun h1 hR1 e => ?_)
  refine zwp.go (m := 1) (j := 68) (ls' := [some (zr ((52, 11, 0) : zF)), none, none, none]) (st' := [zr ((52, 11, 0) : zF)]) (h' := h1) rfl ?_
  refine zc_sr (r := ((69, 20, 5) : zF)) (zrf (a := 52) (y := 37) hR1 rfl (hρ 52 37 rfl)) rfl ?_
  refine zwp.go (m := 3) (j := 72) (ls' := [some (zr ((52, 11, 0) : zF)), none, none, none]) (st' := [zi (zI h1 52 29), zi (4 : Int32), zr ((69, 20, 5) : zF)]) (h' := h1) rfl ?_
  refine zc_w e rfl hR1 (fun h2 hR2 e => ?_)
  refine zwp.go (m := 2) (j := 75) (ls' := [some (zr ((52, 11, 0) : zF)), none, none, none]) (st' := [zr ((52, 11, 0) : zF), zr ((52, 11, 0) : zF)]) (h' := h2) rfl ?_
  refine zc_sr (r := ((60, 20, 1400) : zF)) (zrf (a := 52) (y := 9) hR2 rfl (hρ 52 9 rfl)) rfl ?_
  refine zwp.go (m := 1) (j := 77) (ls' := [some (zr ((52, 11, 0) : zF)), none, none, none]) (st' := [zr ((52, 11, 0) : zF), zr ((60, 20, 1400) : zF), zr ((52, 11, 0) : zF)]) (h' := h2) rfl ?_
  refine zc_sr (r := ((56, 20, 12) : zF)) (zrf (a := 52) (y := 5) hR2 rfl (hρ 52 5 rfl)) rfl ?_
  refine zwp.go (m := 2) (j := 80) (ls' := [some (zr ((52, 11, 0) : zF)), none, none, none]) (st' := [zi (zI h2 56 4), zr ((60, 20, 1400) : zF), zr ((52, 11, 0) : zF)]) (h' := h2) rfl ?_
  refine zc_ci (d := d + 2) e (fun q e => s_X11_valueNow_ok (d + 1) ρ hρ 60 1400 (zI h2 56 4) h2 q hR2 e) rfl rfl (fun v4 h3 hR3 e => ?_)
  refine zwp.go (m := 1) (j := 82) (ls' := [some (zr ((52, 11, 0) : zF)), none, none, some (zi v4)]) (st' := []) (h' := h3) rfl ?_
  refine zwp.fg (a := [none, none, none, some (zi v4)]) (And.intro rfl trivial) ?_
  exact s_X11_rotsOf_J82_ok d ρ hρ v4 h3 _ hR3 e
def s_X11_rotsOf_J21 (l1 : Int32) (s0 : Int32) (s1 : Int32) (h : zH) : Option (Int32 × zH) := if (zI h 56 4) ≤ 0 then (s_X11_rotsOf_J82 (s0 + s1) h) else (zix l1 12 fun i1 => zlt (zwI h 69 0 (zI h 64 i1)) fun h2 => zlt (zwI h2 69 1 l1) fun h3 => (s_X11_strengthAt (l1 - (1 : Int32)) h3).bind fun v4 => (s_X11_strengthAt (l1 + (1 : Int32)) h3).bind fun v5 => zlt (zwI h3 69 2 (v4 + v5)) fun h6 => (s_X11_isPast l1 h6).bind fun v7 => if v7 = 0 then (s_X11_rotsOf_J66 (3 : Int32) (0 : Int32) h6) else (s_X11_rotsOf_J66 (3 : Int32) (1 : Int32) h6))
set_option maxRecDepth 100000 in
theorem s_X11_rotsOf_J21_ok (d : Nat) (ρ : Nat → Nat → Option zF) (hρ : zSh ρ) (l1 : Int32) (s0 : Int32) (s1 : Int32) (h : zH) (res : Int32 × zH) (hR : zRq h ρ) (e : s_X11_rotsOf_J21  l1 s0 s1 h = some res) : zwp (d + 3) zm_X11_rotsOf 21 [some (zr ((52, 11, 0) : zF)), some (zi l1), none, none] [zi s1, zi s0] h (zQi ρ res) := by
  rw [s_X11_rotsOf_J21] at e
  refine zwp.go (m := 3) (j := 24) (ls' := [some (zr ((52, 11, 0) : zF)), some (zi l1), none, some (zi (s0 + s1))]) (st' := [zr ((52, 11, 0) : zF)]) (h' := h) rfl ?_
  refine zc_sr (r := ((56, 20, 12) : zF)) (zrf (a := 52) (y := 5) hR rfl (hρ 52 5 rfl)) rfl ?_
  refine zwp.go (m := 2) (j := 27) (ls' := [some (zr ((52, 11, 0) : zF)), some (zi l1), none, some (zi (s0 + s1))]) (st' := [zi (zI h 56 4)]) (h' := h) rfl ?_
  refine zb_if (j := 82) (j2 := 28) e rfl (fun e => ?_) (fun e => ?_)
  · refine zwp.fg (a := [none, none, none, some (zi (s0 + s1))]) (And.intro rfl trivial) ?_
    exact s_X11_rotsOf_J82_ok d ρ hρ (s0 + s1) h _ hR e
  · refine zwp.go (m := 1) (j := 29) (ls' := [some (zr ((52, 11, 0) : zF)), some (zi l1), none, some (zi (s0 + s1))]) (st' := [zr ((52, 11, 0) : zF)]) (h' := h) rfl ?_
    refine zc_sr (r := ((69, 20, 5) : zF)) (zrf (a := 52) (y := 37) hR rfl (hρ 52 37 rfl)) rfl ?_
    refine zwp.go (m := 2) (j := 32) (ls' := [some (zr ((52, 11, 0) : zF)), some (zi l1), none, some (zi (s0 + s1))]) (st' := [zr ((52, 11, 0) : zF), zi (0 : Int32), zr ((69, 20, 5) : zF)]) (h' := h) rfl ?_
    refine zc_sr (r := ((64, 20, 12) : zF)) (zrf (a := 52) (y := 24) hR rfl (hρ 52 24 rfl)) rfl ?_
    refine zwp.go (m := 1) (j := 34) (ls' := [some (zr ((52, 11, 0) : zF)), some (zi l1), none, some (zi (s0 + s1))]) (st' := [zi l1, zr ((64, 20, 12) : zF), zi (0 : Int32), zr ((69, 20, 5) : zF)]) (h' := h) rfl ?_
    refine zc_ai e (fun _ => rfl) (fun i1 e => ?_)
    refine zc_w e rfl hR (fun h2 hR2 e => ?_)
    refine zwp.go (m := 1) (j := 37) (ls' := [some (zr ((52, 11, 0) : zF)), some (zi l1), none, some (zi (s0 + s1))]) (st' := [zr ((52, 11, 0) : zF)]) (h' := h2) rfl ?_
    refine zc_sr (r := ((69, 20, 5) : zF)) (zrf (a := 52) (y := 37) hR2 rfl (hρ 52 37 rfl)) rfl ?_
    refine zwp.go (m := 2) (j := 40) (ls' := [some (zr ((52, 11, 0) : zF)), some (zi l1), none, some (zi (s0 + s1))]) (st' := [zi l1, zi (1 : Int32), zr ((69, 20, 5) : zF)]) (h' := h2) rfl ?_
    refine zc_w e rfl hR2 (fun h3 hR3 e => ?_)
    refine zwp.go (m := 1) (j := 42) (ls' := [some (zr ((52, 11, 0) : zF)), some (zi l1), none, some (zi (s0 + s1))]) (st' := [zr ((52, 11, 0) : zF)]) (h' := h3) rfl ?_
    refine zc_sr (r := ((69, 20, 5) : zF)) (zrf (a := 52) (y := 37) hR3 rfl (hρ 52 37 rfl)) rfl ?_
    refine zwp.go (m := 5) (j := 48) (ls' := [some (zr ((52, 11, 0) : zF)), some (zi l1), none, some (zi (s0 + s1))]) (st' := [zi (l1 - (1 : Int32)), zr ((52, 11, 0) : zF), zi (2 : Int32), zr ((69, 20, 5) : zF)]) (h' := h3) rfl ?_
    refine zc_cp (d := d + 2) e (fun q e => s_X11_strengthAt_ok (d + 0) ρ hρ (l1 - (1 : Int32)) h3 q hR3 e) rfl rfl (fun v4 e => ?_)
    refine zwp.go (m := 4) (j := 53) (ls' := [some (zr ((52, 11, 0) : zF)), some (zi l1), none, some (zi (s0 + s1))]) (st' := [zi (l1 + (1 : Int32)), zr ((52, 11, 0) : zF), zi v4, zi (2 : Int32), zr ((69, 20, 5) : zF)]) (h' := h3) rfl ?_
    refine zc_cp (d := d + 2) e (fun q e => s_X11_strengthAt_ok (d + 0) ρ hρ (l1 + (1 : Int32)) h3 q hR3 e) rfl rfl (fun v5 e => ?_)
    refine zwp.go (m := 1) (j := 55) (ls' := [some (zr ((52, 11, 0) : zF)), some (zi l1), none, some (zi (s0 + s1))]) (st' := [zi (v4 + v5), zi (2 : Int32), zr ((69, 20, 5) : zF)]) (h' := h3) rfl ?_
    refine zc_w e rfl hR3 (fun h6 hR6 e => ?_)
    refine zwp.go (m := 1) (j := 57) (ls' := [some (zr ((52, 11, 0) : zF)), some (zi l1), none, some (zi (s0 + s1))]) (st' := [zr ((52, 11, 0) : zF)]) (h' := h6) rfl ?_
    refine zc_sr (r := ((69, 20, 5) : zF)) (zrf (a := 52) (y := 37) hR6 rfl (hρ 52 37 rfl)) rfl ?_
    refine zwp.go (m := 3) (j := 61) (ls' := [some (zr ((52, 11, 0) : zF)), some (zi l1), none, some (zi (s0 + s1))]) (st' := [zi l1, zr ((52, 11, 0) : zF), zi (3 : Int32), zr ((69, 20, 5) : zF)]) (h' := h6) rfl ?_
    refine zc_cp (d := d + 2) e (fun q e => s_X11_isPast_ok (d + 2) ρ hρ l1 h6 q hR6 e) rfl rfl (fun v7 e => ?_)
    refine zb_if (j := 65) (j2 := 63) e rfl (fun e => ?_) (fun e => ?_)
    · refine zwp.go (m := 1) (j := 66) (ls' := [some (zr ((52, 11, 0) : zF)), some (zi l1), none, some (zi (s0 + s1))]) (st' := [zi (0 : Int32), zi (3 : Int32), zr ((69, 20, 5) : zF)]) (h' := h6) rfl ?_
      refine zwp.fg (a := [some (zr ((52, 11, 0) : zF)), none, none, none]) (And.intro rfl trivial) ?_
      exact s_X11_rotsOf_J66_ok d ρ hρ (3 : Int32) (0 : Int32) h6 _ hR6 e
    · refine zwp.go (m := 2) (j := 66) (ls' := [some (zr ((52, 11, 0) : zF)), some (zi l1), none, some (zi (s0 + s1))]) (st' := [zi (1 : Int32), zi (3 : Int32), zr ((69, 20, 5) : zF)]) (h' := h6) rfl ?_
      refine zwp.fg (a := [some (zr ((52, 11, 0) : zF)), none, none, none]) (And.intro rfl trivial) ?_
      exact s_X11_rotsOf_J66_ok d ρ hρ (3 : Int32) (1 : Int32) h6 _ hR6 e
def s_X11_rotsOf_J12 (l1 : Int32) (l2 : Int32) (s0 : Int32) (h : zH) : Option (Int32 × zH) := (s_X11_isOf l2 (l1 + (1 : Int32)) h).bind fun v1 => if v1 = 0 then (s_X11_rotsOf_J21 l1 s0 (0 : Int32) h) else (s_X11_rotsOf_J21 l1 s0 (1 : Int32) h)
set_option maxRecDepth 100000 in
theorem s_X11_rotsOf_J12_ok (d : Nat) (ρ : Nat → Nat → Option zF) (hρ : zSh ρ) (l1 : Int32) (l2 : Int32) (s0 : Int32) (h : zH) (res : Int32 × zH) (hR : zRq h ρ) (e : s_X11_rotsOf_J12  l1 l2 s0 h = some res) : zwp (d + 3) zm_X11_rotsOf 12 [some (zr ((52, 11, 0) : zF)), some (zi l1), some (zi l2), none] [zi s0] h (zQi ρ res) := by
  rw [s_X11_rotsOf_J12] at e
  refine zwp.go (m := 4) (j := 16) (ls' := [some (zr ((52, 11, 0) : zF)), some (zi l1), some (zi l2), none]) (st' := [zi (l1 + (1 : Int32)), zi l2, zi s0]) (h' := h) rfl ?_
  refine zc_cp (d := d + 2) e (fun q e => s_X11_isOf_ok (d + 2) ρ hρ l2 (l1 + (1 : Int32)) h q hR e) rfl rfl (fun v1 e => ?_)
  refine zb_if (j := 20) (j2 := 18) e rfl (fun e => ?_) (fun e => ?_)
  · refine zwp.go (m := 1) (j := 21) (ls' := [some (zr ((52, 11, 0) : zF)), some (zi l1), some (zi l2), none]) (st' := [zi (0 : Int32), zi s0]) (h' := h) rfl ?_
    refine zwp.fg (a := [some (zr ((52, 11, 0) : zF)), some (zi l1), none, none]) (And.intro rfl (And.intro rfl trivial)) ?_
    exact s_X11_rotsOf_J21_ok d ρ hρ l1 s0 (0 : Int32) h _ hR e
  · refine zwp.go (m := 2) (j := 21) (ls' := [some (zr ((52, 11, 0) : zF)), some (zi l1), some (zi l2), none]) (st' := [zi (1 : Int32), zi s0]) (h' := h) rfl ?_
    refine zwp.fg (a := [some (zr ((52, 11, 0) : zF)), some (zi l1), none, none]) (And.intro rfl (And.intro rfl trivial)) ?_
    exact s_X11_rotsOf_J21_ok d ρ hρ l1 s0 (1 : Int32) h _ hR e
def s_X11_rotsOf (a1 : Int32) (h : zH) : Option (Int32 × zH) := (s_X11_goneNow h).bind fun v1 => if a1 ≤ 0 then (s_X11_rotsOf_J12 a1 v1 (1 : Int32) h) else ((s_X11_isOf v1 (a1 - (1 : Int32)) h).bind fun v2 => if ¬ v2 = 0 then (s_X11_rotsOf_J21 a1 (1 : Int32) (1 : Int32) h) else (s_X11_rotsOf_J12 a1 v1 (1 : Int32) h))
set_option maxRecDepth 100000 in
theorem s_X11_rotsOf_ok (d : Nat) (ρ : Nat → Nat → Option zF) (hρ : zSh ρ) (a1 : Int32) (h : zH) (res : Int32 × zH) (hR : zRq h ρ) (e : s_X11_rotsOf a1 h = some res) : zcl (d + 3) 152 [zr ((52, 11, 0) : zF), zi a1] h (zQi ρ res) := by
  rw [s_X11_rotsOf] at e
  refine ⟨zm_X11_rotsOf, rfl, ?_⟩
  show zwp (d + 3) zm_X11_rotsOf 0 [some (zr ((52, 11, 0) : zF)), some (zi a1), none, none] [] h _
  refine zwp.go (m := 1) (j := 1) (ls' := [some (zr ((52, 11, 0) : zF)), some (zi a1), none, none]) (st' := [zr ((52, 11, 0) : zF)]) (h' := h) rfl ?_
  refine zc_cp (d := d + 2) e (fun q e => s_X11_goneNow_ok (d + 2) ρ hρ h q hR e) rfl rfl (fun v1 e => ?_)
  refine zwp.go (m := 3) (j := 5) (ls' := [some (zr ((52, 11, 0) : zF)), some (zi a1), some (zi v1), none]) (st' := [zi a1, zi (1 : Int32)]) (h' := h) rfl ?_
  refine zb_if (j := 12) (j2 := 6) e rfl (fun e => ?_) (fun e => ?_)
  · exact s_X11_rotsOf_J12_ok d ρ hρ a1 v1 (1 : Int32) h _ hR e
  · refine zwp.go (m := 4) (j := 10) (ls' := [some (zr ((52, 11, 0) : zF)), some (zi a1), some (zi v1), none]) (st' := [zi (a1 - (1 : Int32)), zi v1, zi (1 : Int32)]) (h' := h) rfl ?_
    refine zc_cp (d := d + 2) e (fun q e => s_X11_isOf_ok (d + 2) ρ hρ v1 (a1 - (1 : Int32)) h q hR e) rfl rfl (fun v2 e => ?_)
    refine zb_if (j := 18) (j2 := 12) e rfl (fun e => ?_) (fun e => ?_)
    · refine zwp.go (m := 2) (j := 21) (ls' := [some (zr ((52, 11, 0) : zF)), some (zi a1), some (zi v1), none]) (st' := [zi (1 : Int32), zi (1 : Int32)]) (h' := h) rfl ?_
      refine zwp.fg (a := [some (zr ((52, 11, 0) : zF)), some (zi a1), none, none]) (And.intro rfl (And.intro rfl trivial)) ?_
      exact s_X11_rotsOf_J21_ok d ρ hρ a1 (1 : Int32) (1 : Int32) h _ hR e
    · exact s_X11_rotsOf_J12_ok d ρ hρ a1 v1 (1 : Int32) h _ hR e
def s_X11_isAny (h : zH) : Option (Int32) := if (zI h 56 0) ≤ ((zI h 52 30) + (zI h 52 31)) then (some (0 : Int32)) else (some (1 : Int32))
set_option maxRecDepth 100000 in
theorem s_X11_isAny_ok (d : Nat) (ρ : Nat → Nat → Option zF) (hρ : zSh ρ) (h : zH) (res : Int32) (hR : zRq h ρ) (e : s_X11_isAny  h = some res) : zcl d 153 [zr ((52, 11, 0) : zF)] h (zQp h res) := by
  rw [s_X11_isAny] at e
  refine ⟨zm_X11_isAny, rfl, ?_⟩
  show zwp d zm_X11_isAny 0 [some (zr ((52, 11, 0) : zF))] [] h _
  refine zwp.go (m := 6) (j := 6) (ls' := [some (zr ((52, 11, 0) : zF))]) (st' := [zr ((52, 11, 0) : zF), zi ((zI h 52 30) + (zI h 52 31))]) (h' := h) rfl ?_
  refine zc_sr (r := ((56, 20, 12) : zF)) (zrf (a := 52) (y := 5) hR rfl (hρ 52 5 rfl)) rfl ?_
  refine zwp.go (m := 2) (j := 9) (ls' := [some (zr ((52, 11, 0) : zF))]) (st' := [zi (zI h 56 0), zi ((zI h 52 30) + (zI h 52 31))]) (h' := h) rfl ?_
  refine zb_if (j := 12) (j2 := 10) e rfl (fun e => ?_) (fun e => ?_)
  · refine zwp.go (m := 1) (j := 13) (ls' := [some (zr ((52, 11, 0) : zF))]) (st' := [zi (0 : Int32)]) (h' := h) rfl ?_
    cases e
    exact zwp.ret rfl rfl ⟨rfl, rfl⟩
  · refine zwp.go (m := 2) (j := 13) (ls' := [some (zr ((52, 11, 0) : zF))]) (st' := [zi (1 : Int32)]) (h' := h) rfl ?_
    cases e
    exact zwp.ret rfl rfl ⟨rfl, rfl⟩
def s_X11_beforeClan (a1 : Int32) (h : zH) : Option (Int32) := if ¬ a1 = 0 then (some (((zI h 56 0) - (1 : Int32)) - (zI h 52 31))) else (some (zI h 52 30))
set_option maxRecDepth 100000 in
theorem s_X11_beforeClan_ok (d : Nat) (ρ : Nat → Nat → Option zF) (hρ : zSh ρ) (a1 : Int32) (h : zH) (res : Int32) (hR : zRq h ρ) (e : s_X11_beforeClan a1 h = some res) : zcl d 154 [zr ((52, 11, 0) : zF), zi a1] h (zQp h res) := by
  rw [s_X11_beforeClan] at e
  refine ⟨zm_X11_beforeClan, rfl, ?_⟩
  show zwp d zm_X11_beforeClan 0 [some (zr ((52, 11, 0) : zF)), some (zi a1)] [] h _
  refine zwp.go (m := 1) (j := 1) (ls' := [some (zr ((52, 11, 0) : zF)), some (zi a1)]) (st' := [zi a1]) (h' := h) rfl ?_
  refine zb_if (j := 5) (j2 := 2) e rfl (fun e => ?_) (fun e => ?_)
  · refine zwp.go (m := 1) (j := 6) (ls' := [some (zr ((52, 11, 0) : zF)), some (zi a1)]) (st' := [zr ((52, 11, 0) : zF)]) (h' := h) rfl ?_
    refine zc_sr (r := ((56, 20, 12) : zF)) (zrf (a := 52) (y := 5) hR rfl (hρ 52 5 rfl)) rfl ?_
    refine zwp.go (m := 7) (j := 14) (ls' := [some (zr ((52, 11, 0) : zF)), some (zi a1)]) (st' := [zi (((zI h 56 0) - (1 : Int32)) - (zI h 52 31))]) (h' := h) rfl ?_
    cases e
    exact zwp.ret rfl rfl ⟨rfl, rfl⟩
  · refine zwp.go (m := 3) (j := 14) (ls' := [some (zr ((52, 11, 0) : zF)), some (zi a1)]) (st' := [zi (zI h 52 30)]) (h' := h) rfl ?_
    cases e
    exact zwp.ret rfl rfl ⟨rfl, rfl⟩
def s_X11_goBy_J26 (l1 : Int32) (l2 : Int32) (s1 : Int32) (s2 : Int32) (h : zH) : Option (Int32 × zH) := zlt (zwI h 52 30 (s1 + s2)) fun h1 => zlt (zwI h1 52 31 ((zI h1 52 31) + l1)) fun h2 => (s_X11_isGone l2 h2).bind fun v3 => if ¬ v3 = 0 then (some ((0 : Int32), h2)) else (some ((1 : Int32), h2))
set_option maxRecDepth 100000 in
theorem s_X11_goBy_J26_ok (d : Nat) (ρ : Nat → Nat → Option zF) (hρ : zSh ρ) (l1 : Int32) (l2 : Int32) (s1 : Int32) (s2 : Int32) (h : zH) (res : Int32 × zH) (hR : zRq h ρ) (e : s_X11_goBy_J26  l1 l2 s1 s2 h = some res) : zwp (d + 1) zm_X11_goBy 26 [some (zr ((52, 11, 0) : zF)), some (zi l1), some (zi l2)] [zi s2, zi s1, zr ((52, 11, 0) : zF)] h (zQi ρ res) := by
  rw [s_X11_goBy_J26] at e
  refine zwp.go (m := 1) (j := 27) (ls' := [some (zr ((52, 11, 0) : zF)), some (zi l1), some (zi l2)]) (st' := [zi (s1 + s2), zr ((52, 11, 0) : zF)]) (h' := h) rfl ?_
  refine zc_w e rfl hR (fun h1 hR1 e => ?_)
  refine zwp.go (m := 5) (j := 33) (ls' := [some (zr ((52, 11, 0) : zF)), some (zi l1), some (zi l2)]) (st' := [zi ((zI h1 52 31) + l1), zr ((52, 11, 0) : zF)]) (h' := h1) rfl ?_
  refine zc_w e rfl hR1 (fun h2 hR2 e => ?_)
  refine zwp.go (m := 2) (j := 36) (ls' := [some (zr ((52, 11, 0) : zF)), some (zi l1), some (zi l2)]) (st' := [zi l2, zr ((52, 11, 0) : zF)]) (h' := h2) rfl ?_
  refine zc_cp (d := d + 0) e (fun q e => s_X11_isGone_ok (d + 0) ρ hρ l2 h2 q hR2 e) rfl rfl (fun v3 e => ?_)
  refine zb_if (j := 40) (j2 := 38) e rfl (fun e => ?_) (fun e => ?_)
  · refine zwp.go (m := 1) (j := 41) (ls' := [some (zr ((52, 11, 0) : zF)), some (zi l1), some (zi l2)]) (st' := [zi (0 : Int32)]) (h' := h2) rfl ?_
    cases e
    exact zwp.ret rfl rfl ⟨⟨rfl, rfl⟩, hR2⟩
  · refine zwp.go (m := 2) (j := 41) (ls' := [some (zr ((52, 11, 0) : zF)), some (zi l1), some (zi l2)]) (st' := [zi (1 : Int32)]) (h' := h2) rfl ?_
    cases e
    exact zwp.ret rfl rfl ⟨⟨rfl, rfl⟩, hR2⟩
def s_X11_goBy_J16 (l1 : Int32) (l2 : Int32) (s1 : Int32) (s2 : Int32) (h : zH) : Option (Int32 × zH) := zlt (zwI h 52 32 (s1 ||| s2)) fun h1 => if ¬ l1 = 0 then (s_X11_goBy_J26 l1 l2 (zI h1 52 30) (0 : Int32) h1) else (s_X11_goBy_J26 l1 l2 (zI h1 52 30) (1 : Int32) h1)
set_option maxRecDepth 100000 in
theorem s_X11_goBy_J16_ok (d : Nat) (ρ : Nat → Nat → Option zF) (hρ : zSh ρ) (l1 : Int32) (l2 : Int32) (s1 : Int32) (s2 : Int32) (h : zH) (res : Int32 × zH) (hR : zRq h ρ) (e : s_X11_goBy_J16  l1 l2 s1 s2 h = some res) : zwp (d + 1) zm_X11_goBy 16 [some (zr ((52, 11, 0) : zF)), some (zi l1), some (zi l2)] [zi s2, zi s1, zr ((52, 11, 0) : zF)] h (zQi ρ res) := by
  rw [s_X11_goBy_J16] at e
  refine zwp.go (m := 1) (j := 17) (ls' := [some (zr ((52, 11, 0) : zF)), some (zi l1), some (zi l2)]) (st' := [zi (s1 ||| s2), zr ((52, 11, 0) : zF)]) (h' := h) rfl ?_
  refine zc_w e rfl hR (fun h1 hR1 e => ?_)
  refine zwp.go (m := 4) (j := 22) (ls' := [some (zr ((52, 11, 0) : zF)), some (zi l1), some (zi l2)]) (st' := [zi l1, zi (zI h1 52 30), zr ((52, 11, 0) : zF)]) (h' := h1) rfl ?_
  refine zb_if (j := 25) (j2 := 23) e rfl (fun e => ?_) (fun e => ?_)
  · refine zwp.go (m := 1) (j := 26) (ls' := [some (zr ((52, 11, 0) : zF)), some (zi l1), some (zi l2)]) (st' := [zi (0 : Int32), zi (zI h1 52 30), zr ((52, 11, 0) : zF)]) (h' := h1) rfl ?_
    exact s_X11_goBy_J26_ok d ρ hρ l1 l2 (zI h1 52 30) (0 : Int32) h1 _ hR1 e
  · refine zwp.go (m := 2) (j := 26) (ls' := [some (zr ((52, 11, 0) : zF)), some (zi l1), some (zi l2)]) (st' := [zi (1 : Int32), zi (zI h1 52 30), zr ((52, 11, 0) : zF)]) (h' := h1) rfl ?_
    exact s_X11_goBy_J26_ok d ρ hρ l1 l2 (zI h1 52 30) (1 : Int32) h1 _ hR1 e
def s_X11_goBy (a1 : Int32) (h : zH) : Option (Int32 × zH) := (s_X11_beforeClan a1 h).bind fun v1 => (s_X11_isGone v1 h).bind fun v2 => if v2 = 0 then (s_X11_goBy_J16 a1 v1 (zI h 52 32) (0 : Int32) h) else (s_X11_goBy_J16 a1 v1 (zI h 52 32) ((1 : Int32) <<< (v1 &&& 31)) h)
set_option maxRecDepth 100000 in
theorem s_X11_goBy_ok (d : Nat) (ρ : Nat → Nat → Option zF) (hρ : zSh ρ) (a1 : Int32) (h : zH) (res : Int32 × zH) (hR : zRq h ρ) (e : s_X11_goBy a1 h = some res) : zcl (d + 1) 155 [zr ((52, 11, 0) : zF), zi a1] h (zQi ρ res) := by
  rw [s_X11_goBy] at e
  refine ⟨zm_X11_goBy, rfl, ?_⟩
  show zwp (d + 1) zm_X11_goBy 0 [some (zr ((52, 11, 0) : zF)), some (zi a1), none] [] h _
  refine zwp.go (m := 2) (j := 2) (ls' := [some (zr ((52, 11, 0) : zF)), some (zi a1), none]) (st' := [zi a1, zr ((52, 11, 0) : zF)]) (h' := h) rfl ?_
  refine zc_cp (d := d + 0) e (fun q e => s_X11_beforeClan_ok (d + 0) ρ hρ a1 h q hR e) rfl rfl (fun v1 e => ?_)
  refine zwp.go (m := 6) (j := 9) (ls' := [some (zr ((52, 11, 0) : zF)), some (zi a1), some (zi v1)]) (st' := [zi v1, zr ((52, 11, 0) : zF), zi (zI h 52 32), zr ((52, 11, 0) : zF)]) (h' := h) rfl ?_
  refine zc_cp (d := d + 0) e (fun q e => s_X11_isGone_ok (d + 0) ρ hρ v1 h q hR e) rfl rfl (fun v2 e => ?_)
  refine zb_if (j := 15) (j2 := 11) e rfl (fun e => ?_) (fun e => ?_)
  · refine zwp.go (m := 1) (j := 16) (ls' := [some (zr ((52, 11, 0) : zF)), some (zi a1), some (zi v1)]) (st' := [zi (0 : Int32), zi (zI h 52 32), zr ((52, 11, 0) : zF)]) (h' := h) rfl ?_
    exact s_X11_goBy_J16_ok d ρ hρ a1 v1 (zI h 52 32) (0 : Int32) h _ hR e
  · refine zwp.go (m := 4) (j := 16) (ls' := [some (zr ((52, 11, 0) : zF)), some (zi a1), some (zi v1)]) (st' := [zi ((1 : Int32) <<< (v1 &&& 31)), zi (zI h 52 32), zr ((52, 11, 0) : zF)]) (h' := h) rfl ?_
    exact s_X11_goBy_J16_ok d ρ hρ a1 v1 (zI h 52 32) ((1 : Int32) <<< (v1 &&& 31)) h _ hR e
def s_X11_leftNow_L5 : Nat → Int32 → Int32 → zH → Option (Int32)
  | 0, _, _, _ => none
  | n + 1, l1, l2, h => if ((zI h 56 0) - (zI h 52 31)) ≤ l2 then (some l1) else ((s_X11_isGone l2 h).bind fun v1 => if v1 = 0 then (s_X11_leftNow_L5 n (l1 + (1 : Int32)) (l2 + (1 : Int32)) h) else (s_X11_leftNow_L5 n (l1 + (0 : Int32)) (l2 + (1 : Int32)) h))
set_option maxRecDepth 100000 in
theorem s_X11_leftNow_L5_ok (d : Nat) (ρ : Nat → Nat → Option zF) (hρ : zSh ρ) : ∀ (n : Nat) (l1 : Int32) (l2 : Int32) (h : zH) (res : Int32) (hR : zRq h ρ) (e : s_X11_leftNow_L5  n l1 l2 h = some res), zwp (d + 1) zm_X11_leftNow 5 [some (zr ((52, 11, 0) : zF)), some (zi l1), some (zi l2)] [] h (zQp h res) := by
  intro n
  induction n with
  | zero => intro l1 l2 h res hR e; cases e
  | succ n ih =>
    intro l1 l2 h res hR e
    rw [s_X11_leftNow_L5] at e
    refine zwp.go (m := 2) (j := 7) (ls' := [some (zr ((52, 11, 0) : zF)), some (zi l1), some (zi l2)]) (st' := [zr ((52, 11, 0) : zF), zi l2]) (h' := h) rfl ?_
    refine zc_sr (r := ((56, 20, 12) : zF)) (zrf (a := 52) (y := 5) hR rfl (hρ 52 5 rfl)) rfl ?_
    refine zwp.go (m := 5) (j := 13) (ls' := [some (zr ((52, 11, 0) : zF)), some (zi l1), some (zi l2)]) (st' := [zi ((zI h 56 0) - (zI h 52 31)), zi l2]) (h' := h) rfl ?_
    refine zb_if (j := 26) (j2 := 14) e rfl (fun e => ?_) (fun e => ?_)
    · refine zwp.go (m := 1) (j := 27) (ls' := [some (zr ((52, 11, 0) : zF)), some (zi l1), some (zi l2)]) (st' := [zi l1]) (h' := h) rfl ?_
      cases e
      exact zwp.ret rfl rfl ⟨rfl, rfl⟩
    · refine zwp.go (m := 3) (j := 17) (ls' := [some (zr ((52, 11, 0) : zF)), some (zi l1), some (zi l2)]) (st' := [zi l2, zr ((52, 11, 0) : zF), zi l1]) (h' := h) rfl ?_
      refine zc_cp (d := d + 0) e (fun q e => s_X11_isGone_ok (d + 0) ρ hρ l2 h q hR e) rfl rfl (fun v1 e => ?_)
      refine zb_if (j := 21) (j2 := 19) e rfl (fun e => ?_) (fun e => ?_)
      · refine zwp.go (m := 5) (j := 5) (ls' := [some (zr ((52, 11, 0) : zF)), some (zi (l1 + (1 : Int32))), some (zi (l2 + (1 : Int32)))]) (st' := []) (h' := h) rfl ?_
        exact ih (l1 + (1 : Int32)) (l2 + (1 : Int32)) h _ hR e
      · refine zwp.go (m := 6) (j := 5) (ls' := [some (zr ((52, 11, 0) : zF)), some (zi (l1 + (0 : Int32))), some (zi (l2 + (1 : Int32)))]) (st' := []) (h' := h) rfl ?_
        exact ih (l1 + (0 : Int32)) (l2 + (1 : Int32)) h _ hR e
def s_X11_leftNow (h : zH) : Option (Int32) := s_X11_leftNow_L5 zfu (0 : Int32) (zI h 52 30) h
set_option maxRecDepth 100000 in
theorem s_X11_leftNow_ok (d : Nat) (ρ : Nat → Nat → Option zF) (hρ : zSh ρ) (h : zH) (res : Int32) (hR : zRq h ρ) (e : s_X11_leftNow  h = some res) : zcl (d + 1) 156 [zr ((52, 11, 0) : zF)] h (zQp h res) := by
  rw [s_X11_leftNow] at e
  refine ⟨zm_X11_leftNow, rfl, ?_⟩
  show zwp (d + 1) zm_X11_leftNow 0 [some (zr ((52, 11, 0) : zF)), none, none] [] h _
  refine zwp.go (m := 5) (j := 5) (ls' := [some (zr ((52, 11, 0) : zF)), some (zi (0 : Int32)), some (zi (zI h 52 30))]) (st' := []) (h' := h) rfl ?_
  exact s_X11_leftNow_L5_ok d ρ hρ zfu (0 : Int32) (zI h 52 30) h _ hR e
def s_X11_weavesAt_J56 (l3 : Int32) (h : zH) : Option (Int32 × zH) := (s_J9_min_7cf53 (5 : Int32) l3 h).bind fun v1 => (s_J9_max_7cf53 (0 : Int32) v1 h).bind fun v2 => some (v2, h)
set_option maxRecDepth 100000 in
theorem s_X11_weavesAt_J56_ok (d : Nat) (ρ : Nat → Nat → Option zF) (hρ : zSh ρ) (l3 : Int32) (h : zH) (res : Int32 × zH) (hR : zRq h ρ) (e : s_X11_weavesAt_J56  l3 h = some res) : zwp (d + 2) zm_X11_weavesAt 56 [none, none, none, some (zi l3)] [] h (zQi ρ res) := by
  rw [s_X11_weavesAt_J56] at e
  refine zwp.go (m := 3) (j := 59) (ls' := [none, none, none, some (zi l3)]) (st' := [zi l3, zi (5 : Int32), zi (0 : Int32)]) (h' := h) rfl ?_
  refine zc_cp (d := d + 1) e (fun q e => s_J9_min_7cf53_ok (d + 1) ρ hρ (5 : Int32) l3 h q hR e) rfl rfl (fun v1 e => ?_)
  refine zc_cp (d := d + 1) e (fun q e => s_J9_max_7cf53_ok (d + 1) ρ hρ (0 : Int32) v1 h q hR e) rfl rfl (fun v2 e => ?_)
  cases e
  exact zwp.ret rfl rfl ⟨⟨rfl, rfl⟩, hR⟩
def s_X11_weavesAt (a1 : Int32) (a2 : Int32) (h : zH) : Option (Int32 × zH) := zix a1 2 fun i1 => (zdv (zI h 65 i1) (4 : Int32)).bind fun v2 => if (zI h 56 5) ≤ 0 then (s_X11_weavesAt_J56 ((1 : Int32) + v2) h) else (zix a1 2 fun i3 => zlt (zwI h 69 0 (zI h 65 i3)) fun h4 => zix a2 12 fun i5 => zlt (zwI h4 69 1 (zI h4 64 i5)) fun h6 => zlt (zwI h6 69 2 a2) fun h7 => (s_X11_leftNow h7).bind fun v8 => zlt (zwI h7 69 3 v8) fun h9 => zlt (zwI h9 69 4 (zI h9 52 29)) fun h10 => zbd (s_X11_valueNow 61 1400 (zI h10 56 5) h10) fun v12 h11 => s_X11_weavesAt_J56 v12 h11)
set_option maxRecDepth 100000 in
theorem s_X11_weavesAt_ok (d : Nat) (ρ : Nat → Nat → Option zF) (hρ : zSh ρ) (a1 : Int32) (a2 : Int32) (h : zH) (res : Int32 × zH) (hR : zRq h ρ) (e : s_X11_weavesAt a1 a2 h = some res) : zcl (d + 2) 157 [zr ((52, 11, 0) : zF), zi a1, zi a2] h (zQi ρ res) := by
  rw [s_X11_weavesAt] at e
  refine ⟨zm_X11_weavesAt, rfl, ?_⟩
  show zwp (d + 2) zm_X11_weavesAt 0 [some (zr ((52, 11, 0) : zF)), some (zi a1), some (zi a2), none] [] h _
  refine zwp.go (m := 2) (j := 2) (ls' := [some (zr ((52, 11, 0) : zF)), some (zi a1), some (zi a2), none]) (st' := [zr ((52, 11, 0) : zF), zi (1 : Int32)]) (h' := h) rfl ?_
  refine zc_sr (r := ((65, 20, 2) : zF)) (zrf (a := 52) (y := 25) hR rfl (hρ 52 25 rfl)) rfl ?_
  refine zwp.go (m := 1) (j := 4) (ls' := [some (zr ((52, 11, 0) : zF)), some (zi a1), some (zi a2), none]) (st' := [zi a1, zr ((65, 20, 2) : zF), zi (1 : Int32)]) (h' := h) rfl ?_
  refine zc_ai e (fun _ => rfl) (fun i1 e => ?_)
  refine zwp.go (m := 1) (j := 6) (ls' := [some (zr ((52, 11, 0) : zF)), some (zi a1), some (zi a2), none]) (st' := [zi (4 : Int32), zi (zI h 65 i1), zi (1 : Int32)]) (h' := h) rfl ?_
  refine zb_dv e rfl (fun v2 e => ?_)
  refine zwp.go (m := 3) (j := 10) (ls' := [some (zr ((52, 11, 0) : zF)), some (zi a1), some (zi a2), some (zi ((1 : Int32) + v2))]) (st' := [zr ((52, 11, 0) : zF)]) (h' := h) rfl ?_
  refine zc_sr (r := ((56, 20, 12) : zF)) (zrf (a := 52) (y := 5) hR rfl (hρ 52 5 rfl)) rfl ?_
  refine zwp.go (m := 2) (j := 13) (ls' := [some (zr ((52, 11, 0) : zF)), some (zi a1), some (zi a2), some (zi ((1 : Int32) + v2))]) (st' := [zi (zI h 56 5)]) (h' := h) rfl ?_
  refine zb_if (j := 56) (j2 := 14) e rfl (fun e => ?_) (fun e => ?_)
  · refine zwp.fg (a := [none, none, none, some (zi ((1 : Int32) + v2))]) (And.intro rfl trivial) ?_
    exact s_X11_weavesAt_J56_ok d ρ hρ ((1 : Int32) + v2) h _ hR e
  · refine zwp.go (m := 1) (j := 15) (ls' := [some (zr ((52, 11, 0) : zF)), some (zi a1), some (zi a2), some (zi ((1 : Int32) + v2))]) (st' := [zr ((52, 11, 0) : zF)]) (h' := h) rfl ?_
    refine zc_sr (r := ((69, 20, 5) : zF)) (zrf (a := 52) (y := 37) hR rfl (hρ 52 37 rfl)) rfl ?_
    refine zwp.go (m := 2) (j := 18) (ls' := [some (zr ((52, 11, 0) : zF)), some (zi a1), some (zi a2), some (zi ((1 : Int32) + v2))]) (st' := [zr ((52, 11, 0) : zF), zi (0 : Int32), zr ((69, 20, 5) : zF)]) (h' := h) rfl ?_
    refine zc_sr (r := ((65, 20, 2) : zF)) (zrf (a := 52) (y := 25) hR rfl (hρ 52 25 rfl)) rfl ?_
    refine zwp.go (m := 1) (j := 20) (ls' := [some (zr ((52, 11, 0) : zF)), some (zi a1), some (zi a2), some (zi ((1 : Int32) + v2))]) (st' := [zi a1, zr ((65, 20, 2) : zF), zi (0 : Int32), zr ((69, 20, 5) : zF)]) (h' := h) rfl ?_
    refine zc_ai e (fun _ => rfl) (fun i3 e => ?_)
    refine zc_w e rfl hR (fun h4 hR4 e => ?_)
    refine zwp.go (m := 1) (j := 23) (ls' := [some (zr ((52, 11, 0) : zF)), some (zi a1), some (zi a2), some (zi ((1 : Int32) + v2))]) (st' := [zr ((52, 11, 0) : zF)]) (h' := h4) rfl ?_
    refine zc_sr (r := ((69, 20, 5) : zF)) (zrf (a := 52) (y := 37) hR4 rfl (hρ 52 37 rfl)) rfl ?_
    refine zwp.go (m := 2) (j := 26) (ls' := [some (zr ((52, 11, 0) : zF)), some (zi a1), some (zi a2), some (zi ((1 : Int32) + v2))]) (st' := [zr ((52, 11, 0) : zF), zi (1 : Int32), zr ((69, 20, 5) : zF)]) (h' := h4) rfl ?_
    refine zc_sr (r := ((64, 20, 12) : zF)) (zrf (a := 52) (y := 24) hR4 rfl (hρ 52 24 rfl)) rfl ?_
    refine zwp.go (m := 1) (j := 28) (ls' := [some (zr ((52, 11, 0) : zF)), some (zi a1), some (zi a2), some (zi ((1 : Int32) + v2))]) (st' := [zi a2, zr ((64, 20, 12) : zF), zi (1 : Int32), zr ((69, 20, 5) : zF)]) (h' := h4) rfl ?_
    refine zc_ai e (fun _ => rfl) (fun i5 e => ?_)
    refine zc_w e rfl hR4 (fun h6 hR6 e => ?_)
    refine zwp.go (m := 1) (j := 31) (ls' := [some (zr ((52, 11, 0) : zF)), some (zi a1), some (zi a2), some (zi ((1 : Int32) + v2))]) (st' := [zr ((52, 11, 0) : zF)]) (h' := h6) rfl ?_
    refine zc_sr (r := ((69, 20, 5) : zF)) (zrf (a := 52) (y := 37) hR6 rfl (hρ 52 37 rfl)) rfl ?_
    refine zwp.go (m := 2) (j := 34) (ls' := [some (zr ((52, 11, 0) : zF)), some (zi a1), some (zi a2), some (zi ((1 : Int32) + v2))]) (st' := [zi a2, zi (2 : Int32), zr ((69, 20, 5) : zF)]) (h' := h6) rfl ?_
    refine zc_w e rfl hR6 (fun h7 hR7 e => ?_)
    refine zwp.go (m := 1) (j := 36) (ls' := [some (zr ((52, 11, 0) : zF)), some (zi a1), some (zi a2), some (zi ((1 : Int32) + v2))]) (st' := [zr ((52, 11, 0) : zF)]) (h' := h7) rfl ?_
    refine zc_sr (r := ((69, 20, 5) : zF)) (zrf (a := 52) (y := 37) hR7 rfl (hρ 52 37 rfl)) rfl ?_
    refine zwp.go (m := 2) (j := 39) (ls' := [some (zr ((52, 11, 0) : zF)), some (zi a1), some (zi a2), some (zi ((1 : Int32) + v2))]) (st' := [zr ((52, 11, 0) : zF), zi (3 : Int32), zr ((69, 20, 5) : zF)]) (h' := h7) rfl ?_
    refine zc_cp (d := d + 1) e (fun q e => s_X11_leftNow_ok (d + 0) ρ hρ h7 q hR7 e) rfl rfl (fun v8 e => ?_)
    refine zc_w e rfl hR7 (fun h9 hR9 e => ?_)
    refine zwp.go (m := 1) (j := 42) (ls' := [some (zr ((52, 11, 0) : zF)), some (zi a1), some (zi a2), some (zi ((1 : Int32) + v2))]) (st' := [zr ((52, 11, 0) : zF)]) (h' := h9) rfl ?_
    refine zc_sr (r := ((69, 20, 5) : zF)) (zrf (a := 52) (y := 37) hR9 rfl (hρ 52 37 rfl)) rfl ?_
    refine zwp.go (m := 3) (j := 46) (ls' := [some (zr ((52, 11, 0) : zF)), some (zi a1), some (zi a2), some (zi ((1 : Int32) + v2))]) (st' := [zi (zI h9 52 29), zi (4 : Int32), zr ((69, 20, 5) : zF)]) (h' := h9) rfl ?_
    refine zc_w e rfl hR9 (fun h10 hR10 e => ?_)
    refine zwp.go (m := 2) (j := 49) (ls' := [some (zr ((52, 11, 0) : zF)), some (zi a1), some (zi a2), some (zi ((1 : Int32) + v2))]) (st' := [zr ((52, 11, 0) : zF), zr ((52, 11, 0) : zF)]) (h' := h10) rfl ?_
    refine zc_sr (r := ((61, 20, 1400) : zF)) (zrf (a := 52) (y := 10) hR10 rfl (hρ 52 10 rfl)) rfl ?_
    refine zwp.go (m := 1) (j := 51) (ls' := [some (zr ((52, 11, 0) : zF)), some (zi a1), some (zi a2), some (zi ((1 : Int32) + v2))]) (st' := [zr ((52, 11, 0) : zF), zr ((61, 20, 1400) : zF), zr ((52, 11, 0) : zF)]) (h' := h10) rfl ?_
    refine zc_sr (r := ((56, 20, 12) : zF)) (zrf (a := 52) (y := 5) hR10 rfl (hρ 52 5 rfl)) rfl ?_
    refine zwp.go (m := 2) (j := 54) (ls' := [some (zr ((52, 11, 0) : zF)), some (zi a1), some (zi a2), some (zi ((1 : Int32) + v2))]) (st' := [zi (zI h10 56 5), zr ((61, 20, 1400) : zF), zr ((52, 11, 0) : zF)]) (h' := h10) rfl ?_
    refine zc_ci (d := d + 1) e (fun q e => s_X11_valueNow_ok (d + 0) ρ hρ 61 1400 (zI h10 56 5) h10 q hR10 e) rfl rfl (fun v12 h11 hR11 e => ?_)
    refine zwp.go (m := 1) (j := 56) (ls' := [some (zr ((52, 11, 0) : zF)), some (zi a1), some (zi a2), some (zi v12)]) (st' := []) (h' := h11) rfl ?_
    refine zwp.fg (a := [none, none, none, some (zi v12)]) (And.intro rfl trivial) ?_
    exact s_X11_weavesAt_J56_ok d ρ hρ v12 h11 _ hR11 e
def s_X11_weave_L25 : Nat → Int32 → Int32 → zH → Option (zH)
  | 0, _, _, _ => none
  | n + 1, l1, l2, h => if l2 ≤ 0 then (some h) else ((s_X11_isAny h).bind fun v1 => if v1 = 0 then (some h) else (zbd (s_X11_goBy l1 h) fun v3 h2 => if v3 = 0 then (s_X11_weave_L25 n l1 (l2 - (0 : Int32)) h2) else (s_X11_weave_L25 n l1 (l2 - (1 : Int32)) h2)))
set_option maxRecDepth 100000 in
theorem s_X11_weave_L25_ok (d : Nat) (ρ : Nat → Nat → Option zF) (hρ : zSh ρ) : ∀ (n : Nat) (l1 : Int32) (l2 : Int32) (h : zH) (res : zH) (hR : zRq h ρ) (e : s_X11_weave_L25  n l1 l2 h = some res), zwp (d + 3) zm_X11_weave 25 [some (zr ((52, 11, 0) : zF)), some (zi l1), some (zi l2)] [] h (zQv ρ res) := by
  intro n
  induction n with
  | zero => intro l1 l2 h res hR e; cases e
  | succ n ih =>
    intro l1 l2 h res hR e
    rw [s_X11_weave_L25] at e
    refine zwp.go (m := 1) (j := 26) (ls' := [some (zr ((52, 11, 0) : zF)), some (zi l1), some (zi l2)]) (st' := [zi l2]) (h' := h) rfl ?_
    refine zb_if (j := 41) (j2 := 27) e rfl (fun e => ?_) (fun e => ?_)
    · cases e
      exact zwp.rv rfl ⟨⟨rfl, rfl⟩, hR⟩
    · refine zwp.go (m := 1) (j := 28) (ls' := [some (zr ((52, 11, 0) : zF)), some (zi l1), some (zi l2)]) (st' := [zr ((52, 11, 0) : zF)]) (h' := h) rfl ?_
      refine zc_cp (d := d + 2) e (fun q e => s_X11_isAny_ok (d + 2) ρ hρ h q hR e) rfl rfl (fun v1 e => ?_)
      refine zb_if (j := 41) (j2 := 30) e rfl (fun e => ?_) (fun e => ?_)
      · cases e
        exact zwp.rv rfl ⟨⟨rfl, rfl⟩, hR⟩
      · refine zwp.go (m := 3) (j := 33) (ls' := [some (zr ((52, 11, 0) : zF)), some (zi l1), some (zi l2)]) (st' := [zi l1, zr ((52, 11, 0) : zF), zi l2]) (h' := h) rfl ?_
        refine zc_ci (d := d + 2) e (fun q e => s_X11_goBy_ok (d + 1) ρ hρ l1 h q hR e) rfl rfl (fun v3 h2 hR2 e => ?_)
        refine zb_if (j := 37) (j2 := 35) e rfl (fun e => ?_) (fun e => ?_)
        · refine zwp.go (m := 4) (j := 25) (ls' := [some (zr ((52, 11, 0) : zF)), some (zi l1), some (zi (l2 - (0 : Int32)))]) (st' := []) (h' := h2) rfl ?_
          exact ih l1 (l2 - (0 : Int32)) h2 _ hR2 e
        · refine zwp.go (m := 5) (j := 25) (ls' := [some (zr ((52, 11, 0) : zF)), some (zi l1), some (zi (l2 - (1 : Int32)))]) (st' := []) (h' := h2) rfl ?_
          exact ih l1 (l2 - (1 : Int32)) h2 _ hR2 e
def s_X11_weave_J14 (l1 : Int32) (h : zH) : Option (zH) := (s_X11_isAny h).bind fun v1 => if ¬ v1 = 0 then ((s_X11_beforeClan l1 h).bind fun v2 => zbd (s_X11_weavesAt l1 v2 h) fun v4 h3 => s_X11_weave_L25 zfu l1 v4 h3) else (some h)
set_option maxRecDepth 100000 in
theorem s_X11_weave_J14_ok (d : Nat) (ρ : Nat → Nat → Option zF) (hρ : zSh ρ) (l1 : Int32) (h : zH) (res : zH) (hR : zRq h ρ) (e : s_X11_weave_J14  l1 h = some res) : zwp (d + 3) zm_X11_weave 14 [some (zr ((52, 11, 0) : zF)), some (zi l1), none] [] h (zQv ρ res) := by
  rw [s_X11_weave_J14] at e
  refine zwp.go (m := 1) (j := 15) (ls' := [some (zr ((52, 11, 0) : zF)), some (zi l1), none]) (st' := [zr ((52, 11, 0) : zF)]) (h' := h) rfl ?_
  refine zc_cp (d := d + 2) e (fun q e => s_X11_isAny_ok (d + 2) ρ hρ h q hR e) rfl rfl (fun v1 e => ?_)
  refine zb_if (j := 18) (j2 := 17) e rfl (fun e => ?_) (fun e => ?_)
  · refine zwp.go (m := 4) (j := 22) (ls' := [some (zr ((52, 11, 0) : zF)), some (zi l1), none]) (st' := [zi l1, zr ((52, 11, 0) : zF), zi l1, zr ((52, 11, 0) : zF)]) (h' := h) rfl ?_
    refine zc_cp (d := d + 2) e (fun q e => s_X11_beforeClan_ok (d + 2) ρ hρ l1 h q hR e) rfl rfl (fun v2 e => ?_)
    refine zc_ci (d := d + 2) e (fun q e => s_X11_weavesAt_ok (d + 0) ρ hρ l1 v2 h q hR e) rfl rfl (fun v4 h3 hR3 e => ?_)
    refine zwp.go (m := 1) (j := 25) (ls' := [some (zr ((52, 11, 0) : zF)), some (zi l1), some (zi v4)]) (st' := []) (h' := h3) rfl ?_
    exact s_X11_weave_L25_ok d ρ hρ zfu l1 v4 h3 _ hR3 e
  · cases e
    exact zwp.rv rfl ⟨⟨rfl, rfl⟩, hR⟩
def s_X11_weave_L0 : Nat → Int32 → zH → Option (zH)
  | 0, _, _ => none
  | n + 1, l1, h => (s_X11_isAny h).bind fun v1 => if v1 = 0 then (s_X11_weave_J14 l1 h) else ((s_X11_beforeClan l1 h).bind fun v2 => (s_X11_isGone v2 h).bind fun v3 => if v3 = 0 then (s_X11_weave_J14 l1 h) else (zbd (s_X11_goBy l1 h) fun v5 h4 => s_X11_weave_L0 n l1 h4))
set_option maxRecDepth 100000 in
theorem s_X11_weave_L0_ok (d : Nat) (ρ : Nat → Nat → Option zF) (hρ : zSh ρ) : ∀ (n : Nat) (l1 : Int32) (h : zH) (res : zH) (hR : zRq h ρ) (e : s_X11_weave_L0  n l1 h = some res), zwp (d + 3) zm_X11_weave 0 [some (zr ((52, 11, 0) : zF)), some (zi l1), none] [] h (zQv ρ res) := by
  intro n
  induction n with
  | zero => intro l1 h res hR e; cases e
  | succ n ih =>
    intro l1 h res hR e
    rw [s_X11_weave_L0] at e
    refine zwp.go (m := 1) (j := 1) (ls' := [some (zr ((52, 11, 0) : zF)), some (zi l1), none]) (st' := [zr ((52, 11, 0) : zF)]) (h' := h) rfl ?_
    refine zc_cp (d := d + 2) e (fun q e => s_X11_isAny_ok (d + 2) ρ hρ h q hR e) rfl rfl (fun v1 e => ?_)
    refine zb_if (j := 14) (j2 := 3) e rfl (fun e => ?_) (fun e => ?_)
    · exact s_X11_weave_J14_ok d ρ hρ l1 h _ hR e
    · refine zwp.go (m := 3) (j := 6) (ls' := [some (zr ((52, 11, 0) : zF)), some (zi l1), none]) (st' := [zi l1, zr ((52, 11, 0) : zF), zr ((52, 11, 0) : zF)]) (h' := h) rfl ?_
      refine zc_cp (d := d + 2) e (fun q e => s_X11_beforeClan_ok (d + 2) ρ hρ l1 h q hR e) rfl rfl (fun v2 e => ?_)
      refine zc_cp (d := d + 2) e (fun q e => s_X11_isGone_ok (d + 2) ρ hρ v2 h q hR e) rfl rfl (fun v3 e => ?_)
      refine zb_if (j := 14) (j2 := 9) e rfl (fun e => ?_) (fun e => ?_)
      · exact s_X11_weave_J14_ok d ρ hρ l1 h _ hR e
      · refine zwp.go (m := 2) (j := 11) (ls' := [some (zr ((52, 11, 0) : zF)), some (zi l1), none]) (st' := [zi l1, zr ((52, 11, 0) : zF)]) (h' := h) rfl ?_
        refine zc_ci (d := d + 2) e (fun q e => s_X11_goBy_ok (d + 1) ρ hρ l1 h q hR e) rfl rfl (fun v5 h4 hR4 e => ?_)
        refine zwp.go (m := 2) (j := 0) (ls' := [some (zr ((52, 11, 0) : zF)), some (zi l1), none]) (st' := []) (h' := h4) rfl ?_
        exact ih l1 h4 _ hR4 e
def s_X11_weave (a1 : Int32) (h : zH) : Option (zH) := s_X11_weave_L0 zfu a1 h
set_option maxRecDepth 100000 in
theorem s_X11_weave_ok (d : Nat) (ρ : Nat → Nat → Option zF) (hρ : zSh ρ) (a1 : Int32) (h : zH) (res : zH) (hR : zRq h ρ) (e : s_X11_weave a1 h = some res) : zcl (d + 3) 158 [zr ((52, 11, 0) : zF), zi a1] h (zQv ρ res) := by
  rw [s_X11_weave] at e
  refine ⟨zm_X11_weave, rfl, ?_⟩
  show zwp (d + 3) zm_X11_weave 0 [some (zr ((52, 11, 0) : zF)), some (zi a1), none] [] h _
  exact s_X11_weave_L0_ok d ρ hρ zfu a1 h _ hR e
def s_X11_beginAnew (h : zH) : Option (zH) := zlt (zwI h 52 30 (0 : Int32)) fun h1 => zlt (zwI h1 52 31 (0 : Int32)) fun h2 => zlt (zwI h2 52 32 (0 : Int32)) fun h3 => some h3
set_option maxRecDepth 100000 in
theorem s_X11_beginAnew_ok (d : Nat) (ρ : Nat → Nat → Option zF) (hρ : zSh ρ) (h : zH) (res : zH) (hR : zRq h ρ) (e : s_X11_beginAnew  h = some res) : zcl d 159 [zr ((52, 11, 0) : zF)] h (zQv ρ res) := by
  rw [s_X11_beginAnew] at e
  refine ⟨zm_X11_beginAnew, rfl, ?_⟩
  show zwp d zm_X11_beginAnew 0 [some (zr ((52, 11, 0) : zF))] [] h _
  refine zwp.go (m := 2) (j := 2) (ls' := [some (zr ((52, 11, 0) : zF))]) (st' := [zi (0 : Int32), zr ((52, 11, 0) : zF)]) (h' := h) rfl ?_
  refine zc_w e rfl hR (fun h1 hR1 e => ?_)
  refine zwp.go (m := 2) (j := 5) (ls' := [some (zr ((52, 11, 0) : zF))]) (st' := [zi (0 : Int32), zr ((52, 11, 0) : zF)]) (h' := h1) rfl ?_
  refine zc_w e rfl hR1 (fun h2 hR2 e => ?_)
  refine zwp.go (m := 2) (j := 8) (ls' := [some (zr ((52, 11, 0) : zF))]) (st' := [zi (0 : Int32), zr ((52, 11, 0) : zF)]) (h' := h2) rfl ?_
  refine zc_w e rfl hR2 (fun h3 hR3 e => ?_)
  cases e
  exact zwp.rv rfl ⟨⟨rfl, rfl⟩, hR3⟩
def s_X11_finish_L13 : Nat → Int32 → zH → Option (zH)
  | 0, _, _ => none
  | n + 1, l1, h => if l1 ≤ 0 then (zlt (zwI h 66 0 (zI h 52 32)) fun h1 => zlt (zwI h1 67 0 (zI h1 52 29)) fun h2 => (s_J9_min_7cf53 (9 : Int32) ((zI h2 52 34) + (1 : Int32)) h2).bind fun v3 => zlt (zwI h2 52 34 v3) fun h4 => zlt (zwI h4 52 33 ((zI h4 52 33) + (1 : Int32))) fun h5 => (s_X11_beginAnew h5).bind fun h6 => some h6) else (zix (l1 - (1 : Int32)) 9 fun i7 => zix l1 9 fun i12 => zlt (zwI h 66 i12 (zI h 66 i7)) fun h8 => zix (l1 - (1 : Int32)) 9 fun i9 => zix l1 9 fun i11 => zlt (zwI h8 67 i11 (zI h8 67 i9)) fun h10 => s_X11_finish_L13 n (l1 + (-1 : Int32)) h10)
set_option maxRecDepth 100000 in
theorem s_X11_finish_L13_ok (d : Nat) (ρ : Nat → Nat → Option zF) (hρ : zSh ρ) : ∀ (n : Nat) (l1 : Int32) (h : zH) (res : zH) (hR : zRq h ρ) (e : s_X11_finish_L13  n l1 h = some res), zwp (d + 1) zm_X11_finish 13 [some (zr ((52, 11, 0) : zF)), some (zi l1)] [] h (zQv ρ res) := by
  intro n
  induction n with
  | zero => intro l1 h res hR e; cases e
  | succ n ih =>
    intro l1 h res hR e
    rw [s_X11_finish_L13] at e
    refine zwp.go (m := 1) (j := 14) (ls' := [some (zr ((52, 11, 0) : zF)), some (zi l1)]) (st' := [zi l1]) (h' := h) rfl ?_
    refine zb_if (j := 37) (j2 := 15) e rfl (fun e => ?_) (fun e => ?_)
    · refine zwp.go (m := 1) (j := 38) (ls' := [some (zr ((52, 11, 0) : zF)), some (zi l1)]) (st' := [zr ((52, 11, 0) : zF)]) (h' := h) rfl ?_
      refine zc_sr (r := ((66, 20, 9) : zF)) (zrf (a := 52) (y := 26) hR rfl (hρ 52 26 rfl)) rfl ?_
      refine zwp.go (m := 3) (j := 42) (ls' := [some (zr ((52, 11, 0) : zF)), some (zi l1)]) (st' := [zi (zI h 52 32), zi (0 : Int32), zr ((66, 20, 9) : zF)]) (h' := h) rfl ?_
      refine zc_w e rfl hR (fun h1 hR1 e => ?_)
      refine zwp.go (m := 1) (j := 44) (ls' := [some (zr ((52, 11, 0) : zF)), some (zi l1)]) (st' := [zr ((52, 11, 0) : zF)]) (h' := h1) rfl ?_
      refine zc_sr (r := ((67, 20, 9) : zF)) (zrf (a := 52) (y := 27) hR1 rfl (hρ 52 27 rfl)) rfl ?_
      refine zwp.go (m := 3) (j := 48) (ls' := [some (zr ((52, 11, 0) : zF)), some (zi l1)]) (st' := [zi (zI h1 52 29), zi (0 : Int32), zr ((67, 20, 9) : zF)]) (h' := h1) rfl ?_
      refine zc_w e rfl hR1 (fun h2 hR2 e => ?_)
      refine zwp.go (m := 6) (j := 55) (ls' := [some (zr ((52, 11, 0) : zF)), some (zi l1)]) (st' := [zi ((zI h2 52 34) + (1 : Int32)), zi (9 : Int32), zr ((52, 11, 0) : zF)]) (h' := h2) rfl ?_
      refine zc_cp (d := d + 0) e (fun q e => s_J9_min_7cf53_ok (d + 0) ρ hρ (9 : Int32) ((zI h2 52 34) + (1 : Int32)) h2 q hR2 e) rfl rfl (fun v3 e => ?_)
      refine zc_w e rfl hR2 (fun h4 hR4 e => ?_)
      refine zwp.go (m := 5) (j := 62) (ls' := [some (zr ((52, 11, 0) : zF)), some (zi l1)]) (st' := [zi ((zI h4 52 33) + (1 : Int32)), zr ((52, 11, 0) : zF)]) (h' := h4) rfl ?_
      refine zc_w e rfl hR4 (fun h5 hR5 e => ?_)
      refine zwp.go (m := 1) (j := 64) (ls' := [some (zr ((52, 11, 0) : zF)), some (zi l1)]) (st' := [zr ((52, 11, 0) : zF)]) (h' := h5) rfl ?_
      refine zc_cv (d := d + 0) e (fun q e => s_X11_beginAnew_ok (d + 0) ρ hρ h5 q hR5 e) rfl rfl (fun h6 hR6 e => ?_)
      cases e
      exact zwp.rv rfl ⟨⟨rfl, rfl⟩, hR6⟩
    · refine zwp.go (m := 1) (j := 16) (ls' := [some (zr ((52, 11, 0) : zF)), some (zi l1)]) (st' := [zr ((52, 11, 0) : zF)]) (h' := h) rfl ?_
      refine zc_sr (r := ((66, 20, 9) : zF)) (zrf (a := 52) (y := 26) hR rfl (hρ 52 26 rfl)) rfl ?_
      refine zwp.go (m := 2) (j := 19) (ls' := [some (zr ((52, 11, 0) : zF)), some (zi l1)]) (st' := [zr ((52, 11, 0) : zF), zi l1, zr ((66, 20, 9) : zF)]) (h' := h) rfl ?_
      refine zc_sr (r := ((66, 20, 9) : zF)) (zrf (a := 52) (y := 26) hR rfl (hρ 52 26 rfl)) rfl ?_
      refine zwp.go (m := 3) (j := 23) (ls' := [some (zr ((52, 11, 0) : zF)), some (zi l1)]) (st' := [zi (l1 - (1 : Int32)), zr ((66, 20, 9) : zF), zi l1, zr ((66, 20, 9) : zF)]) (h' := h) rfl ?_
      refine zc_ai e (fun _ => rfl) (fun i7 e => ?_)
      refine zc_si e (fun _ => rfl) hR (fun h8 hR8 e => ?_)
      refine zwp.go (m := 1) (j := 26) (ls' := [some (zr ((52, 11, 0) : zF)), some (zi l1)]) (st' := [zr ((52, 11, 0) : zF)]) (h' := h8) rfl ?_
      refine zc_sr (r := ((67, 20, 9) : zF)) (zrf (a := 52) (y := 27) hR8 rfl (hρ 52 27 rfl)) rfl ?_
      refine zwp.go (m := 2) (j := 29) (ls' := [some (zr ((52, 11, 0) : zF)), some (zi l1)]) (st' := [zr ((52, 11, 0) : zF), zi l1, zr ((67, 20, 9) : zF)]) (h' := h8) rfl ?_
      refine zc_sr (r := ((67, 20, 9) : zF)) (zrf (a := 52) (y := 27) hR8 rfl (hρ 52 27 rfl)) rfl ?_
      refine zwp.go (m := 3) (j := 33) (ls' := [some (zr ((52, 11, 0) : zF)), some (zi l1)]) (st' := [zi (l1 - (1 : Int32)), zr ((67, 20, 9) : zF), zi l1, zr ((67, 20, 9) : zF)]) (h' := h8) rfl ?_
      refine zc_ai e (fun _ => rfl) (fun i9 e => ?_)
      refine zc_si e (fun _ => rfl) hR8 (fun h10 hR10 e => ?_)
      refine zwp.go (m := 2) (j := 13) (ls' := [some (zr ((52, 11, 0) : zF)), some (zi (l1 + (-1 : Int32)))]) (st' := []) (h' := h10) rfl ?_
      exact ih (l1 + (-1 : Int32)) h10 _ hR10 e
def s_X11_finish (h : zH) : Option (zH) := zlt (zwI h 52 39 (1 : Int32)) fun h1 => zlt (zwI h1 52 40 (zI h1 52 32)) fun h2 => zlt (zwI h2 52 41 (zI h2 52 30)) fun h3 => s_X11_finish_L13 zfu (8 : Int32) h3
set_option maxRecDepth 100000 in
theorem s_X11_finish_ok (d : Nat) (ρ : Nat → Nat → Option zF) (hρ : zSh ρ) (h : zH) (res : zH) (hR : zRq h ρ) (e : s_X11_finish  h = some res) : zcl (d + 1) 160 [zr ((52, 11, 0) : zF)] h (zQv ρ res) := by
  rw [s_X11_finish] at e
  refine ⟨zm_X11_finish, rfl, ?_⟩
  show zwp (d + 1) zm_X11_finish 0 [some (zr ((52, 11, 0) : zF)), none] [] h _
  refine zwp.go (m := 2) (j := 2) (ls' := [some (zr ((52, 11, 0) : zF)), none]) (st' := [zi (1 : Int32), zr ((52, 11, 0) : zF)]) (h' := h) rfl ?_
  refine zc_w e rfl hR (fun h1 hR1 e => ?_)
  refine zwp.go (m := 3) (j := 6) (ls' := [some (zr ((52, 11, 0) : zF)), none]) (st' := [zi (zI h1 52 32), zr ((52, 11, 0) : zF)]) (h' := h1) rfl ?_
  refine zc_w e rfl hR1 (fun h2 hR2 e => ?_)
  refine zwp.go (m := 3) (j := 10) (ls' := [some (zr ((52, 11, 0) : zF)), none]) (st' := [zi (zI h2 52 30), zr ((52, 11, 0) : zF)]) (h' := h2) rfl ?_
  refine zc_w e rfl hR2 (fun h3 hR3 e => ?_)
  refine zwp.go (m := 2) (j := 13) (ls' := [some (zr ((52, 11, 0) : zF)), some (zi (8 : Int32))]) (st' := []) (h' := h3) rfl ?_
  exact s_X11_finish_L13_ok d ρ hρ zfu (8 : Int32) h3 _ hR3 e
def s_X11_aDay_L5 : Nat → Int32 → zH → Option (zH)
  | 0, _, _ => none
  | n + 1, l1, h => if (zI h 56 0) ≤ l1 then ((s_X11_weave (0 : Int32) h).bind fun h1 => (s_X11_weave (1 : Int32) h1).bind fun h2 => if (zI h2 56 0) ≤ 0 then (zlt (zwI h2 52 29 ((zI h2 52 29) + (1 : Int32))) fun h3 => some h3) else ((s_X11_isAny h2).bind fun v4 => if ¬ v4 = 0 then (zlt (zwI h2 52 29 ((zI h2 52 29) + (1 : Int32))) fun h5 => some h5) else ((s_X11_finish h2).bind fun h6 => zlt (zwI h6 52 29 ((zI h6 52 29) + (1 : Int32))) fun h7 => some h7))) else ((s_X11_isGone l1 h).bind fun v8 => if ¬ v8 = 0 then (s_X11_aDay_L5 n (l1 + (1 : Int32)) h) else (zix l1 24 fun i9 => if ¬ (zI h 57 i9) = 0 then (s_X11_aDay_L5 n (l1 + (1 : Int32)) h) else (zix l1 12 fun i10 => zbd (s_X11_rotsOf l1 h) fun v12 h11 => (s_J9_max_7cf53 (0 : Int32) ((zI h 64 i10) - v12) h11).bind fun v13 => zix l1 12 fun i15 => zlt (zwI h11 64 i15 v13) fun h14 => s_X11_aDay_L5 n (l1 + (1 : Int32)) h14)))
set_option maxRecDepth 100000 in
theorem s_X11_aDay_L5_ok (d : Nat) (ρ : Nat → Nat → Option zF) (hρ : zSh ρ) : ∀ (n : Nat) (l1 : Int32) (h : zH) (res : zH) (hR : zRq h ρ) (e : s_X11_aDay_L5  n l1 h = some res), zwp (d + 4) zm_X11_aDay 5 [some (zr ((52, 11, 0) : zF)), some (zi l1)] [] h (zQv ρ res) := by
  intro n
  induction n with
  | zero => intro l1 h res hR e; cases e
  | succ n ih =>
    intro l1 h res hR e
    rw [s_X11_aDay_L5] at e
    refine zwp.go (m := 2) (j := 7) (ls' := [some (zr ((52, 11, 0) : zF)), some (zi l1)]) (st' := [zr ((52, 11, 0) : zF), zi l1]) (h' := h) rfl ?_
    refine zc_sr (r := ((56, 20, 12) : zF)) (zrf (a := 52) (y := 5) hR rfl (hρ 52 5 rfl)) rfl ?_
    refine zwp.go (m := 2) (j := 10) (ls' := [some (zr ((52, 11, 0) : zF)), some (zi l1)]) (st' := [zi (zI h 56 0), zi l1]) (h' := h) rfl ?_
    refine zb_if (j := 36) (j2 := 11) e rfl (fun e => ?_) (fun e => ?_)
    · refine zwp.go (m := 2) (j := 38) (ls' := [some (zr ((52, 11, 0) : zF)), some (zi l1)]) (st' := [zi (0 : Int32), zr ((52, 11, 0) : zF)]) (h' := h) rfl ?_
      refine zc_cv (d := d + 3) e (fun q e => s_X11_weave_ok (d + 0) ρ hρ (0 : Int32) h q hR e) rfl rfl (fun h1 hR1 e => ?_)
      refine zwp.go (m := 2) (j := 41) (ls' := [some (zr ((52, 11, 0) : zF)), some (zi l1)]) (st' := [zi (1 : Int32), zr ((52, 11, 0) : zF)]) (h' := h1) rfl ?_
      refine zc_cv (d := d + 3) e (fun q e => s_X11_weave_ok (d + 0) ρ hρ (1 : Int32) h1 q hR1 e) rfl rfl (fun h2 hR2 e => ?_)
      refine zwp.go (m := 1) (j := 43) (ls' := [some (zr ((52, 11, 0) : zF)), some (zi l1)]) (st' := [zr ((52, 11, 0) : zF)]) (h' := h2) rfl ?_
      refine zc_sr (r := ((56, 20, 12) : zF)) (zrf (a := 52) (y := 5) hR2 rfl (hρ 52 5 rfl)) rfl ?_
      refine zwp.go (m := 2) (j := 46) (ls' := [some (zr ((52, 11, 0) : zF)), some (zi l1)]) (st' := [zi (zI h2 56 0)]) (h' := h2) rfl ?_
      refine zb_if (j := 52) (j2 := 47) e rfl (fun e => ?_) (fun e => ?_)
      · refine zwp.go (m := 5) (j := 57) (ls' := [some (zr ((52, 11, 0) : zF)), some (zi l1)]) (st' := [zi ((zI h2 52 29) + (1 : Int32)), zr ((52, 11, 0) : zF)]) (h' := h2) rfl ?_
        refine zc_w e rfl hR2 (fun h3 hR3 e => ?_)
        cases e
        exact zwp.rv rfl ⟨⟨rfl, rfl⟩, hR3⟩
      · refine zwp.go (m := 1) (j := 48) (ls' := [some (zr ((52, 11, 0) : zF)), some (zi l1)]) (st' := [zr ((52, 11, 0) : zF)]) (h' := h2) rfl ?_
        refine zc_cp (d := d + 3) e (fun q e => s_X11_isAny_ok (d + 3) ρ hρ h2 q hR2 e) rfl rfl (fun v4 e => ?_)
        refine zb_if (j := 52) (j2 := 50) e rfl (fun e => ?_) (fun e => ?_)
        · refine zwp.go (m := 5) (j := 57) (ls' := [some (zr ((52, 11, 0) : zF)), some (zi l1)]) (st' := [zi ((zI h2 52 29) + (1 : Int32)), zr ((52, 11, 0) : zF)]) (h' := h2) rfl ?_
          refine zc_w e rfl hR2 (fun h5 hR5 e => ?_)
          cases e
          exact zwp.rv rfl ⟨⟨rfl, rfl⟩, hR5⟩
        · refine zwp.go (m := 1) (j := 51) (ls' := [some (zr ((52, 11, 0) : zF)), some (zi l1)]) (st' := [zr ((52, 11, 0) : zF)]) (h' := h2) rfl ?_
          refine zc_cv (d := d + 3) e (fun q e => s_X11_finish_ok (d + 2) ρ hρ h2 q hR2 e) rfl rfl (fun h6 hR6 e => ?_)
          refine zwp.go (m := 5) (j := 57) (ls' := [some (zr ((52, 11, 0) : zF)), some (zi l1)]) (st' := [zi ((zI h6 52 29) + (1 : Int32)), zr ((52, 11, 0) : zF)]) (h' := h6) rfl ?_
          refine zc_w e rfl hR6 (fun h7 hR7 e => ?_)
          cases e
          exact zwp.rv rfl ⟨⟨rfl, rfl⟩, hR7⟩
    · refine zwp.go (m := 2) (j := 13) (ls' := [some (zr ((52, 11, 0) : zF)), some (zi l1)]) (st' := [zi l1, zr ((52, 11, 0) : zF)]) (h' := h) rfl ?_
      refine zc_cp (d := d + 3) e (fun q e => s_X11_isGone_ok (d + 3) ρ hρ l1 h q hR e) rfl rfl (fun v8 e => ?_)
      refine zb_if (j := 34) (j2 := 15) e rfl (fun e => ?_) (fun e => ?_)
      · refine zwp.go (m := 2) (j := 5) (ls' := [some (zr ((52, 11, 0) : zF)), some (zi (l1 + (1 : Int32)))]) (st' := []) (h' := h) rfl ?_
        exact ih (l1 + (1 : Int32)) h _ hR e
      · refine zwp.go (m := 1) (j := 16) (ls' := [some (zr ((52, 11, 0) : zF)), some (zi l1)]) (st' := [zr ((52, 11, 0) : zF)]) (h' := h) rfl ?_
        refine zc_sr (r := ((57, 20, 24) : zF)) (zrf (a := 52) (y := 6) hR rfl (hρ 52 6 rfl)) rfl ?_
        refine zwp.go (m := 1) (j := 18) (ls' := [some (zr ((52, 11, 0) : zF)), some (zi l1)]) (st' := [zi l1, zr ((57, 20, 24) : zF)]) (h' := h) rfl ?_
        refine zc_ai e (fun _ => rfl) (fun i9 e => ?_)
        refine zb_if (j := 34) (j2 := 20) e rfl (fun e => ?_) (fun e => ?_)
        · refine zwp.go (m := 2) (j := 5) (ls' := [some (zr ((52, 11, 0) : zF)), some (zi (l1 + (1 : Int32)))]) (st' := []) (h' := h) rfl ?_
          exact ih (l1 + (1 : Int32)) h _ hR e
        · refine zwp.go (m := 1) (j := 21) (ls' := [some (zr ((52, 11, 0) : zF)), some (zi l1)]) (st' := [zr ((52, 11, 0) : zF)]) (h' := h) rfl ?_
          refine zc_sr (r := ((64, 20, 12) : zF)) (zrf (a := 52) (y := 24) hR rfl (hρ 52 24 rfl)) rfl ?_
          refine zwp.go (m := 3) (j := 25) (ls' := [some (zr ((52, 11, 0) : zF)), some (zi l1)]) (st' := [zr ((52, 11, 0) : zF), zi (0 : Int32), zi l1, zr ((64, 20, 12) : zF)]) (h' := h) rfl ?_
          refine zc_sr (r := ((64, 20, 12) : zF)) (zrf (a := 52) (y := 24) hR rfl (hρ 52 24 rfl)) rfl ?_
          refine zwp.go (m := 1) (j := 27) (ls' := [some (zr ((52, 11, 0) : zF)), some (zi l1)]) (st' := [zi l1, zr ((64, 20, 12) : zF), zi (0 : Int32), zi l1, zr ((64, 20, 12) : zF)]) (h' := h) rfl ?_
          refine zc_ai e (fun _ => rfl) (fun i10 e => ?_)
          refine zwp.go (m := 2) (j := 30) (ls' := [some (zr ((52, 11, 0) : zF)), some (zi l1)]) (st' := [zi l1, zr ((52, 11, 0) : zF), zi (zI h 64 i10), zi (0 : Int32), zi l1, zr ((64, 20, 12) : zF)]) (h' := h) rfl ?_
          refine zc_ci (d := d + 3) e (fun q e => s_X11_rotsOf_ok (d + 0) ρ hρ l1 h q hR e) rfl rfl (fun v12 h11 hR11 e => ?_)
          refine zwp.go (m := 1) (j := 32) (ls' := [some (zr ((52, 11, 0) : zF)), some (zi l1)]) (st' := [zi ((zI h 64 i10) - v12), zi (0 : Int32), zi l1, zr ((64, 20, 12) : zF)]) (h' := h11) rfl ?_
          refine zc_cp (d := d + 3) e (fun q e => s_J9_max_7cf53_ok (d + 3) ρ hρ (0 : Int32) ((zI h 64 i10) - v12) h11 q hR11 e) rfl rfl (fun v13 e => ?_)
          refine zc_si e (fun _ => rfl) hR11 (fun h14 hR14 e => ?_)
          refine zwp.go (m := 2) (j := 5) (ls' := [some (zr ((52, 11, 0) : zF)), some (zi (l1 + (1 : Int32)))]) (st' := []) (h' := h14) rfl ?_
          exact ih (l1 + (1 : Int32)) h14 _ hR14 e
def s_X11_aDay (h : zH) : Option (zH) := zlt (zwI h 52 39 (0 : Int32)) fun h1 => s_X11_aDay_L5 zfu (0 : Int32) h1
set_option maxRecDepth 100000 in
theorem s_X11_aDay_ok (d : Nat) (ρ : Nat → Nat → Option zF) (hρ : zSh ρ) (h : zH) (res : zH) (hR : zRq h ρ) (e : s_X11_aDay  h = some res) : zcl (d + 4) 161 [zr ((52, 11, 0) : zF)] h (zQv ρ res) := by
  rw [s_X11_aDay] at e
  refine ⟨zm_X11_aDay, rfl, ?_⟩
  show zwp (d + 4) zm_X11_aDay 0 [some (zr ((52, 11, 0) : zF)), none] [] h _
  refine zwp.go (m := 2) (j := 2) (ls' := [some (zr ((52, 11, 0) : zF)), none]) (st' := [zi (0 : Int32), zr ((52, 11, 0) : zF)]) (h' := h) rfl ?_
  refine zc_w e rfl hR (fun h1 hR1 e => ?_)
  refine zwp.go (m := 2) (j := 5) (ls' := [some (zr ((52, 11, 0) : zF)), some (zi (0 : Int32))]) (st' := []) (h' := h1) rfl ?_
  exact s_X11_aDay_L5_ok d ρ hρ zfu (0 : Int32) h1 _ hR1 e
def s_X11_goOn_L2 : Nat → Int32 → Int32 → zH → Option (zH)
  | 0, _, _, _ => none
  | n + 1, l1, l2, h => if l1 ≤ l2 then (some h) else ((s_X11_aDay h).bind fun h1 => s_X11_goOn_L2 n l1 (l2 + (1 : Int32)) h1)
set_option maxRecDepth 100000 in
theorem s_X11_goOn_L2_ok (d : Nat) (ρ : Nat → Nat → Option zF) (hρ : zSh ρ) : ∀ (n : Nat) (l1 : Int32) (l2 : Int32) (h : zH) (res : zH) (hR : zRq h ρ) (e : s_X11_goOn_L2  n l1 l2 h = some res), zwp (d + 5) zm_X11_goOn 2 [some (zr ((52, 11, 0) : zF)), some (zi l1), some (zi l2)] [] h (zQv ρ res) := by
  intro n
  induction n with
  | zero => intro l1 l2 h res hR e; cases e
  | succ n ih =>
    intro l1 l2 h res hR e
    rw [s_X11_goOn_L2] at e
    refine zwp.go (m := 2) (j := 4) (ls' := [some (zr ((52, 11, 0) : zF)), some (zi l1), some (zi l2)]) (st' := [zi l1, zi l2]) (h' := h) rfl ?_
    refine zb_if (j := 9) (j2 := 5) e rfl (fun e => ?_) (fun e => ?_)
    · cases e
      exact zwp.rv rfl ⟨⟨rfl, rfl⟩, hR⟩
    · refine zwp.go (m := 1) (j := 6) (ls' := [some (zr ((52, 11, 0) : zF)), some (zi l1), some (zi l2)]) (st' := [zr ((52, 11, 0) : zF)]) (h' := h) rfl ?_
      refine zc_cv (d := d + 4) e (fun q e => s_X11_aDay_ok (d + 0) ρ hρ h q hR e) rfl rfl (fun h1 hR1 e => ?_)
      refine zwp.go (m := 2) (j := 2) (ls' := [some (zr ((52, 11, 0) : zF)), some (zi l1), some (zi (l2 + (1 : Int32)))]) (st' := []) (h' := h1) rfl ?_
      exact ih l1 (l2 + (1 : Int32)) h1 _ hR1 e
def s_X11_goOn (a1 : Int32) (h : zH) : Option (zH) := s_X11_goOn_L2 zfu a1 (0 : Int32) h
set_option maxRecDepth 100000 in
theorem s_X11_goOn_ok (d : Nat) (ρ : Nat → Nat → Option zF) (hρ : zSh ρ) (a1 : Int32) (h : zH) (res : zH) (hR : zRq h ρ) (e : s_X11_goOn a1 h = some res) : zcl (d + 5) 162 [zr ((52, 11, 0) : zF), zi a1] h (zQv ρ res) := by
  rw [s_X11_goOn] at e
  refine ⟨zm_X11_goOn, rfl, ?_⟩
  show zwp (d + 5) zm_X11_goOn 0 [some (zr ((52, 11, 0) : zF)), some (zi a1), none] [] h _
  refine zwp.go (m := 2) (j := 2) (ls' := [some (zr ((52, 11, 0) : zF)), some (zi a1), some (zi (0 : Int32))]) (st' := []) (h' := h) rfl ?_
  exact s_X11_goOn_L2_ok d ρ hρ zfu a1 (0 : Int32) h _ hR e
def s_X11_days_J15 (h : zH) : Option (Int32 × zH) := zbd (s_X11_refuse (1 : Int32) h) fun v2 h1 => some (v2, h1)
set_option maxRecDepth 100000 in
theorem s_X11_days_J15_ok (d : Nat) (ρ : Nat → Nat → Option zF) (hρ : zSh ρ) (h : zH) (res : Int32 × zH) (hR : zRq h ρ) (e : s_X11_days_J15   h = some res) : zwp (d + 6) zm_X11_days 15 [some (zr ((52, 11, 0) : zF)), none] [] h (zQi ρ res) := by
  rw [s_X11_days_J15] at e
  refine zwp.go (m := 2) (j := 17) (ls' := [some (zr ((52, 11, 0) : zF)), none]) (st' := [zi (1 : Int32), zr ((52, 11, 0) : zF)]) (h' := h) rfl ?_
  refine zc_ci (d := d + 5) e (fun q e => s_X11_refuse_ok (d + 5) ρ hρ (1 : Int32) h q hR e) rfl rfl (fun v2 h1 hR1 e => ?_)
  cases e
  exact zwp.ret rfl rfl ⟨⟨rfl, rfl⟩, hR1⟩
def s_X11_days (a1 : Int32) (h : zH) : Option (Int32 × zH) := zlt (zwI h 52 4 (0 : Int32)) fun h1 => (s_X11_isIn a1.toInt64 (1 : Int64) (20 : Int64) h1).bind fun v2 => if v2 = 0 then (s_X11_days_J15 h1) else (if ((zI h1 52 29) + a1) ≤ (999 : Int32) then ((s_X11_keep h1).bind fun h3 => (s_X11_goOn a1 h3).bind fun h4 => some ((zI h4 52 29), h4)) else (s_X11_days_J15 h1))
set_option maxRecDepth 100000 in
theorem s_X11_days_ok (d : Nat) (ρ : Nat → Nat → Option zF) (hρ : zSh ρ) (a1 : Int32) (h : zH) (res : Int32 × zH) (hR : zRq h ρ) (e : s_X11_days a1 h = some res) : zcl (d + 6) 163 [zr ((52, 11, 0) : zF), zi a1] h (zQi ρ res) := by
  rw [s_X11_days] at e
  refine ⟨zm_X11_days, rfl, ?_⟩
  show zwp (d + 6) zm_X11_days 0 [some (zr ((52, 11, 0) : zF)), some (zi a1)] [] h _
  refine zwp.go (m := 2) (j := 2) (ls' := [some (zr ((52, 11, 0) : zF)), some (zi a1)]) (st' := [zi (0 : Int32), zr ((52, 11, 0) : zF)]) (h' := h) rfl ?_
  refine zc_w e rfl hR (fun h1 hR1 e => ?_)
  refine zwp.go (m := 4) (j := 7) (ls' := [some (zr ((52, 11, 0) : zF)), some (zi a1)]) (st' := [zl (20 : Int64), zl (1 : Int64), zl a1.toInt64]) (h' := h1) rfl ?_
  refine zc_cp (d := d + 5) e (fun q e => s_X11_isIn_ok (d + 5) ρ hρ a1.toInt64 (1 : Int64) (20 : Int64) h1 q hR1 e) rfl rfl (fun v2 e => ?_)
  refine zb_if (j := 15) (j2 := 9) e rfl (fun e => ?_) (fun e => ?_)
  · refine zwp.fg (a := [some (zr ((52, 11, 0) : zF)), none]) (And.intro rfl trivial) ?_
    exact s_X11_days_J15_ok d ρ hρ h1 _ hR1 e
  · refine zwp.go (m := 5) (j := 14) (ls' := [some (zr ((52, 11, 0) : zF)), some (zi a1)]) (st' := [zi (999 : Int32), zi ((zI h1 52 29) + a1)]) (h' := h1) rfl ?_
    refine zb_if (j := 19) (j2 := 15) e rfl (fun e => ?_) (fun e => ?_)
    · refine zwp.go (m := 1) (j := 20) (ls' := [some (zr ((52, 11, 0) : zF)), some (zi a1)]) (st' := [zr ((52, 11, 0) : zF)]) (h' := h1) rfl ?_
      refine zc_cv (d := d + 5) e (fun q e => s_X11_keep_ok (d + 4) ρ hρ h1 q hR1 e) rfl rfl (fun h3 hR3 e => ?_)
      refine zwp.go (m := 2) (j := 23) (ls' := [some (zr ((52, 11, 0) : zF)), some (zi a1)]) (st' := [zi a1, zr ((52, 11, 0) : zF)]) (h' := h3) rfl ?_
      refine zc_cv (d := d + 5) e (fun q e => s_X11_goOn_ok (d + 0) ρ hρ a1 h3 q hR3 e) rfl rfl (fun h4 hR4 e => ?_)
      refine zwp.go (m := 2) (j := 26) (ls' := [some (zr ((52, 11, 0) : zF)), some (zi a1)]) (st' := [zi (zI h4 52 29)]) (h' := h4) rfl ?_
      cases e
      exact zwp.ret rfl rfl ⟨⟨rfl, rfl⟩, hR4⟩
    · refine zwp.fg (a := [some (zr ((52, 11, 0) : zF)), none]) (And.intro rfl trivial) ?_
      exact s_X11_days_J15_ok d ρ hρ h1 _ hR1 e
def s_X10_sell (pp : Nat) (a1 : Int32) (h : zH) : Option ((Int32 ⊕ Nat) × zH) := zbx (s_X10_needRib pp a1 h) (fun _ h2 => zix a1 12 fun i3 => if ¬ (zI h2 20 i3) = 0 then ((s_X10_keepAct pp h2).bind fun h4 => zix a1 12 fun i6 => zlt (zwI h4 20 i6 (0 : Int32)) fun h5 => some (Sum.inl (zI h2 20 i3), h5)) else (zbd (s_X10_refuse pp (1 : Int32) h2) fun v8 h7 => some (Sum.inl v8, h7))) (fun x h1 => some (Sum.inr x, h1))
set_option maxRecDepth 100000 in
theorem s_X10_sell_ok (d : Nat) (ρ : Nat → Nat → Option zF) (hρ : zSh ρ) (pp : Nat) (a1 : Int32) (hpp : ρ 0 3 = some (pp, 3, 0) ∧ zPlS ρ pp) (h : zH) (res : (Int32 ⊕ Nat) × zH) (hR : zRq h ρ) (e : s_X10_sell pp a1 h = some res) : zcl (d + 3) 164 [zr ((0, 10, 0) : zF), zi a1] h (zQx ρ res) := by
  rw [s_X10_sell] at e
  refine ⟨zm_X10_sell, rfl, ?_⟩
  show zwp (d + 3) zm_X10_sell 0 [some (zr ((0, 10, 0) : zF)), some (zi a1), none] [] h _
  refine zwp.go (m := 2) (j := 2) (ls' := [some (zr ((0, 10, 0) : zF)), some (zi a1), none]) (st' := [zi a1, zr ((0, 10, 0) : zF)]) (h' := h) rfl ?_
  refine zc_cu (d := d + 2) e (fun q e => s_X10_needRib_ok (d + 2) ρ hρ pp a1 hpp h q hR e) rfl rfl (fun h2 hR2 e => ?_) (fun x h1 hR1 e => ?_)
  · refine zwp.go (m := 1) (j := 4) (ls' := [some (zr ((0, 10, 0) : zF)), some (zi a1), none]) (st' := [zr ((0, 10, 0) : zF)]) (h' := h2) rfl ?_
    refine zc_sr (r := ((18, 2, 0) : zF)) (zrf (a := 0) (y := 6) hR2 rfl (hρ 0 6 rfl)) rfl ?_
    refine zc_sr (r := ((19, 8, 0) : zF)) (zrf (a := 18) (y := 0) hR2 rfl (zSh_ld18 hρ).2.1) rfl ?_
    refine zc_sr (r := ((20, 20, 12) : zF)) (zrf (a := 19) (y := 0) hR2 rfl (zSh_st19 hρ).2.1) rfl ?_
    refine zwp.go (m := 1) (j := 8) (ls' := [some (zr ((0, 10, 0) : zF)), some (zi a1), none]) (st' := [zi a1, zr ((20, 20, 12) : zF)]) (h' := h2) rfl ?_
    refine zc_ai e (fun _ => rfl) (fun i3 e => ?_)
    refine zwp.go (m := 2) (j := 11) (ls' := [some (zr ((0, 10, 0) : zF)), some (zi a1), some (zi (zI h2 20 i3))]) (st' := [zi (zI h2 20 i3)]) (h' := h2) rfl ?_
    refine zb_if (j := 16) (j2 := 12) e rfl (fun e => ?_) (fun e => ?_)
    · refine zwp.go (m := 1) (j := 17) (ls' := [some (zr ((0, 10, 0) : zF)), some (zi a1), some (zi (zI h2 20 i3))]) (st' := [zr ((0, 10, 0) : zF)]) (h' := h2) rfl ?_
      refine zc_cv (d := d + 2) e (fun q e => s_X10_keepAct_ok (d + 0) ρ hρ pp hpp h2 q hR2 e) rfl rfl (fun h4 hR4 e => ?_)
      refine zwp.go (m := 1) (j := 19) (ls' := [some (zr ((0, 10, 0) : zF)), some (zi a1), some (zi (zI h2 20 i3))]) (st' := [zr ((0, 10, 0) : zF)]) (h' := h4) rfl ?_
      refine zc_sr (r := ((18, 2, 0) : zF)) (zrf (a := 0) (y := 6) hR4 rfl (hρ 0 6 rfl)) rfl ?_
      refine zc_sr (r := ((19, 8, 0) : zF)) (zrf (a := 18) (y := 0) hR4 rfl (zSh_ld18 hρ).2.1) rfl ?_
      refine zc_sr (r := ((20, 20, 12) : zF)) (zrf (a := 19) (y := 0) hR4 rfl (zSh_st19 hρ).2.1) rfl ?_
      refine zwp.go (m := 2) (j := 24) (ls' := [some (zr ((0, 10, 0) : zF)), some (zi a1), some (zi (zI h2 20 i3))]) (st' := [zi (0 : Int32), zi a1, zr ((20, 20, 12) : zF)]) (h' := h4) rfl ?_
      refine zc_si e (fun _ => rfl) hR4 (fun h5 hR5 e => ?_)
      refine zwp.go (m := 1) (j := 26) (ls' := [some (zr ((0, 10, 0) : zF)), some (zi a1), some (zi (zI h2 20 i3))]) (st' := [zi (zI h2 20 i3)]) (h' := h5) rfl ?_
      cases e
      exact zwp.ret rfl rfl ⟨⟨rfl, rfl⟩, hR5⟩
    · refine zwp.go (m := 2) (j := 14) (ls' := [some (zr ((0, 10, 0) : zF)), some (zi a1), some (zi (zI h2 20 i3))]) (st' := [zi (1 : Int32), zr ((0, 10, 0) : zF)]) (h' := h2) rfl ?_
      refine zc_ci (d := d + 2) e (fun q e => s_X10_refuse_ok (d + 2) ρ hρ pp (1 : Int32) hpp h2 q hR2 e) rfl rfl (fun v8 h7 hR7 e => ?_)
      cases e
      exact zwp.ret rfl rfl ⟨⟨rfl, rfl⟩, hR7⟩
  · cases e
    exact ⟨rfl, ⟨⟨rfl, rfl⟩, hR1⟩⟩
def s_L_sell (pp : Nat) (a1 : Int32) (a2 n2 : Nat) (h : zH) : Option (Int32 × zH) := zbx (s_X10_sell pp a1 h) (fun v3 h2 => zix (0 : Int32) n2 fun i5 => zlt (zwL h2 a2 i5 v3.toInt64) fun h4 => some ((0 : Int32), h4)) (fun x h1 => if x = 1 then (some ((1 : Int32), h1)) else none)
set_option maxRecDepth 100000 in
theorem s_L_sell_ok (d : Nat) (ρ : Nat → Nat → Option zF) (hρ : zSh ρ) (pp : Nat) (a1 : Int32) (a2 n2 : Nat) (hpp : ρ 0 3 = some (pp, 3, 0) ∧ zPlS ρ pp) (h : zH) (res : Int32 × zH) (hR : zRq h ρ) (e : s_L_sell pp a1 a2 n2 h = some res) : zcl (d + 4) 165 [zr ((0, 10, 0) : zF), zi a1, zr ((a2, 23, n2) : zF)] h (zQi ρ res) := by
  rw [s_L_sell] at e
  refine ⟨zm_L_sell, rfl, ?_⟩
  show zwp (d + 4) zm_L_sell 0 [some (zr ((0, 10, 0) : zF)), some (zi a1), some (zr ((a2, 23, n2) : zF)), none] [] h _
  refine zwp.go (m := 4) (j := 4) (ls' := [some (zr ((0, 10, 0) : zF)), some (zi a1), some (zr ((a2, 23, n2) : zF)), none]) (st' := [zi a1, zr ((0, 10, 0) : zF), zi (0 : Int32), zr ((a2, 23, n2) : zF)]) (h' := h) rfl ?_
  refine zc_cx (d := d + 3) e (fun q e => s_X10_sell_ok (d + 0) ρ hρ pp a1 hpp h q hR e) rfl rfl (fun v3 h2 hR2 e => ?_) (fun x h1 hR1 e => ?_)
  · refine zwp.go (m := 1) (j := 6) (ls' := [some (zr ((0, 10, 0) : zF)), some (zi a1), some (zr ((a2, 23, n2) : zF)), none]) (st' := [zl v3.toInt64, zi (0 : Int32), zr ((a2, 23, n2) : zF)]) (h' := h2) rfl ?_
    refine zc_sl e (fun _ => rfl) hR2 (fun h4 hR4 e => ?_)
    refine zwp.go (m := 2) (j := 12) (ls' := [some (zr ((0, 10, 0) : zF)), some (zi a1), some (zr ((a2, 23, n2) : zF)), none]) (st' := [zi (0 : Int32)]) (h' := h4) rfl ?_
    cases e
    exact zwp.ret rfl rfl ⟨⟨rfl, rfl⟩, hR4⟩
  · by_cases q1 : x = 1
    · subst q1
      replace e : (some ((1 : Int32), h1)) = some res := by simpa using e
      show zwp _ _ 9 [some (zr ((0, 10, 0) : zF)), some (zi a1), some (zr ((a2, 23, n2) : zF)), none] [] _ _
      refine zwp.go (m := 1) (j := 10) (ls' := [some (zr ((0, 10, 0) : zF)), some (zi a1), some (zr ((a2, 23, n2) : zF)), none]) (st' := [zi (1 : Int32)]) (h' := h1) rfl ?_
      cases e
      exact zwp.ret rfl rfl ⟨⟨rfl, rfl⟩, hR1⟩
    · skip
      simp [q1] at e
def s_X11_sell (a1 : Int32) (h : zH) : Option (Int32 × zH) := zlt (zwI h 52 4 (0 : Int32)) fun h1 => (s_X11_isRib a1 h1).bind fun v2 => if ¬ v2 = 0 then ((s_X11_isGone a1 h1).bind fun v3 => if v3 = 0 then ((s_X11_keep h1).bind fun h4 => zix a1 12 fun i5 => zix a1 12 fun i7 => zlt (zwI h4 64 i7 (0 : Int32)) fun h6 => some ((zI h4 64 i5), h6)) else (zbd (s_X11_refuse (1 : Int32) h1) fun v9 h8 => some (v9, h8))) else (zbd (s_X11_fail (1 : Int32) h1) fun v11 h10 => some (v11, h10))
set_option maxRecDepth 100000 in
theorem s_X11_sell_ok (d : Nat) (ρ : Nat → Nat → Option zF) (hρ : zSh ρ) (a1 : Int32) (h : zH) (res : Int32 × zH) (hR : zRq h ρ) (e : s_X11_sell a1 h = some res) : zcl (d + 2) 166 [zr ((52, 11, 0) : zF), zi a1] h (zQi ρ res) := by
  rw [s_X11_sell] at e
  refine ⟨zm_X11_sell, rfl, ?_⟩
  show zwp (d + 2) zm_X11_sell 0 [some (zr ((52, 11, 0) : zF)), some (zi a1), none] [] h _
  refine zwp.go (m := 2) (j := 2) (ls' := [some (zr ((52, 11, 0) : zF)), some (zi a1), none]) (st' := [zi (0 : Int32), zr ((52, 11, 0) : zF)]) (h' := h) rfl ?_
  refine zc_w e rfl hR (fun h1 hR1 e => ?_)
  refine zwp.go (m := 2) (j := 5) (ls' := [some (zr ((52, 11, 0) : zF)), some (zi a1), none]) (st' := [zi a1, zr ((52, 11, 0) : zF)]) (h' := h1) rfl ?_
  refine zc_cp (d := d + 1) e (fun q e => s_X11_isRib_ok (d + 0) ρ hρ a1 h1 q hR1 e) rfl rfl (fun v2 e => ?_)
  refine zb_if (j := 11) (j2 := 7) e rfl (fun e => ?_) (fun e => ?_)
  · refine zwp.go (m := 2) (j := 13) (ls' := [some (zr ((52, 11, 0) : zF)), some (zi a1), none]) (st' := [zi a1, zr ((52, 11, 0) : zF)]) (h' := h1) rfl ?_
    refine zc_cp (d := d + 1) e (fun q e => s_X11_isGone_ok (d + 1) ρ hρ a1 h1 q hR1 e) rfl rfl (fun v3 e => ?_)
    refine zb_if (j := 19) (j2 := 15) e rfl (fun e => ?_) (fun e => ?_)
    · refine zwp.go (m := 1) (j := 20) (ls' := [some (zr ((52, 11, 0) : zF)), some (zi a1), none]) (st' := [zr ((52, 11, 0) : zF)]) (h' := h1) rfl ?_
      refine zc_cv (d := d + 1) e (fun q e => s_X11_keep_ok (d + 0) ρ hρ h1 q hR1 e) rfl rfl (fun h4 hR4 e => ?_)
      refine zwp.go (m := 1) (j := 22) (ls' := [some (zr ((52, 11, 0) : zF)), some (zi a1), none]) (st' := [zr ((52, 11, 0) : zF)]) (h' := h4) rfl ?_
      refine zc_sr (r := ((64, 20, 12) : zF)) (zrf (a := 52) (y := 24) hR4 rfl (hρ 52 24 rfl)) rfl ?_
      refine zwp.go (m := 1) (j := 24) (ls' := [some (zr ((52, 11, 0) : zF)), some (zi a1), none]) (st' := [zi a1, zr ((64, 20, 12) : zF)]) (h' := h4) rfl ?_
      refine zc_ai e (fun _ => rfl) (fun i5 e => ?_)
      refine zwp.go (m := 2) (j := 27) (ls' := [some (zr ((52, 11, 0) : zF)), some (zi a1), some (zi (zI h4 64 i5))]) (st' := [zr ((52, 11, 0) : zF)]) (h' := h4) rfl ?_
      refine zc_sr (r := ((64, 20, 12) : zF)) (zrf (a := 52) (y := 24) hR4 rfl (hρ 52 24 rfl)) rfl ?_
      refine zwp.go (m := 2) (j := 30) (ls' := [some (zr ((52, 11, 0) : zF)), some (zi a1), some (zi (zI h4 64 i5))]) (st' := [zi (0 : Int32), zi a1, zr ((64, 20, 12) : zF)]) (h' := h4) rfl ?_
      refine zc_si e (fun _ => rfl) hR4 (fun h6 hR6 e => ?_)
      refine zwp.go (m := 1) (j := 32) (ls' := [some (zr ((52, 11, 0) : zF)), some (zi a1), some (zi (zI h4 64 i5))]) (st' := [zi (zI h4 64 i5)]) (h' := h6) rfl ?_
      cases e
      exact zwp.ret rfl rfl ⟨⟨rfl, rfl⟩, hR6⟩
    · refine zwp.go (m := 2) (j := 17) (ls' := [some (zr ((52, 11, 0) : zF)), some (zi a1), none]) (st' := [zi (1 : Int32), zr ((52, 11, 0) : zF)]) (h' := h1) rfl ?_
      refine zc_ci (d := d + 1) e (fun q e => s_X11_refuse_ok (d + 1) ρ hρ (1 : Int32) h1 q hR1 e) rfl rfl (fun v9 h8 hR8 e => ?_)
      cases e
      exact zwp.ret rfl rfl ⟨⟨rfl, rfl⟩, hR8⟩
  · refine zwp.go (m := 2) (j := 9) (ls' := [some (zr ((52, 11, 0) : zF)), some (zi a1), none]) (st' := [zi (1 : Int32), zr ((52, 11, 0) : zF)]) (h' := h1) rfl ?_
    refine zc_ci (d := d + 1) e (fun q e => s_X11_fail_ok (d + 1) ρ hρ (1 : Int32) h1 q hR1 e) rfl rfl (fun v11 h10 hR10 e => ?_)
    cases e
    exact zwp.ret rfl rfl ⟨⟨rfl, rfl⟩, hR10⟩
def s_X8_strengthen (a0 : Nat) (a1 : Int32) (a2 : Int32) (h : zH) : Option (zH) := zix a1 12 fun i1 => (s_J9_min_7cf53 (99 : Int32) ((zI h (a0 + 1) i1) + a2) h).bind fun v2 => zix a1 12 fun i4 => zlt (zwI h (a0 + 1) i4 v2) fun h3 => some h3
set_option maxRecDepth 100000 in
theorem s_X8_strengthen_ok (d : Nat) (ρ : Nat → Nat → Option zF) (hρ : zSh ρ) (a0 : Nat) (a1 : Int32) (a2 : Int32) (ha0 : zStS ρ a0) (h : zH) (res : zH) (hR : zRq h ρ) (e : s_X8_strengthen a0 a1 a2 h = some res) : zcl (d + 1) 167 [zr ((a0, 8, 0) : zF), zi a1, zi a2] h (zQv ρ res) := by
  rw [s_X8_strengthen] at e
  refine ⟨zm_X8_strengthen, rfl, ?_⟩
  show zwp (d + 1) zm_X8_strengthen 0 [some (zr ((a0, 8, 0) : zF)), some (zi a1), some (zi a2)] [] h _
  refine zwp.go (m := 1) (j := 1) (ls' := [some (zr ((a0, 8, 0) : zF)), some (zi a1), some (zi a2)]) (st' := [zr ((a0, 8, 0) : zF)]) (h' := h) rfl ?_
  refine zc_sr (r := (((a0 + 1), 20, 12) : zF)) (zrf (a := a0) (y := 0) hR rfl ha0.2.1) rfl ?_
  refine zwp.go (m := 3) (j := 5) (ls' := [some (zr ((a0, 8, 0) : zF)), some (zi a1), some (zi a2)]) (st' := [zr ((a0, 8, 0) : zF), zi (99 : Int32), zi a1, zr (((a0 + 1), 20, 12) : zF)]) (h' := h) rfl ?_
  refine zc_sr (r := (((a0 + 1), 20, 12) : zF)) (zrf (a := a0) (y := 0) hR rfl ha0.2.1) rfl ?_
  refine zwp.go (m := 1) (j := 7) (ls' := [some (zr ((a0, 8, 0) : zF)), some (zi a1), some (zi a2)]) (st' := [zi a1, zr (((a0 + 1), 20, 12) : zF), zi (99 : Int32), zi a1, zr (((a0 + 1), 20, 12) : zF)]) (h' := h) rfl ?_
  refine zc_ai e (fun _ => rfl) (fun i1 e => ?_)
  refine zwp.go (m := 2) (j := 10) (ls' := [some (zr ((a0, 8, 0) : zF)), some (zi a1), some (zi a2)]) (st' := [zi ((zI h (a0 + 1) i1) + a2), zi (99 : Int32), zi a1, zr (((a0 + 1), 20, 12) : zF)]) (h' := h) rfl ?_
  refine zc_cp (d := d + 0) e (fun q e => s_J9_min_7cf53_ok (d + 0) ρ hρ (99 : Int32) ((zI h (a0 + 1) i1) + a2) h q hR e) rfl rfl (fun v2 e => ?_)
  refine zc_si e (fun _ => rfl) hR (fun h3 hR3 e => ?_)
  cases e
  exact zwp.rv rfl ⟨⟨rfl, rfl⟩, hR3⟩
def s_X10_shore_J9 (pp : Nat) (h : zH) : Option ((Int32 ⊕ Nat) × zH) := zbd (s_X10_refuse pp (1 : Int32) h) fun v2 h1 => some (Sum.inl v2, h1)
set_option maxRecDepth 100000 in
theorem s_X10_shore_J9_ok (d : Nat) (ρ : Nat → Nat → Option zF) (hρ : zSh ρ) (pp : Nat) (hpp : ρ 0 3 = some (pp, 3, 0) ∧ zPlS ρ pp) (h : zH) (res : (Int32 ⊕ Nat) × zH) (hR : zRq h ρ) (e : s_X10_shore_J9 pp  h = some res) : zwp (d + 3) zm_X10_shore 9 [some (zr ((0, 10, 0) : zF)), none, none] [] h (zQx ρ res) := by
  rw [s_X10_shore_J9] at e
  refine zwp.go (m := 2) (j := 11) (ls' := [some (zr ((0, 10, 0) : zF)), none, none]) (st' := [zi (1 : Int32), zr ((0, 10, 0) : zF)]) (h' := h) rfl ?_
  refine zc_ci (d := d + 2) e (fun q e => s_X10_refuse_ok (d + 2) ρ hρ pp (1 : Int32) hpp h q hR e) rfl rfl (fun v2 h1 hR1 e => ?_)
  cases e
  exact zwp.ret rfl rfl ⟨⟨rfl, rfl⟩, hR1⟩
def s_X10_shore (pp : Nat) (a1 : Int32) (a2 : Int32) (h : zH) : Option ((Int32 ⊕ Nat) × zH) := zbx (s_X10_needRib pp a1 h) (fun _ h2 => if a2 < (1 : Int32) then (s_X10_shore_J9 pp h2) else (if a2 ≤ (30 : Int32) then ((s_X10_keepAct pp h2).bind fun h3 => (s_X8_strengthen 19 a1 a2 h3).bind fun h4 => zix a1 12 fun i5 => some (Sum.inl (zI h4 20 i5), h4)) else (s_X10_shore_J9 pp h2))) (fun x h1 => some (Sum.inr x, h1))
set_option maxRecDepth 100000 in
theorem s_X10_shore_ok (d : Nat) (ρ : Nat → Nat → Option zF) (hρ : zSh ρ) (pp : Nat) (a1 : Int32) (a2 : Int32) (hpp : ρ 0 3 = some (pp, 3, 0) ∧ zPlS ρ pp) (h : zH) (res : (Int32 ⊕ Nat) × zH) (hR : zRq h ρ) (e : s_X10_shore pp a1 a2 h = some res) : zcl (d + 3) 168 [zr ((0, 10, 0) : zF), zi a1, zi a2] h (zQx ρ res) := by
  rw [s_X10_shore] at e
  refine ⟨zm_X10_shore, rfl, ?_⟩
  show zwp (d + 3) zm_X10_shore 0 [some (zr ((0, 10, 0) : zF)), some (zi a1), some (zi a2)] [] h _
  refine zwp.go (m := 2) (j := 2) (ls' := [some (zr ((0, 10, 0) : zF)), some (zi a1), some (zi a2)]) (st' := [zi a1, zr ((0, 10, 0) : zF)]) (h' := h) rfl ?_
  refine zc_cu (d := d + 2) e (fun q e => s_X10_needRib_ok (d + 2) ρ hρ pp a1 hpp h q hR e) rfl rfl (fun h2 hR2 e => ?_) (fun x h1 hR1 e => ?_)
  · refine zwp.go (m := 2) (j := 5) (ls' := [some (zr ((0, 10, 0) : zF)), some (zi a1), some (zi a2)]) (st' := [zi (1 : Int32), zi a2]) (h' := h2) rfl ?_
    refine zb_if (j := 9) (j2 := 6) e rfl (fun e => ?_) (fun e => ?_)
    · refine zwp.fg (a := [some (zr ((0, 10, 0) : zF)), none, none]) (And.intro rfl trivial) ?_
      exact s_X10_shore_J9_ok d ρ hρ pp hpp h2 _ hR2 e
    · refine zwp.go (m := 2) (j := 8) (ls' := [some (zr ((0, 10, 0) : zF)), some (zi a1), some (zi a2)]) (st' := [zi (30 : Int32), zi a2]) (h' := h2) rfl ?_
      refine zb_if (j := 13) (j2 := 9) e rfl (fun e => ?_) (fun e => ?_)
      · refine zwp.go (m := 1) (j := 14) (ls' := [some (zr ((0, 10, 0) : zF)), some (zi a1), some (zi a2)]) (st' := [zr ((0, 10, 0) : zF)]) (h' := h2) rfl ?_
        refine zc_cv (d := d + 2) e (fun q e => s_X10_keepAct_ok (d + 0) ρ hρ pp hpp h2 q hR2 e) rfl rfl (fun h3 hR3 e => ?_)
        refine zwp.go (m := 1) (j := 16) (ls' := [some (zr ((0, 10, 0) : zF)), some (zi a1), some (zi a2)]) (st' := [zr ((0, 10, 0) : zF)]) (h' := h3) rfl ?_
        refine zc_sr (r := ((18, 2, 0) : zF)) (zrf (a := 0) (y := 6) hR3 rfl (hρ 0 6 rfl)) rfl ?_
        refine zc_sr (r := ((19, 8, 0) : zF)) (zrf (a := 18) (y := 0) hR3 rfl (zSh_ld18 hρ).2.1) rfl ?_
        refine zwp.go (m := 2) (j := 20) (ls' := [some (zr ((0, 10, 0) : zF)), some (zi a1), some (zi a2)]) (st' := [zi a2, zi a1, zr ((19, 8, 0) : zF)]) (h' := h3) rfl ?_
        refine zc_cv (d := d + 2) e (fun q e => s_X8_strengthen_ok (d + 1) ρ hρ 19 a1 a2 (zSh_st19 hρ) h3 q hR3 e) rfl rfl (fun h4 hR4 e => ?_)
        refine zwp.go (m := 1) (j := 22) (ls' := [some (zr ((0, 10, 0) : zF)), some (zi a1), some (zi a2)]) (st' := [zr ((0, 10, 0) : zF)]) (h' := h4) rfl ?_
        refine zc_sr (r := ((18, 2, 0) : zF)) (zrf (a := 0) (y := 6) hR4 rfl (hρ 0 6 rfl)) rfl ?_
        refine zc_sr (r := ((19, 8, 0) : zF)) (zrf (a := 18) (y := 0) hR4 rfl (zSh_ld18 hρ).2.1) rfl ?_
        refine zc_sr (r := ((20, 20, 12) : zF)) (zrf (a := 19) (y := 0) hR4 rfl (zSh_st19 hρ).2.1) rfl ?_
        refine zwp.go (m := 1) (j := 26) (ls' := [some (zr ((0, 10, 0) : zF)), some (zi a1), some (zi a2)]) (st' := [zi a1, zr ((20, 20, 12) : zF)]) (h' := h4) rfl ?_
        refine zc_ai e (fun _ => rfl) (fun i5 e => ?_)
        cases e
        exact zwp.ret rfl rfl ⟨⟨rfl, rfl⟩, hR4⟩
      · refine zwp.fg (a := [some (zr ((0, 10, 0) : zF)), none, none]) (And.intro rfl trivial) ?_
        exact s_X10_shore_J9_ok d ρ hρ pp hpp h2 _ hR2 e
  · cases e
    exact ⟨rfl, ⟨⟨rfl, rfl⟩, hR1⟩⟩
def s_L_shore (pp : Nat) (a1 : Int32) (a2 : Int32) (a3 n3 : Nat) (h : zH) : Option (Int32 × zH) := zbx (s_X10_shore pp a1 a2 h) (fun v3 h2 => zix (0 : Int32) n3 fun i5 => zlt (zwL h2 a3 i5 v3.toInt64) fun h4 => some ((0 : Int32), h4)) (fun x h1 => if x = 1 then (some ((1 : Int32), h1)) else none)
set_option maxRecDepth 100000 in
theorem s_L_shore_ok (d : Nat) (ρ : Nat → Nat → Option zF) (hρ : zSh ρ) (pp : Nat) (a1 : Int32) (a2 : Int32) (a3 n3 : Nat) (hpp : ρ 0 3 = some (pp, 3, 0) ∧ zPlS ρ pp) (h : zH) (res : Int32 × zH) (hR : zRq h ρ) (e : s_L_shore pp a1 a2 a3 n3 h = some res) : zcl (d + 4) 169 [zr ((0, 10, 0) : zF), zi a1, zi a2, zr ((a3, 23, n3) : zF)] h (zQi ρ res) := by
  rw [s_L_shore] at e
  refine ⟨zm_L_shore, rfl, ?_⟩
  show zwp (d + 4) zm_L_shore 0 [some (zr ((0, 10, 0) : zF)), some (zi a1), some (zi a2), some (zr ((a3, 23, n3) : zF)), none] [] h _
  refine zwp.go (m := 5) (j := 5) (ls' := [some (zr ((0, 10, 0) : zF)), some (zi a1), some (zi a2), some (zr ((a3, 23, n3) : zF)), none]) (st' := [zi a2, zi a1, zr ((0, 10, 0) : zF), zi (0 : Int32), zr ((a3, 23, n3) : zF)]) (h' := h) rfl ?_
  refine zc_cx (d := d + 3) e (fun q e => s_X10_shore_ok (d + 0) ρ hρ pp a1 a2 hpp h q hR e) rfl rfl (fun v3 h2 hR2 e => ?_) (fun x h1 hR1 e => ?_)
  · refine zwp.go (m := 1) (j := 7) (ls' := [some (zr ((0, 10, 0) : zF)), some (zi a1), some (zi a2), some (zr ((a3, 23, n3) : zF)), none]) (st' := [zl v3.toInt64, zi (0 : Int32), zr ((a3, 23, n3) : zF)]) (h' := h2) rfl ?_
    refine zc_sl e (fun _ => rfl) hR2 (fun h4 hR4 e => ?_)
    refine zwp.go (m := 2) (j := 13) (ls' := [some (zr ((0, 10, 0) : zF)), some (zi a1), some (zi a2), some (zr ((a3, 23, n3) : zF)), none]) (st' := [zi (0 : Int32)]) (h' := h4) rfl ?_
    cases e
    exact zwp.ret rfl rfl ⟨⟨rfl, rfl⟩, hR4⟩
  · by_cases q1 : x = 1
    · subst q1
      replace e : (some ((1 : Int32), h1)) = some res := by simpa using e
      show zwp _ _ 10 [some (zr ((0, 10, 0) : zF)), some (zi a1), some (zi a2), some (zr ((a3, 23, n3) : zF)), none] [] _ _
      refine zwp.go (m := 1) (j := 11) (ls' := [some (zr ((0, 10, 0) : zF)), some (zi a1), some (zi a2), some (zr ((a3, 23, n3) : zF)), none]) (st' := [zi (1 : Int32)]) (h' := h1) rfl ?_
      cases e
      exact zwp.ret rfl rfl ⟨⟨rfl, rfl⟩, hR1⟩
    · skip
      simp [q1] at e
def s_X11_shore (a1 : Int32) (a2 : Int32) (h : zH) : Option (Int32 × zH) := zlt (zwI h 52 4 (0 : Int32)) fun h1 => (s_X11_isRib a1 h1).bind fun v2 => if ¬ v2 = 0 then ((s_X11_isIn a2.toInt64 (1 : Int64) (30 : Int64) h1).bind fun v3 => if ¬ v3 = 0 then ((s_X11_keep h1).bind fun h4 => zix a1 12 fun i5 => (s_J9_min_7cf53 (99 : Int32) ((zI h4 64 i5) + a2) h4).bind fun v6 => zix a1 12 fun i9 => zlt (zwI h4 64 i9 v6) fun h7 => zix a1 12 fun i8 => some ((zI h7 64 i8), h7)) else (zbd (s_X11_refuse (1 : Int32) h1) fun v11 h10 => some (v11, h10))) else (zbd (s_X11_fail (1 : Int32) h1) fun v13 h12 => some (v13, h12))
set_option maxRecDepth 100000 in
theorem s_X11_shore_ok (d : Nat) (ρ : Nat → Nat → Option zF) (hρ : zSh ρ) (a1 : Int32) (a2 : Int32) (h : zH) (res : Int32 × zH) (hR : zRq h ρ) (e : s_X11_shore a1 a2 h = some res) : zcl (d + 2) 170 [zr ((52, 11, 0) : zF), zi a1, zi a2] h (zQi ρ res) := by
  rw [s_X11_shore] at e
  refine ⟨zm_X11_shore, rfl, ?_⟩
  show zwp (d + 2) zm_X11_shore 0 [some (zr ((52, 11, 0) : zF)), some (zi a1), some (zi a2)] [] h _
  refine zwp.go (m := 2) (j := 2) (ls' := [some (zr ((52, 11, 0) : zF)), some (zi a1), some (zi a2)]) (st' := [zi (0 : Int32), zr ((52, 11, 0) : zF)]) (h' := h) rfl ?_
  refine zc_w e rfl hR (fun h1 hR1 e => ?_)
  refine zwp.go (m := 2) (j := 5) (ls' := [some (zr ((52, 11, 0) : zF)), some (zi a1), some (zi a2)]) (st' := [zi a1, zr ((52, 11, 0) : zF)]) (h' := h1) rfl ?_
  refine zc_cp (d := d + 1) e (fun q e => s_X11_isRib_ok (d + 0) ρ hρ a1 h1 q hR1 e) rfl rfl (fun v2 e => ?_)
  refine zb_if (j := 11) (j2 := 7) e rfl (fun e => ?_) (fun e => ?_)
  · refine zwp.go (m := 4) (j := 15) (ls' := [some (zr ((52, 11, 0) : zF)), some (zi a1), some (zi a2)]) (st' := [zl (30 : Int64), zl (1 : Int64), zl a2.toInt64]) (h' := h1) rfl ?_
    refine zc_cp (d := d + 1) e (fun q e => s_X11_isIn_ok (d + 1) ρ hρ a2.toInt64 (1 : Int64) (30 : Int64) h1 q hR1 e) rfl rfl (fun v3 e => ?_)
    refine zb_if (j := 21) (j2 := 17) e rfl (fun e => ?_) (fun e => ?_)
    · refine zwp.go (m := 1) (j := 22) (ls' := [some (zr ((52, 11, 0) : zF)), some (zi a1), some (zi a2)]) (st' := [zr ((52, 11, 0) : zF)]) (h' := h1) rfl ?_
      refine zc_cv (d := d + 1) e (fun q e => s_X11_keep_ok (d + 0) ρ hρ h1 q hR1 e) rfl rfl (fun h4 hR4 e => ?_)
      refine zwp.go (m := 1) (j := 24) (ls' := [some (zr ((52, 11, 0) : zF)), some (zi a1), some (zi a2)]) (st' := [zr ((52, 11, 0) : zF)]) (h' := h4) rfl ?_
      refine zc_sr (r := ((64, 20, 12) : zF)) (zrf (a := 52) (y := 24) hR4 rfl (hρ 52 24 rfl)) rfl ?_
      refine zwp.go (m := 3) (j := 28) (ls' := [some (zr ((52, 11, 0) : zF)), some (zi a1), some (zi a2)]) (st' := [zr ((52, 11, 0) : zF), zi (99 : Int32), zi a1, zr ((64, 20, 12) : zF)]) (h' := h4) rfl ?_
      refine zc_sr (r := ((64, 20, 12) : zF)) (zrf (a := 52) (y := 24) hR4 rfl (hρ 52 24 rfl)) rfl ?_
      refine zwp.go (m := 1) (j := 30) (ls' := [some (zr ((52, 11, 0) : zF)), some (zi a1), some (zi a2)]) (st' := [zi a1, zr ((64, 20, 12) : zF), zi (99 : Int32), zi a1, zr ((64, 20, 12) : zF)]) (h' := h4) rfl ?_
      refine zc_ai e (fun _ => rfl) (fun i5 e => ?_)
      refine zwp.go (m := 2) (j := 33) (ls' := [some (zr ((52, 11, 0) : zF)), some (zi a1), some (zi a2)]) (st' := [zi ((zI h4 64 i5) + a2), zi (99 : Int32), zi a1, zr ((64, 20, 12) : zF)]) (h' := h4) rfl ?_
      refine zc_cp (d := d + 1) e (fun q e => s_J9_min_7cf53_ok (d + 1) ρ hρ (99 : Int32) ((zI h4 64 i5) + a2) h4 q hR4 e) rfl rfl (fun v6 e => ?_)
      refine zc_si e (fun _ => rfl) hR4 (fun h7 hR7 e => ?_)
      refine zwp.go (m := 1) (j := 36) (ls' := [some (zr ((52, 11, 0) : zF)), some (zi a1), some (zi a2)]) (st' := [zr ((52, 11, 0) : zF)]) (h' := h7) rfl ?_
      refine zc_sr (r := ((64, 20, 12) : zF)) (zrf (a := 52) (y := 24) hR7 rfl (hρ 52 24 rfl)) rfl ?_
      refine zwp.go (m := 1) (j := 38) (ls' := [some (zr ((52, 11, 0) : zF)), some (zi a1), some (zi a2)]) (st' := [zi a1, zr ((64, 20, 12) : zF)]) (h' := h7) rfl ?_
      refine zc_ai e (fun _ => rfl) (fun i8 e => ?_)
      cases e
      exact zwp.ret rfl rfl ⟨⟨rfl, rfl⟩, hR7⟩
    · refine zwp.go (m := 2) (j := 19) (ls' := [some (zr ((52, 11, 0) : zF)), some (zi a1), some (zi a2)]) (st' := [zi (1 : Int32), zr ((52, 11, 0) : zF)]) (h' := h1) rfl ?_
      refine zc_ci (d := d + 1) e (fun q e => s_X11_refuse_ok (d + 1) ρ hρ (1 : Int32) h1 q hR1 e) rfl rfl (fun v11 h10 hR10 e => ?_)
      cases e
      exact zwp.ret rfl rfl ⟨⟨rfl, rfl⟩, hR10⟩
  · refine zwp.go (m := 2) (j := 9) (ls' := [some (zr ((52, 11, 0) : zF)), some (zi a1), some (zi a2)]) (st' := [zi (1 : Int32), zr ((52, 11, 0) : zF)]) (h' := h1) rfl ?_
    refine zc_ci (d := d + 1) e (fun q e => s_X11_fail_ok (d + 1) ρ hρ (1 : Int32) h1 q hR1 e) rfl rfl (fun v13 h12 hR12 e => ?_)
    cases e
    exact zwp.ret rfl rfl ⟨⟨rfl, rfl⟩, hR12⟩
def s_X10_unpick (pp : Nat) (h : zH) : Option (Int32 × zH) := if ¬ ((zI h 22 0) + (zI h 22 1)) = 0 then ((s_X10_keepAct pp h).bind fun h1 => (s_X8_beginSail 19 h1).bind fun h2 => some (((zI h 22 0) + (zI h 22 1)), h2)) else (zbd (s_X10_refuse pp (1 : Int32) h) fun v4 h3 => some (v4, h3))
set_option maxRecDepth 100000 in
theorem s_X10_unpick_ok (d : Nat) (ρ : Nat → Nat → Option zF) (hρ : zSh ρ) (pp : Nat) (hpp : ρ 0 3 = some (pp, 3, 0) ∧ zPlS ρ pp) (h : zH) (res : Int32 × zH) (hR : zRq h ρ) (e : s_X10_unpick pp h = some res) : zcl (d + 3) 171 [zr ((0, 10, 0) : zF)] h (zQi ρ res) := by
  rw [s_X10_unpick] at e
  refine ⟨zm_X10_unpick, rfl, ?_⟩
  show zwp (d + 3) zm_X10_unpick 0 [some (zr ((0, 10, 0) : zF)), none] [] h _
  refine zwp.go (m := 1) (j := 1) (ls' := [some (zr ((0, 10, 0) : zF)), none]) (st' := [zr ((0, 10, 0) : zF)]) (h' := h) rfl ?_
  refine zc_sr (r := ((18, 2, 0) : zF)) (zrf (a := 0) (y := 6) hR rfl (hρ 0 6 rfl)) rfl ?_
  refine zc_sr (r := ((19, 8, 0) : zF)) (zrf (a := 18) (y := 0) hR rfl (zSh_ld18 hρ).2.1) rfl ?_
  refine zc_sr (r := ((22, 20, 2) : zF)) (zrf (a := 19) (y := 2) hR rfl (zSh_st19 hρ).2.2.2.1) rfl ?_
  refine zwp.go (m := 3) (j := 7) (ls' := [some (zr ((0, 10, 0) : zF)), none]) (st' := [zr ((0, 10, 0) : zF), zi (zI h 22 0)]) (h' := h) rfl ?_
  refine zc_sr (r := ((18, 2, 0) : zF)) (zrf (a := 0) (y := 6) hR rfl (hρ 0 6 rfl)) rfl ?_
  refine zc_sr (r := ((19, 8, 0) : zF)) (zrf (a := 18) (y := 0) hR rfl (zSh_ld18 hρ).2.1) rfl ?_
  refine zc_sr (r := ((22, 20, 2) : zF)) (zrf (a := 19) (y := 2) hR rfl (zSh_st19 hρ).2.2.2.1) rfl ?_
  refine zwp.go (m := 5) (j := 15) (ls' := [some (zr ((0, 10, 0) : zF)), some (zi ((zI h 22 0) + (zI h 22 1)))]) (st' := [zi ((zI h 22 0) + (zI h 22 1))]) (h' := h) rfl ?_
  refine zb_if (j := 20) (j2 := 16) e rfl (fun e => ?_) (fun e => ?_)
  · refine zwp.go (m := 1) (j := 21) (ls' := [some (zr ((0, 10, 0) : zF)), some (zi ((zI h 22 0) + (zI h 22 1)))]) (st' := [zr ((0, 10, 0) : zF)]) (h' := h) rfl ?_
    refine zc_cv (d := d + 2) e (fun q e => s_X10_keepAct_ok (d + 0) ρ hρ pp hpp h q hR e) rfl rfl (fun h1 hR1 e => ?_)
    refine zwp.go (m := 1) (j := 23) (ls' := [some (zr ((0, 10, 0) : zF)), some (zi ((zI h 22 0) + (zI h 22 1)))]) (st' := [zr ((0, 10, 0) : zF)]) (h' := h1) rfl ?_
    refine zc_sr (r := ((18, 2, 0) : zF)) (zrf (a := 0) (y := 6) hR1 rfl (hρ 0 6 rfl)) rfl ?_
    refine zc_sr (r := ((19, 8, 0) : zF)) (zrf (a := 18) (y := 0) hR1 rfl (zSh_ld18 hρ).2.1) rfl ?_
    refine zc_cv (d := d + 2) e (fun q e => s_X8_beginSail_ok (d + 2) ρ hρ 19 (zSh_st19 hρ) h1 q hR1 e) rfl rfl (fun h2 hR2 e => ?_)
    refine zwp.go (m := 1) (j := 27) (ls' := [some (zr ((0, 10, 0) : zF)), some (zi ((zI h 22 0) + (zI h 22 1)))]) (st' := [zi ((zI h 22 0) + (zI h 22 1))]) (h' := h2) rfl ?_
    cases e
    exact zwp.ret rfl rfl ⟨⟨rfl, rfl⟩, hR2⟩
  · refine zwp.go (m := 2) (j := 18) (ls' := [some (zr ((0, 10, 0) : zF)), some (zi ((zI h 22 0) + (zI h 22 1)))]) (st' := [zi (1 : Int32), zr ((0, 10, 0) : zF)]) (h' := h) rfl ?_
    refine zc_ci (d := d + 2) e (fun q e => s_X10_refuse_ok (d + 2) ρ hρ pp (1 : Int32) hpp h q hR e) rfl rfl (fun v4 h3 hR3 e => ?_)
    cases e
    exact zwp.ret rfl rfl ⟨⟨rfl, rfl⟩, hR3⟩
def s_X11_unpick (h : zH) : Option (Int32 × zH) := zlt (zwI h 52 4 (0 : Int32)) fun h1 => if ¬ ((zI h1 52 30) + (zI h1 52 31)) = 0 then ((s_X11_keep h1).bind fun h2 => (s_X11_beginAnew h2).bind fun h3 => some (((zI h1 52 30) + (zI h1 52 31)), h3)) else (zbd (s_X11_refuse (1 : Int32) h1) fun v5 h4 => some (v5, h4))
set_option maxRecDepth 100000 in
theorem s_X11_unpick_ok (d : Nat) (ρ : Nat → Nat → Option zF) (hρ : zSh ρ) (h : zH) (res : Int32 × zH) (hR : zRq h ρ) (e : s_X11_unpick  h = some res) : zcl (d + 2) 172 [zr ((52, 11, 0) : zF)] h (zQi ρ res) := by
  rw [s_X11_unpick] at e
  refine ⟨zm_X11_unpick, rfl, ?_⟩
  show zwp (d + 2) zm_X11_unpick 0 [some (zr ((52, 11, 0) : zF)), none] [] h _
  refine zwp.go (m := 2) (j := 2) (ls' := [some (zr ((52, 11, 0) : zF)), none]) (st' := [zi (0 : Int32), zr ((52, 11, 0) : zF)]) (h' := h) rfl ?_
  refine zc_w e rfl hR (fun h1 hR1 e => ?_)
  refine zwp.go (m := 7) (j := 10) (ls' := [some (zr ((52, 11, 0) : zF)), some (zi ((zI h1 52 30) + (zI h1 52 31)))]) (st' := [zi ((zI h1 52 30) + (zI h1 52 31))]) (h' := h1) rfl ?_
  refine zb_if (j := 15) (j2 := 11) e rfl (fun e => ?_) (fun e => ?_)
  · refine zwp.go (m := 1) (j := 16) (ls' := [some (zr ((52, 11, 0) : zF)), some (zi ((zI h1 52 30) + (zI h1 52 31)))]) (st' := [zr ((52, 11, 0) : zF)]) (h' := h1) rfl ?_
    refine zc_cv (d := d + 1) e (fun q e => s_X11_keep_ok (d + 0) ρ hρ h1 q hR1 e) rfl rfl (fun h2 hR2 e => ?_)
    refine zwp.go (m := 1) (j := 18) (ls' := [some (zr ((52, 11, 0) : zF)), some (zi ((zI h1 52 30) + (zI h1 52 31)))]) (st' := [zr ((52, 11, 0) : zF)]) (h' := h2) rfl ?_
    refine zc_cv (d := d + 1) e (fun q e => s_X11_beginAnew_ok (d + 1) ρ hρ h2 q hR2 e) rfl rfl (fun h3 hR3 e => ?_)
    refine zwp.go (m := 1) (j := 20) (ls' := [some (zr ((52, 11, 0) : zF)), some (zi ((zI h1 52 30) + (zI h1 52 31)))]) (st' := [zi ((zI h1 52 30) + (zI h1 52 31))]) (h' := h3) rfl ?_
    cases e
    exact zwp.ret rfl rfl ⟨⟨rfl, rfl⟩, hR3⟩
  · refine zwp.go (m := 2) (j := 13) (ls' := [some (zr ((52, 11, 0) : zF)), some (zi ((zI h1 52 30) + (zI h1 52 31)))]) (st' := [zi (1 : Int32), zr ((52, 11, 0) : zF)]) (h' := h1) rfl ?_
    refine zc_ci (d := d + 1) e (fun q e => s_X11_refuse_ok (d + 1) ρ hρ (1 : Int32) h1 q hR1 e) rfl rfl (fun v5 h4 hR4 e => ?_)
    cases e
    exact zwp.ret rfl rfl ⟨⟨rfl, rfl⟩, hR4⟩
def s_X10_teach_J18 (pp : Nat) (h : zH) : Option ((Int32 ⊕ Nat) × zH) := zbd (s_X10_refuse pp (1 : Int32) h) fun v2 h1 => some (Sum.inl v2, h1)
set_option maxRecDepth 100000 in
theorem s_X10_teach_J18_ok (d : Nat) (ρ : Nat → Nat → Option zF) (hρ : zSh ρ) (pp : Nat) (hpp : ρ 0 3 = some (pp, 3, 0) ∧ zPlS ρ pp) (h : zH) (res : (Int32 ⊕ Nat) × zH) (hR : zRq h ρ) (e : s_X10_teach_J18 pp  h = some res) : zwp (d + 3) zm_X10_teach 18 [some (zr ((0, 10, 0) : zF)), none, none, none] [] h (zQx ρ res) := by
  rw [s_X10_teach_J18] at e
  refine zwp.go (m := 2) (j := 20) (ls' := [some (zr ((0, 10, 0) : zF)), none, none, none]) (st' := [zi (1 : Int32), zr ((0, 10, 0) : zF)]) (h' := h) rfl ?_
  refine zc_ci (d := d + 2) e (fun q e => s_X10_refuse_ok (d + 2) ρ hρ pp (1 : Int32) hpp h q hR e) rfl rfl (fun v2 h1 hR1 e => ?_)
  cases e
  exact zwp.ret rfl rfl ⟨⟨rfl, rfl⟩, hR1⟩
def s_X10_teach (pp : Nat) (a1 : Int32) (a2 : Int32) (h : zH) : Option ((Int32 ⊕ Nat) × zH) := zbx (s_X10_needClan pp a1 h) (fun _ h2 => zix a1 2 fun i3 => if a2 < 0 then (s_X10_teach_J18 pp h2) else (if (9 : Int32) < a2 then (s_X10_teach_J18 pp h2) else (if ¬ a2 = (zI h2 21 i3) then ((s_X10_keepAct pp h2).bind fun h4 => zix a1 2 fun i6 => zlt (zwI h4 21 i6 a2) fun h5 => some (Sum.inl (zI h2 21 i3), h5)) else (s_X10_teach_J18 pp h2)))) (fun x h1 => some (Sum.inr x, h1))
set_option maxRecDepth 100000 in
theorem s_X10_teach_ok (d : Nat) (ρ : Nat → Nat → Option zF) (hρ : zSh ρ) (pp : Nat) (a1 : Int32) (a2 : Int32) (hpp : ρ 0 3 = some (pp, 3, 0) ∧ zPlS ρ pp) (h : zH) (res : (Int32 ⊕ Nat) × zH) (hR : zRq h ρ) (e : s_X10_teach pp a1 a2 h = some res) : zcl (d + 3) 173 [zr ((0, 10, 0) : zF), zi a1, zi a2] h (zQx ρ res) := by
  rw [s_X10_teach] at e
  refine ⟨zm_X10_teach, rfl, ?_⟩
  show zwp (d + 3) zm_X10_teach 0 [some (zr ((0, 10, 0) : zF)), some (zi a1), some (zi a2), none] [] h _
  refine zwp.go (m := 2) (j := 2) (ls' := [some (zr ((0, 10, 0) : zF)), some (zi a1), some (zi a2), none]) (st' := [zi a1, zr ((0, 10, 0) : zF)]) (h' := h) rfl ?_
  refine zc_cu (d := d + 2) e (fun q e => s_X10_needClan_ok (d + 2) ρ hρ pp a1 hpp h q hR e) rfl rfl (fun h2 hR2 e => ?_) (fun x h1 hR1 e => ?_)
  · refine zwp.go (m := 1) (j := 4) (ls' := [some (zr ((0, 10, 0) : zF)), some (zi a1), some (zi a2), none]) (st' := [zr ((0, 10, 0) : zF)]) (h' := h2) rfl ?_
    refine zc_sr (r := ((18, 2, 0) : zF)) (zrf (a := 0) (y := 6) hR2 rfl (hρ 0 6 rfl)) rfl ?_
    refine zc_sr (r := ((19, 8, 0) : zF)) (zrf (a := 18) (y := 0) hR2 rfl (zSh_ld18 hρ).2.1) rfl ?_
    refine zc_sr (r := ((21, 20, 2) : zF)) (zrf (a := 19) (y := 1) hR2 rfl (zSh_st19 hρ).2.2.1) rfl ?_
    refine zwp.go (m := 1) (j := 8) (ls' := [some (zr ((0, 10, 0) : zF)), some (zi a1), some (zi a2), none]) (st' := [zi a1, zr ((21, 20, 2) : zF)]) (h' := h2) rfl ?_
    refine zc_ai e (fun _ => rfl) (fun i3 e => ?_)
    refine zwp.go (m := 2) (j := 11) (ls' := [some (zr ((0, 10, 0) : zF)), some (zi a1), some (zi a2), some (zi (zI h2 21 i3))]) (st' := [zi a2]) (h' := h2) rfl ?_
    refine zb_if (j := 18) (j2 := 12) e rfl (fun e => ?_) (fun e => ?_)
    · refine zwp.fg (a := [some (zr ((0, 10, 0) : zF)), none, none, none]) (And.intro rfl trivial) ?_
      exact s_X10_teach_J18_ok d ρ hρ pp hpp h2 _ hR2 e
    · refine zwp.go (m := 2) (j := 14) (ls' := [some (zr ((0, 10, 0) : zF)), some (zi a1), some (zi a2), some (zi (zI h2 21 i3))]) (st' := [zi (9 : Int32), zi a2]) (h' := h2) rfl ?_
      refine zb_if (j := 18) (j2 := 15) e rfl (fun e => ?_) (fun e => ?_)
      · refine zwp.fg (a := [some (zr ((0, 10, 0) : zF)), none, none, none]) (And.intro rfl trivial) ?_
        exact s_X10_teach_J18_ok d ρ hρ pp hpp h2 _ hR2 e
      · refine zwp.go (m := 2) (j := 17) (ls' := [some (zr ((0, 10, 0) : zF)), some (zi a1), some (zi a2), some (zi (zI h2 21 i3))]) (st' := [zi (zI h2 21 i3), zi a2]) (h' := h2) rfl ?_
        refine zb_if (j := 22) (j2 := 18) e rfl (fun e => ?_) (fun e => ?_)
        · refine zwp.go (m := 1) (j := 23) (ls' := [some (zr ((0, 10, 0) : zF)), some (zi a1), some (zi a2), some (zi (zI h2 21 i3))]) (st' := [zr ((0, 10, 0) : zF)]) (h' := h2) rfl ?_
          refine zc_cv (d := d + 2) e (fun q e => s_X10_keepAct_ok (d + 0) ρ hρ pp hpp h2 q hR2 e) rfl rfl (fun h4 hR4 e => ?_)
          refine zwp.go (m := 1) (j := 25) (ls' := [some (zr ((0, 10, 0) : zF)), some (zi a1), some (zi a2), some (zi (zI h2 21 i3))]) (st' := [zr ((0, 10, 0) : zF)]) (h' := h4) rfl ?_
          refine zc_sr (r := ((18, 2, 0) : zF)) (zrf (a := 0) (y := 6) hR4 rfl (hρ 0 6 rfl)) rfl ?_
          refine zc_sr (r := ((19, 8, 0) : zF)) (zrf (a := 18) (y := 0) hR4 rfl (zSh_ld18 hρ).2.1) rfl ?_
          refine zc_sr (r := ((21, 20, 2) : zF)) (zrf (a := 19) (y := 1) hR4 rfl (zSh_st19 hρ).2.2.1) rfl ?_
          refine zwp.go (m := 2) (j := 30) (ls' := [some (zr ((0, 10, 0) : zF)), some (zi a1), some (zi a2), some (zi (zI h2 21 i3))]) (st' := [zi a2, zi a1, zr ((21, 20, 2) : zF)]) (h' := h4) rfl ?_
          refine zc_si e (fun _ => rfl) hR4 (fun h5 hR5 e => ?_)
          refine zwp.go (m := 1) (j := 32) (ls' := [some (zr ((0, 10, 0) : zF)), some (zi a1), some (zi a2), some (zi (zI h2 21 i3))]) (st' := [zi (zI h2 21 i3)]) (h' := h5) rfl ?_
          cases e
          exact zwp.ret rfl rfl ⟨⟨rfl, rfl⟩, hR5⟩
        · refine zwp.fg (a := [some (zr ((0, 10, 0) : zF)), none, none, none]) (And.intro rfl trivial) ?_
          exact s_X10_teach_J18_ok d ρ hρ pp hpp h2 _ hR2 e
  · cases e
    exact ⟨rfl, ⟨⟨rfl, rfl⟩, hR1⟩⟩
def s_L_teach (pp : Nat) (a1 : Int32) (a2 : Int32) (a3 n3 : Nat) (h : zH) : Option (Int32 × zH) := zbx (s_X10_teach pp a1 a2 h) (fun v3 h2 => zix (0 : Int32) n3 fun i5 => zlt (zwL h2 a3 i5 v3.toInt64) fun h4 => some ((0 : Int32), h4)) (fun x h1 => if x = 1 then (some ((1 : Int32), h1)) else none)
set_option maxRecDepth 100000 in
theorem s_L_teach_ok (d : Nat) (ρ : Nat → Nat → Option zF) (hρ : zSh ρ) (pp : Nat) (a1 : Int32) (a2 : Int32) (a3 n3 : Nat) (hpp : ρ 0 3 = some (pp, 3, 0) ∧ zPlS ρ pp) (h : zH) (res : Int32 × zH) (hR : zRq h ρ) (e : s_L_teach pp a1 a2 a3 n3 h = some res) : zcl (d + 4) 174 [zr ((0, 10, 0) : zF), zi a1, zi a2, zr ((a3, 23, n3) : zF)] h (zQi ρ res) := by
  rw [s_L_teach] at e
  refine ⟨zm_L_teach, rfl, ?_⟩
  show zwp (d + 4) zm_L_teach 0 [some (zr ((0, 10, 0) : zF)), some (zi a1), some (zi a2), some (zr ((a3, 23, n3) : zF)), none] [] h _
  refine zwp.go (m := 5) (j := 5) (ls' := [some (zr ((0, 10, 0) : zF)), some (zi a1), some (zi a2), some (zr ((a3, 23, n3) : zF)), none]) (st' := [zi a2, zi a1, zr ((0, 10, 0) : zF), zi (0 : Int32), zr ((a3, 23, n3) : zF)]) (h' := h) rfl ?_
  refine zc_cx (d := d + 3) e (fun q e => s_X10_teach_ok (d + 0) ρ hρ pp a1 a2 hpp h q hR e) rfl rfl (fun v3 h2 hR2 e => ?_) (fun x h1 hR1 e => ?_)
  · refine zwp.go (m := 1) (j := 7) (ls' := [some (zr ((0, 10, 0) : zF)), some (zi a1), some (zi a2), some (zr ((a3, 23, n3) : zF)), none]) (st' := [zl v3.toInt64, zi (0 : Int32), zr ((a3, 23, n3) : zF)]) (h' := h2) rfl ?_
    refine zc_sl e (fun _ => rfl) hR2 (fun h4 hR4 e => ?_)
    refine zwp.go (m := 2) (j := 13) (ls' := [some (zr ((0, 10, 0) : zF)), some (zi a1), some (zi a2), some (zr ((a3, 23, n3) : zF)), none]) (st' := [zi (0 : Int32)]) (h' := h4) rfl ?_
    cases e
    exact zwp.ret rfl rfl ⟨⟨rfl, rfl⟩, hR4⟩
  · by_cases q1 : x = 1
    · subst q1
      replace e : (some ((1 : Int32), h1)) = some res := by simpa using e
      show zwp _ _ 10 [some (zr ((0, 10, 0) : zF)), some (zi a1), some (zi a2), some (zr ((a3, 23, n3) : zF)), none] [] _ _
      refine zwp.go (m := 1) (j := 11) (ls' := [some (zr ((0, 10, 0) : zF)), some (zi a1), some (zi a2), some (zr ((a3, 23, n3) : zF)), none]) (st' := [zi (1 : Int32)]) (h' := h1) rfl ?_
      cases e
      exact zwp.ret rfl rfl ⟨⟨rfl, rfl⟩, hR1⟩
    · skip
      simp [q1] at e
def s_X11_teach_J27 (h : zH) : Option (Int32 × zH) := zbd (s_X11_refuse (1 : Int32) h) fun v2 h1 => some (v2, h1)
set_option maxRecDepth 100000 in
theorem s_X11_teach_J27_ok (d : Nat) (ρ : Nat → Nat → Option zF) (hρ : zSh ρ) (h : zH) (res : Int32 × zH) (hR : zRq h ρ) (e : s_X11_teach_J27   h = some res) : zwp (d + 2) zm_X11_teach 27 [some (zr ((52, 11, 0) : zF)), none, none, none] [] h (zQi ρ res) := by
  rw [s_X11_teach_J27] at e
  refine zwp.go (m := 2) (j := 29) (ls' := [some (zr ((52, 11, 0) : zF)), none, none, none]) (st' := [zi (1 : Int32), zr ((52, 11, 0) : zF)]) (h' := h) rfl ?_
  refine zc_ci (d := d + 1) e (fun q e => s_X11_refuse_ok (d + 1) ρ hρ (1 : Int32) h q hR e) rfl rfl (fun v2 h1 hR1 e => ?_)
  cases e
  exact zwp.ret rfl rfl ⟨⟨rfl, rfl⟩, hR1⟩
def s_X11_teach (a1 : Int32) (a2 : Int32) (h : zH) : Option (Int32 × zH) := zlt (zwI h 52 4 (0 : Int32)) fun h1 => (s_X11_isIn a1.toInt64 (0 : Int64) (1 : Int64) h1).bind fun v2 => if ¬ v2 = 0 then (zix a1 2 fun i3 => (s_X11_isIn a2.toInt64 (0 : Int64) (9 : Int64) h1).bind fun v4 => if v4 = 0 then (s_X11_teach_J27 h1) else (if ¬ a2 = (zI h1 65 i3) then ((s_X11_keep h1).bind fun h5 => zix a1 2 fun i7 => zlt (zwI h5 65 i7 a2) fun h6 => some ((zI h1 65 i3), h6)) else (s_X11_teach_J27 h1))) else (zbd (s_X11_fail (1 : Int32) h1) fun v9 h8 => some (v9, h8))
set_option maxRecDepth 100000 in
theorem s_X11_teach_ok (d : Nat) (ρ : Nat → Nat → Option zF) (hρ : zSh ρ) (a1 : Int32) (a2 : Int32) (h : zH) (res : Int32 × zH) (hR : zRq h ρ) (e : s_X11_teach a1 a2 h = some res) : zcl (d + 2) 175 [zr ((52, 11, 0) : zF), zi a1, zi a2] h (zQi ρ res) := by
  rw [s_X11_teach] at e
  refine ⟨zm_X11_teach, rfl, ?_⟩
  show zwp (d + 2) zm_X11_teach 0 [some (zr ((52, 11, 0) : zF)), some (zi a1), some (zi a2), none] [] h _
  refine zwp.go (m := 2) (j := 2) (ls' := [some (zr ((52, 11, 0) : zF)), some (zi a1), some (zi a2), none]) (st' := [zi (0 : Int32), zr ((52, 11, 0) : zF)]) (h' := h) rfl ?_
  refine zc_w e rfl hR (fun h1 hR1 e => ?_)
  refine zwp.go (m := 4) (j := 7) (ls' := [some (zr ((52, 11, 0) : zF)), some (zi a1), some (zi a2), none]) (st' := [zl (1 : Int64), zl (0 : Int64), zl a1.toInt64]) (h' := h1) rfl ?_
  refine zc_cp (d := d + 1) e (fun q e => s_X11_isIn_ok (d + 1) ρ hρ a1.toInt64 (0 : Int64) (1 : Int64) h1 q hR1 e) rfl rfl (fun v2 e => ?_)
  refine zb_if (j := 13) (j2 := 9) e rfl (fun e => ?_) (fun e => ?_)
  · refine zwp.go (m := 1) (j := 14) (ls' := [some (zr ((52, 11, 0) : zF)), some (zi a1), some (zi a2), none]) (st' := [zr ((52, 11, 0) : zF)]) (h' := h1) rfl ?_
    refine zc_sr (r := ((65, 20, 2) : zF)) (zrf (a := 52) (y := 25) hR1 rfl (hρ 52 25 rfl)) rfl ?_
    refine zwp.go (m := 1) (j := 16) (ls' := [some (zr ((52, 11, 0) : zF)), some (zi a1), some (zi a2), none]) (st' := [zi a1, zr ((65, 20, 2) : zF)]) (h' := h1) rfl ?_
    refine zc_ai e (fun _ => rfl) (fun i3 e => ?_)
    refine zwp.go (m := 5) (j := 22) (ls' := [some (zr ((52, 11, 0) : zF)), some (zi a1), some (zi a2), some (zi (zI h1 65 i3))]) (st' := [zl (9 : Int64), zl (0 : Int64), zl a2.toInt64]) (h' := h1) rfl ?_
    refine zc_cp (d := d + 1) e (fun q e => s_X11_isIn_ok (d + 1) ρ hρ a2.toInt64 (0 : Int64) (9 : Int64) h1 q hR1 e) rfl rfl (fun v4 e => ?_)
    refine zb_if (j := 27) (j2 := 24) e rfl (fun e => ?_) (fun e => ?_)
    · refine zwp.fg (a := [some (zr ((52, 11, 0) : zF)), none, none, none]) (And.intro rfl trivial) ?_
      exact s_X11_teach_J27_ok d ρ hρ h1 _ hR1 e
    · refine zwp.go (m := 2) (j := 26) (ls' := [some (zr ((52, 11, 0) : zF)), some (zi a1), some (zi a2), some (zi (zI h1 65 i3))]) (st' := [zi (zI h1 65 i3), zi a2]) (h' := h1) rfl ?_
      refine zb_if (j := 31) (j2 := 27) e rfl (fun e => ?_) (fun e => ?_)
      · refine zwp.go (m := 1) (j := 32) (ls' := [some (zr ((52, 11, 0) : zF)), some (zi a1), some (zi a2), some (zi (zI h1 65 i3))]) (st' := [zr ((52, 11, 0) : zF)]) (h' := h1) rfl ?_
        refine zc_cv (d := d + 1) e (fun q e => s_X11_keep_ok (d + 0) ρ hρ h1 q hR1 e) rfl rfl (fun h5 hR5 e => ?_)
        refine zwp.go (m := 1) (j := 34) (ls' := [some (zr ((52, 11, 0) : zF)), some (zi a1), some (zi a2), some (zi (zI h1 65 i3))]) (st' := [zr ((52, 11, 0) : zF)]) (h' := h5) rfl ?_
        refine zc_sr (r := ((65, 20, 2) : zF)) (zrf (a := 52) (y := 25) hR5 rfl (hρ 52 25 rfl)) rfl ?_
        refine zwp.go (m := 2) (j := 37) (ls' := [some (zr ((52, 11, 0) : zF)), some (zi a1), some (zi a2), some (zi (zI h1 65 i3))]) (st' := [zi a2, zi a1, zr ((65, 20, 2) : zF)]) (h' := h5) rfl ?_
        refine zc_si e (fun _ => rfl) hR5 (fun h6 hR6 e => ?_)
        refine zwp.go (m := 1) (j := 39) (ls' := [some (zr ((52, 11, 0) : zF)), some (zi a1), some (zi a2), some (zi (zI h1 65 i3))]) (st' := [zi (zI h1 65 i3)]) (h' := h6) rfl ?_
        cases e
        exact zwp.ret rfl rfl ⟨⟨rfl, rfl⟩, hR6⟩
      · refine zwp.fg (a := [some (zr ((52, 11, 0) : zF)), none, none, none]) (And.intro rfl trivial) ?_
        exact s_X11_teach_J27_ok d ρ hρ h1 _ hR1 e
  · refine zwp.go (m := 2) (j := 11) (ls' := [some (zr ((52, 11, 0) : zF)), some (zi a1), some (zi a2), none]) (st' := [zi (1 : Int32), zr ((52, 11, 0) : zF)]) (h' := h1) rfl ?_
    refine zc_ci (d := d + 1) e (fun q e => s_X11_fail_ok (d + 1) ρ hρ (1 : Int32) h1 q hR1 e) rfl rfl (fun v9 h8 hR8 e => ?_)
    cases e
    exact zwp.ret rfl rfl ⟨⟨rfl, rfl⟩, hR8⟩
def s_X8_unpack (a0 : Nat) (a1 n1 : Nat) (a2 : Int32) (h : zH) : Option (zH) := zcq a1 n1 a2 (a0 + 1) 12 (0 : Int32) (12 : Int32) h fun h1 => zcq a1 n1 (a2 + (12 : Int32)) (a0 + 4) 9 (0 : Int32) (9 : Int32) h1 fun h2 => zcq a1 n1 ((a2 + (12 : Int32)) + (9 : Int32)) (a0 + 5) 9 (0 : Int32) (9 : Int32) h2 fun h3 => zcq a1 n1 ((a2 + (12 : Int32)) + (18 : Int32)) (a0 + 2) 2 (0 : Int32) (2 : Int32) h3 fun h4 => zcq a1 n1 (((a2 + (12 : Int32)) + (18 : Int32)) + (2 : Int32)) (a0 + 3) 2 (0 : Int32) (2 : Int32) h4 fun h5 => zix (((a2 + (12 : Int32)) + (18 : Int32)) + (4 : Int32)) n1 fun i6 => zlt (zwI h5 a0 5 (zI h5 a1 i6)) fun h7 => zix (((a2 + (12 : Int32)) + (18 : Int32)) + (5 : Int32)) n1 fun i8 => zlt (zwI h7 a0 6 (zI h7 a1 i8)) fun h9 => zix (((a2 + (12 : Int32)) + (18 : Int32)) + (6 : Int32)) n1 fun i10 => zlt (zwI h9 a0 7 (zI h9 a1 i10)) fun h11 => zix (((a2 + (12 : Int32)) + (18 : Int32)) + (7 : Int32)) n1 fun i12 => zlt (zwI h11 a0 8 (zI h11 a1 i12)) fun h13 => some h13
set_option maxRecDepth 100000 in
theorem s_X8_unpack_ok (d : Nat) (ρ : Nat → Nat → Option zF) (hρ : zSh ρ) (a0 : Nat) (a1 n1 : Nat) (a2 : Int32) (ha0 : zStS ρ a0) (h : zH) (res : zH) (hR : zRq h ρ) (e : s_X8_unpack a0 a1 n1 a2 h = some res) : zcl d 176 [zr ((a0, 8, 0) : zF), zr ((a1, 20, n1) : zF), zi a2] h (zQv ρ res) := by
  rw [s_X8_unpack] at e
  refine ⟨zm_X8_unpack, rfl, ?_⟩
  show zwp d zm_X8_unpack 0 [some (zr ((a0, 8, 0) : zF)), some (zr ((a1, 20, n1) : zF)), some (zi a2), none] [] h _
  refine zwp.go (m := 3) (j := 3) (ls' := [some (zr ((a0, 8, 0) : zF)), some (zr ((a1, 20, n1) : zF)), some (zi a2), none]) (st' := [zr ((a0, 8, 0) : zF), zi a2, zr ((a1, 20, n1) : zF)]) (h' := h) rfl ?_
  refine zc_sr (r := (((a0 + 1), 20, 12) : zF)) (zrf (a := a0) (y := 0) hR rfl ha0.2.1) rfl ?_
  refine zwp.go (m := 2) (j := 6) (ls' := [some (zr ((a0, 8, 0) : zF)), some (zr ((a1, 20, n1) : zF)), some (zi a2), none]) (st' := [zi (12 : Int32), zi (0 : Int32), zr (((a0 + 1), 20, 12) : zF), zi a2, zr ((a1, 20, n1) : zF)]) (h' := h) rfl ?_
  refine zc_cq e rfl rfl hR (fun h1 hR1 e => ?_)
  refine zwp.go (m := 5) (j := 12) (ls' := [some (zr ((a0, 8, 0) : zF)), some (zr ((a1, 20, n1) : zF)), some (zi a2), none]) (st' := [zr ((a0, 8, 0) : zF), zi (a2 + (12 : Int32)), zr ((a1, 20, n1) : zF)]) (h' := h1) rfl ?_
  refine zc_sr (r := (((a0 + 4), 20, 9) : zF)) (zrf (a := a0) (y := 3) hR1 (zmu3 ha0.1) ha0.2.2.2.2.1) rfl ?_
  refine zwp.go (m := 2) (j := 15) (ls' := [some (zr ((a0, 8, 0) : zF)), some (zr ((a1, 20, n1) : zF)), some (zi a2), none]) (st' := [zi (9 : Int32), zi (0 : Int32), zr (((a0 + 4), 20, 9) : zF), zi (a2 + (12 : Int32)), zr ((a1, 20, n1) : zF)]) (h' := h1) rfl ?_
  refine zc_cq e rfl rfl hR1 (fun h2 hR2 e => ?_)
  refine zwp.go (m := 7) (j := 23) (ls' := [some (zr ((a0, 8, 0) : zF)), some (zr ((a1, 20, n1) : zF)), some (zi a2), none]) (st' := [zr ((a0, 8, 0) : zF), zi ((a2 + (12 : Int32)) + (9 : Int32)), zr ((a1, 20, n1) : zF)]) (h' := h2) rfl ?_
  refine zc_sr (r := (((a0 + 5), 20, 9) : zF)) (zrf (a := a0) (y := 4) hR2 rfl ha0.2.2.2.2.2) rfl ?_
  refine zwp.go (m := 2) (j := 26) (ls' := [some (zr ((a0, 8, 0) : zF)), some (zr ((a1, 20, n1) : zF)), some (zi a2), none]) (st' := [zi (9 : Int32), zi (0 : Int32), zr (((a0 + 5), 20, 9) : zF), zi ((a2 + (12 : Int32)) + (9 : Int32)), zr ((a1, 20, n1) : zF)]) (h' := h2) rfl ?_
  refine zc_cq e rfl rfl hR2 (fun h3 hR3 e => ?_)
  refine zwp.go (m := 9) (j := 36) (ls' := [some (zr ((a0, 8, 0) : zF)), some (zr ((a1, 20, n1) : zF)), some (zi a2), some (zi ((a2 + (12 : Int32)) + (18 : Int32)))]) (st' := [zr ((a0, 8, 0) : zF), zi ((a2 + (12 : Int32)) + (18 : Int32)), zr ((a1, 20, n1) : zF)]) (h' := h3) rfl ?_
  refine zc_sr (r := (((a0 + 2), 20, 2) : zF)) (zrf (a := a0) (y := 1) hR3 rfl ha0.2.2.1) rfl ?_
  refine zwp.go (m := 2) (j := 39) (ls' := [some (zr ((a0, 8, 0) : zF)), some (zr ((a1, 20, n1) : zF)), some (zi a2), some (zi ((a2 + (12 : Int32)) + (18 : Int32)))]) (st' := [zi (2 : Int32), zi (0 : Int32), zr (((a0 + 2), 20, 2) : zF), zi ((a2 + (12 : Int32)) + (18 : Int32)), zr ((a1, 20, n1) : zF)]) (h' := h3) rfl ?_
  refine zc_cq e rfl rfl hR3 (fun h4 hR4 e => ?_)
  refine zwp.go (m := 5) (j := 45) (ls' := [some (zr ((a0, 8, 0) : zF)), some (zr ((a1, 20, n1) : zF)), some (zi a2), some (zi ((a2 + (12 : Int32)) + (18 : Int32)))]) (st' := [zr ((a0, 8, 0) : zF), zi (((a2 + (12 : Int32)) + (18 : Int32)) + (2 : Int32)), zr ((a1, 20, n1) : zF)]) (h' := h4) rfl ?_
  refine zc_sr (r := (((a0 + 3), 20, 2) : zF)) (zrf (a := a0) (y := 2) hR4 rfl ha0.2.2.2.1) rfl ?_
  refine zwp.go (m := 2) (j := 48) (ls' := [some (zr ((a0, 8, 0) : zF)), some (zr ((a1, 20, n1) : zF)), some (zi a2), some (zi ((a2 + (12 : Int32)) + (18 : Int32)))]) (st' := [zi (2 : Int32), zi (0 : Int32), zr (((a0 + 3), 20, 2) : zF), zi (((a2 + (12 : Int32)) + (18 : Int32)) + (2 : Int32)), zr ((a1, 20, n1) : zF)]) (h' := h4) rfl ?_
  refine zc_cq e rfl rfl hR4 (fun h5 hR5 e => ?_)
  refine zwp.go (m := 5) (j := 54) (ls' := [some (zr ((a0, 8, 0) : zF)), some (zr ((a1, 20, n1) : zF)), some (zi a2), some (zi ((a2 + (12 : Int32)) + (18 : Int32)))]) (st' := [zi (((a2 + (12 : Int32)) + (18 : Int32)) + (4 : Int32)), zr ((a1, 20, n1) : zF), zr ((a0, 8, 0) : zF)]) (h' := h5) rfl ?_
  refine zc_ai e (fun _ => rfl) (fun i6 e => ?_)
  refine zc_w e rfl hR5 (fun h7 hR7 e => ?_)
  refine zwp.go (m := 5) (j := 61) (ls' := [some (zr ((a0, 8, 0) : zF)), some (zr ((a1, 20, n1) : zF)), some (zi a2), some (zi ((a2 + (12 : Int32)) + (18 : Int32)))]) (st' := [zi (((a2 + (12 : Int32)) + (18 : Int32)) + (5 : Int32)), zr ((a1, 20, n1) : zF), zr ((a0, 8, 0) : zF)]) (h' := h7) rfl ?_
  refine zc_ai e (fun _ => rfl) (fun i8 e => ?_)
  refine zc_w e rfl hR7 (fun h9 hR9 e => ?_)
  refine zwp.go (m := 5) (j := 68) (ls' := [some (zr ((a0, 8, 0) : zF)), some (zr ((a1, 20, n1) : zF)), some (zi a2), some (zi ((a2 + (12 : Int32)) + (18 : Int32)))]) (st' := [zi (((a2 + (12 : Int32)) + (18 : Int32)) + (6 : Int32)), zr ((a1, 20, n1) : zF), zr ((a0, 8, 0) : zF)]) (h' := h9) rfl ?_
  refine zc_ai e (fun _ => rfl) (fun i10 e => ?_)
  refine zc_w e rfl hR9 (fun h11 hR11 e => ?_)
  refine zwp.go (m := 5) (j := 75) (ls' := [some (zr ((a0, 8, 0) : zF)), some (zr ((a1, 20, n1) : zF)), some (zi a2), some (zi ((a2 + (12 : Int32)) + (18 : Int32)))]) (st' := [zi (((a2 + (12 : Int32)) + (18 : Int32)) + (7 : Int32)), zr ((a1, 20, n1) : zF), zr ((a0, 8, 0) : zF)]) (h' := h11) rfl ?_
  refine zc_ai e (fun _ => rfl) (fun i12 e => ?_)
  refine zc_w e rfl hR11 (fun h13 hR13 e => ?_)
  cases e
  exact zwp.rv rfl ⟨⟨rfl, rfl⟩, hR13⟩
