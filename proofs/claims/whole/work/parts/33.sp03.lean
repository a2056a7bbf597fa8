/-! ===== methods as functions, 3 ===== -/
def s_X11_loom_J9 (h : zH) : Option (Int32 × zH) := zbd (s_X11_fail (1 : Int32) h) fun v2 h1 => some (v2, h1)
theorem s_X11_loom_J9_ok (d : Nat) (ρ : Nat → Nat → Option zF) (hρ : zSh ρ) (h : zH) (res : Int32 × zH) (hR : zRq h ρ) (e : s_X11_loom_J9   h = some res) : zwp (d + 102) zm_X11_loom 9 [some (zr ((52, 11, 0) : zF)), none, none] [] h (zQi ρ res) := by
  rw [s_X11_loom_J9] at e
  refine zwp.go (m := 2) (j := 11) (ls' := [some (zr ((52, 11, 0) : zF)), none, none]) (st' := [zi (1 : Int32), zr ((52, 11, 0) : zF)]) (h' := h) rfl ?_
  refine zc_ci (d := d + 101) e (fun q e => s_X11_fail_ok (d + 101) ρ hρ (1 : Int32) h q hR e) rfl rfl (fun v2 h1 hR1 e => ?_)
  cases e
  exact zwp.ret rfl rfl ⟨⟨rfl, rfl⟩, hR1⟩
def s_X11_loom_J65 (h : zH) : Option (Int32 × zH) := if (zI h 52 20) = 0 then ((s_X11_takeOver h).bind fun h1 => some ((0 : Int32), h1)) else (zlt (zwI h 52 22 (zI h 52 21)) fun h2 => zlt (zwI h2 62 0 ((zI h2 62 0) + (1 : Int32))) fun h3 => some ((zI h3 52 20), h3))
theorem s_X11_loom_J65_ok (d : Nat) (ρ : Nat → Nat → Option zF) (hρ : zSh ρ) (h : zH) (res : Int32 × zH) (hR : zRq h ρ) (e : s_X11_loom_J65   h = some res) : zwp (d + 102) zm_X11_loom 65 [some (zr ((52, 11, 0) : zF)), none, none] [] h (zQi ρ res) := by
  rw [s_X11_loom_J65] at e
  refine zwp.go (m := 2) (j := 67) (ls' := [some (zr ((52, 11, 0) : zF)), none, none]) (st' := [zi (zI h 52 20)]) (h' := h) rfl ?_
  refine zb_if (j := 83) (j2 := 68) e rfl (fun e => ?_) (fun e => ?_)
  · refine zwp.go (m := 1) (j := 84) (ls' := [some (zr ((52, 11, 0) : zF)), none, none]) (st' := [zr ((52, 11, 0) : zF)]) (h' := h) rfl ?_
    refine zc_cv (d := d + 101) e (fun q e => s_X11_takeOver_ok (d + 100) ρ hρ h q hR e) rfl rfl (fun h1 hR1 e => ?_)
    refine zwp.go (m := 1) (j := 86) (ls' := [some (zr ((52, 11, 0) : zF)), none, none]) (st' := [zi (0 : Int32)]) (h' := h1) rfl ?_
    cases e
    exact zwp.ret rfl rfl ⟨⟨rfl, rfl⟩, hR1⟩
  · refine zwp.go (m := 3) (j := 71) (ls' := [some (zr ((52, 11, 0) : zF)), none, none]) (st' := [zi (zI h 52 21), zr ((52, 11, 0) : zF)]) (h' := h) rfl ?_
    refine zc_w e rfl hR (fun h2 hR2 e => ?_)
    refine zwp.go (m := 1) (j := 73) (ls' := [some (zr ((52, 11, 0) : zF)), none, none]) (st' := [zr ((52, 11, 0) : zF)]) (h' := h2) rfl ?_
    refine zc_sr (r := ((62, 20, 3) : zF)) (zrf (a := 52) (y := 11) hR2 rfl (hρ 52 11 rfl)) rfl ?_
    refine zwp.go (m := 5) (j := 79) (ls' := [some (zr ((52, 11, 0) : zF)), none, none]) (st' := [zi ((zI h2 62 0) + (1 : Int32)), zi (0 : Int32), zr ((62, 20, 3) : zF)]) (h' := h2) rfl ?_
    refine zc_w e rfl hR2 (fun h3 hR3 e => ?_)
    refine zwp.go (m := 2) (j := 82) (ls' := [some (zr ((52, 11, 0) : zF)), none, none]) (st' := [zi (zI h3 52 20)]) (h' := h3) rfl ?_
    cases e
    exact zwp.ret rfl rfl ⟨⟨rfl, rfl⟩, hR3⟩
def s_X11_loom_L54 : Nat → Int32 → zH → Option (Int32 × zH)
  | 0, _, _ => none
  | n + 1, l2, h => if ¬ (zI h 52 20) = 0 then (s_X11_loom_J65 h) else (if (zI h 52 16) = 0 then (s_X11_loom_J65 h) else (zbd (s_X11_readLine l2 h) fun v2 h1 => s_X11_loom_L54 n v2 h1))
theorem s_X11_loom_L54_ok (d : Nat) (ρ : Nat → Nat → Option zF) (hρ : zSh ρ) : ∀ (n : Nat) (l2 : Int32) (h : zH) (res : Int32 × zH) (hR : zRq h ρ) (e : s_X11_loom_L54  n l2 h = some res), zwp (d + 102) zm_X11_loom 54 [some (zr ((52, 11, 0) : zF)), none, some (zi l2)] [] h (zQi ρ res) := by
  intro n
  induction n with
  | zero => intro l2 h res hR e; cases e
  | succ n ih =>
    intro l2 h res hR e
    rw [s_X11_loom_L54] at e
    refine zwp.go (m := 2) (j := 56) (ls' := [some (zr ((52, 11, 0) : zF)), none, some (zi l2)]) (st' := [zi (zI h 52 20)]) (h' := h) rfl ?_
    refine zb_if (j := 65) (j2 := 57) e rfl (fun e => ?_) (fun e => ?_)
    · refine zwp.fg (a := [some (zr ((52, 11, 0) : zF)), none, none]) (And.intro rfl trivial) ?_
      exact s_X11_loom_J65_ok d ρ hρ h _ hR e
    · refine zwp.go (m := 2) (j := 59) (ls' := [some (zr ((52, 11, 0) : zF)), none, some (zi l2)]) (st' := [zi (zI h 52 16)]) (h' := h) rfl ?_
      refine zb_if (j := 65) (j2 := 60) e rfl (fun e => ?_) (fun e => ?_)
      · refine zwp.fg (a := [some (zr ((52, 11, 0) : zF)), none, none]) (And.intro rfl trivial) ?_
        exact s_X11_loom_J65_ok d ρ hρ h _ hR e
      · refine zwp.go (m := 2) (j := 62) (ls' := [some (zr ((52, 11, 0) : zF)), none, some (zi l2)]) (st' := [zi l2, zr ((52, 11, 0) : zF)]) (h' := h) rfl ?_
        refine zc_ci (d := d + 101) e (fun q e => s_X11_readLine_ok (d + 0) ρ hρ l2 h q hR e) rfl rfl (fun v2 h1 hR1 e => ?_)
        refine zwp.go (m := 2) (j := 54) (ls' := [some (zr ((52, 11, 0) : zF)), none, some (zi v2)]) (st' := []) (h' := h1) rfl ?_
        exact ih v2 h1 _ hR1 e
def s_X11_loom_L30 : Nat → Int32 → zH → Option (Int32 × zH)
  | 0, _, _ => none
  | n + 1, l2, h => if (6 : Int32) ≤ l2 then ((s_X11_stepOn h).bind fun h1 => s_X11_loom_L54 zfu (0 : Int32) h1) else (if l2 = (2 : Int32) then (zix ((6 : Int32) + l2) 12 fun i3 => zlt (zwI h 56 i3 (3 : Int32)) fun h2 => s_X11_loom_L30 n (l2 + (1 : Int32)) h2) else (if ¬ l2 = (3 : Int32) then (zix ((6 : Int32) + l2) 12 fun i5 => zlt (zwI h 56 i5 (0 : Int32)) fun h4 => s_X11_loom_L30 n (l2 + (1 : Int32)) h4) else (zix ((6 : Int32) + l2) 12 fun i7 => zlt (zwI h 56 i7 (3 : Int32)) fun h6 => s_X11_loom_L30 n (l2 + (1 : Int32)) h6)))
theorem s_X11_loom_L30_ok (d : Nat) (ρ : Nat → Nat → Option zF) (hρ : zSh ρ) : ∀ (n : Nat) (l2 : Int32) (h : zH) (res : Int32 × zH) (hR : zRq h ρ) (e : s_X11_loom_L30  n l2 h = some res), zwp (d + 102) zm_X11_loom 30 [some (zr ((52, 11, 0) : zF)), none, some (zi l2)] [] h (zQi ρ res) := by
  intro n
  induction n with
  | zero => intro l2 h res hR e; cases e
  | succ n ih =>
    intro l2 h res hR e
    rw [s_X11_loom_L30] at e
    refine zwp.go (m := 2) (j := 32) (ls' := [some (zr ((52, 11, 0) : zF)), none, some (zi l2)]) (st' := [zi (6 : Int32), zi l2]) (h' := h) rfl ?_
    refine zb_if (j := 50) (j2 := 33) e rfl (fun e => ?_) (fun e => ?_)
    · refine zwp.go (m := 1) (j := 51) (ls' := [some (zr ((52, 11, 0) : zF)), none, some (zi l2)]) (st' := [zr ((52, 11, 0) : zF)]) (h' := h) rfl ?_
      refine zc_cv (d := d + 101) e (fun q e => s_X11_stepOn_ok (d + 100) ρ hρ h q hR e) rfl rfl (fun h1 hR1 e => ?_)
      refine zwp.go (m := 2) (j := 54) (ls' := [some (zr ((52, 11, 0) : zF)), none, some (zi (0 : Int32))]) (st' := []) (h' := h1) rfl ?_
      exact s_X11_loom_L54_ok d ρ hρ zfu (0 : Int32) h1 _ hR1 e
    · refine zwp.go (m := 1) (j := 34) (ls' := [some (zr ((52, 11, 0) : zF)), none, some (zi l2)]) (st' := [zr ((52, 11, 0) : zF)]) (h' := h) rfl ?_
      refine zc_sr (r := ((56, 20, 12) : zF)) (zrf (a := 52) (y := 5) hR rfl (hρ 52 5 rfl)) rfl ?_
      refine zwp.go (m := 5) (j := 40) (ls' := [some (zr ((52, 11, 0) : zF)), none, some (zi l2)]) (st' := [zi (2 : Int32), zi l2, zi ((6 : Int32) + l2), zr ((56, 20, 12) : zF)]) (h' := h) rfl ?_
      refine zb_if (j := 44) (j2 := 41) e rfl (fun e => ?_) (fun e => ?_)
      · refine zwp.go (m := 2) (j := 47) (ls' := [some (zr ((52, 11, 0) : zF)), none, some (zi l2)]) (st' := [zi (3 : Int32), zi ((6 : Int32) + l2), zr ((56, 20, 12) : zF)]) (h' := h) rfl ?_
        refine zc_si e (fun _ => rfl) hR (fun h2 hR2 e => ?_)
        refine zwp.go (m := 2) (j := 30) (ls' := [some (zr ((52, 11, 0) : zF)), none, some (zi (l2 + (1 : Int32)))]) (st' := []) (h' := h2) rfl ?_
        exact ih (l2 + (1 : Int32)) h2 _ hR2 e
      · refine zwp.go (m := 2) (j := 43) (ls' := [some (zr ((52, 11, 0) : zF)), none, some (zi l2)]) (st' := [zi (3 : Int32), zi l2, zi ((6 : Int32) + l2), zr ((56, 20, 12) : zF)]) (h' := h) rfl ?_
        refine zb_if (j := 46) (j2 := 44) e rfl (fun e => ?_) (fun e => ?_)
        · refine zwp.go (m := 1) (j := 47) (ls' := [some (zr ((52, 11, 0) : zF)), none, some (zi l2)]) (st' := [zi (0 : Int32), zi ((6 : Int32) + l2), zr ((56, 20, 12) : zF)]) (h' := h) rfl ?_
          refine zc_si e (fun _ => rfl) hR (fun h4 hR4 e => ?_)
          refine zwp.go (m := 2) (j := 30) (ls' := [some (zr ((52, 11, 0) : zF)), none, some (zi (l2 + (1 : Int32)))]) (st' := []) (h' := h4) rfl ?_
          exact ih (l2 + (1 : Int32)) h4 _ hR4 e
        · refine zwp.go (m := 2) (j := 47) (ls' := [some (zr ((52, 11, 0) : zF)), none, some (zi l2)]) (st' := [zi (3 : Int32), zi ((6 : Int32) + l2), zr ((56, 20, 12) : zF)]) (h' := h) rfl ?_
          refine zc_si e (fun _ => rfl) hR (fun h6 hR6 e => ?_)
          refine zwp.go (m := 2) (j := 30) (ls' := [some (zr ((52, 11, 0) : zF)), none, some (zi (l2 + (1 : Int32)))]) (st' := []) (h' := h6) rfl ?_
          exact ih (l2 + (1 : Int32)) h6 _ hR6 e
def s_X11_loom (a1 : Int32) (h : zH) : Option (Int32 × zH) := zlt (zwI h 52 4 (0 : Int32)) fun h1 => if a1 < 0 then (s_X11_loom_J9 h1) else (if a1 ≤ (zI h1 52 13) then (zlt (zwI h1 52 13 (0 : Int32)) fun h2 => zlt (zwI h2 52 15 a1) fun h3 => zlt (zwI h3 52 14 (0 : Int32)) fun h4 => zlt (zwI h4 52 20 (0 : Int32)) fun h5 => zlt (zwI h5 52 22 (-1 : Int32)) fun h6 => s_X11_loom_L30 zfu (0 : Int32) h6) else (s_X11_loom_J9 h1))
theorem s_X11_loom_ok (d : Nat) (ρ : Nat → Nat → Option zF) (hρ : zSh ρ) (a1 : Int32) (h : zH) (res : Int32 × zH) (hR : zRq h ρ) (e : s_X11_loom a1 h = some res) : zcl (d + 102) 83 [zr ((52, 11, 0) : zF), zi a1] h (zQi ρ res) := by
  rw [s_X11_loom] at e
  refine ⟨zm_X11_loom, rfl, ?_⟩
  show zwp (d + 102) zm_X11_loom 0 [some (zr ((52, 11, 0) : zF)), some (zi a1), none] [] h _
  refine zwp.go (m := 2) (j := 2) (ls' := [some (zr ((52, 11, 0) : zF)), some (zi a1), none]) (st' := [zi (0 : Int32), zr ((52, 11, 0) : zF)]) (h' := h) rfl ?_
  refine zc_w e rfl hR (fun h1 hR1 e => ?_)
  refine zwp.go (m := 1) (j := 4) (ls' := [some (zr ((52, 11, 0) : zF)), some (zi a1), none]) (st' := [zi a1]) (h' := h1) rfl ?_
  refine zb_if (j := 9) (j2 := 5) e rfl (fun e => ?_) (fun e => ?_)
  · refine zwp.fg (a := [some (zr ((52, 11, 0) : zF)), none, none]) (And.intro rfl trivial) ?_
    exact s_X11_loom_J9_ok d ρ hρ h1 _ hR1 e
  · refine zwp.go (m := 3) (j := 8) (ls' := [some (zr ((52, 11, 0) : zF)), some (zi a1), none]) (st' := [zi (zI h1 52 13), zi a1]) (h' := h1) rfl ?_
    refine zb_if (j := 13) (j2 := 9) e rfl (fun e => ?_) (fun e => ?_)
    · refine zwp.go (m := 2) (j := 15) (ls' := [some (zr ((52, 11, 0) : zF)), some (zi a1), none]) (st' := [zi (0 : Int32), zr ((52, 11, 0) : zF)]) (h' := h1) rfl ?_
      refine zc_w e rfl hR1 (fun h2 hR2 e => ?_)
      refine zwp.go (m := 2) (j := 18) (ls' := [some (zr ((52, 11, 0) : zF)), some (zi a1), none]) (st' := [zi a1, zr ((52, 11, 0) : zF)]) (h' := h2) rfl ?_
      refine zc_w e rfl hR2 (fun h3 hR3 e => ?_)
      refine zwp.go (m := 2) (j := 21) (ls' := [some (zr ((52, 11, 0) : zF)), some (zi a1), none]) (st' := [zi (0 : Int32), zr ((52, 11, 0) : zF)]) (h' := h3) rfl ?_
      refine zc_w e rfl hR3 (fun h4 hR4 e => ?_)
      refine zwp.go (m := 2) (j := 24) (ls' := [some (zr ((52, 11, 0) : zF)), some (zi a1), none]) (st' := [zi (0 : Int32), zr ((52, 11, 0) : zF)]) (h' := h4) rfl ?_
      refine zc_w e rfl hR4 (fun h5 hR5 e => ?_)
      refine zwp.go (m := 2) (j := 27) (ls' := [some (zr ((52, 11, 0) : zF)), some (zi a1), none]) (st' := [zi (-1 : Int32), zr ((52, 11, 0) : zF)]) (h' := h5) rfl ?_
      refine zc_w e rfl hR5 (fun h6 hR6 e => ?_)
      refine zwp.go (m := 2) (j := 30) (ls' := [some (zr ((52, 11, 0) : zF)), some (zi a1), some (zi (0 : Int32))]) (st' := []) (h' := h6) rfl ?_
      refine zwp.fg (a := [some (zr ((52, 11, 0) : zF)), none, some (zi (0 : Int32))]) (And.intro rfl (And.intro rfl trivial)) ?_
      exact s_X11_loom_L30_ok d ρ hρ zfu (0 : Int32) h6 _ hR6 e
    · refine zwp.fg (a := [some (zr ((52, 11, 0) : zF)), none, none]) (And.intro rfl trivial) ?_
      exact s_X11_loom_J9_ok d ρ hρ h1 _ hR1 e
def s_X11_thrown (h : zH) : Option (Int32) := some (zI h 52 4)
theorem s_X11_thrown_ok (d : Nat) (ρ : Nat → Nat → Option zF) (hρ : zSh ρ) (h : zH) (res : Int32) (hR : zRq h ρ) (e : s_X11_thrown  h = some res) : zcl d 84 [zr ((52, 11, 0) : zF)] h (zQp h res) := by
  rw [s_X11_thrown] at e
  refine ⟨zm_X11_thrown, rfl, ?_⟩
  show zwp d zm_X11_thrown 0 [some (zr ((52, 11, 0) : zF))] [] h _
  refine zwp.go (m := 2) (j := 2) (ls' := [some (zr ((52, 11, 0) : zF))]) (st' := [zi (zI h 52 4)]) (h' := h) rfl ?_
  cases e
  exact zwp.ret rfl rfl ⟨rfl, rfl⟩
def s_X10_fault (pp : Nat) (h : zH) : Option (Int32) := some (zI h 0 2)
theorem s_X10_fault_ok (d : Nat) (ρ : Nat → Nat → Option zF) (hρ : zSh ρ) (pp : Nat) (hpp : ρ 0 3 = some (pp, 3, 0) ∧ zPlS ρ pp) (h : zH) (res : Int32) (hR : zRq h ρ) (e : s_X10_fault pp h = some res) : zcl d 85 [zr ((0, 10, 0) : zF)] h (zQp h res) := by
  rw [s_X10_fault] at e
  refine ⟨zm_X10_fault, rfl, ?_⟩
  show zwp d zm_X10_fault 0 [some (zr ((0, 10, 0) : zF))] [] h _
  refine zwp.go (m := 2) (j := 2) (ls' := [some (zr ((0, 10, 0) : zF))]) (st' := [zi (zI h 0 2)]) (h' := h) rfl ?_
  cases e
  exact zwp.ret rfl rfl ⟨rfl, rfl⟩
def s_X11_fault (h : zH) : Option (Int32 × zH) := zlt (zwI h 52 4 (0 : Int32)) fun h1 => some ((zI h1 52 22), h1)
theorem s_X11_fault_ok (d : Nat) (ρ : Nat → Nat → Option zF) (hρ : zSh ρ) (h : zH) (res : Int32 × zH) (hR : zRq h ρ) (e : s_X11_fault  h = some res) : zcl d 86 [zr ((52, 11, 0) : zF)] h (zQi ρ res) := by
  rw [s_X11_fault] at e
  refine ⟨zm_X11_fault, rfl, ?_⟩
  show zwp d zm_X11_fault 0 [some (zr ((52, 11, 0) : zF))] [] h _
  refine zwp.go (m := 2) (j := 2) (ls' := [some (zr ((52, 11, 0) : zF))]) (st' := [zi (0 : Int32), zr ((52, 11, 0) : zF)]) (h' := h) rfl ?_
  refine zc_w e rfl hR (fun h1 hR1 e => ?_)
  refine zwp.go (m := 2) (j := 5) (ls' := [some (zr ((52, 11, 0) : zF))]) (st' := [zi (zI h1 52 22)]) (h' := h1) rfl ?_
  cases e
  exact zwp.ret rfl rfl ⟨⟨rfl, rfl⟩, hR1⟩
def s_X8_aliveBits_L4 (a0 : Nat) : Nat → Int32 → Int32 → Int32 → zH → Option (Int32)
  | 0, _, _, _, _ => none
  | n + 1, l1, l2, l3, h => if l1 ≤ l3 then (some l2) else (zix l3 12 fun i1 => if (zI h (a0 + 1) i1) ≤ 0 then (s_X8_aliveBits_L4 a0 n l1 (l2 ||| (0 : Int32)) (l3 + (1 : Int32)) h) else (s_X8_aliveBits_L4 a0 n l1 (l2 ||| ((1 : Int32) <<< (l3 &&& 31))) (l3 + (1 : Int32)) h))
theorem s_X8_aliveBits_L4_ok (d : Nat) (ρ : Nat → Nat → Option zF) (hρ : zSh ρ) (a0 : Nat) (ha0 : zStS ρ a0) : ∀ (n : Nat) (l1 : Int32) (l2 : Int32) (l3 : Int32) (h : zH) (res : Int32) (hR : zRq h ρ) (e : s_X8_aliveBits_L4 a0 n l1 l2 l3 h = some res), zwp d zm_X8_aliveBits 4 [some (zr ((a0, 8, 0) : zF)), some (zi l1), some (zi l2), some (zi l3)] [] h (zQp h res) := by
  intro n
  induction n with
  | zero => intro l1 l2 l3 h res hR e; cases e
  | succ n ih =>
    intro l1 l2 l3 h res hR e
    rw [s_X8_aliveBits_L4] at e
    refine zwp.go (m := 2) (j := 6) (ls' := [some (zr ((a0, 8, 0) : zF)), some (zi l1), some (zi l2), some (zi l3)]) (st' := [zi l1, zi l3]) (h' := h) rfl ?_
    refine zb_if (j := 22) (j2 := 7) e rfl (fun e => ?_) (fun e => ?_)
    · refine zwp.go (m := 1) (j := 23) (ls' := [some (zr ((a0, 8, 0) : zF)), some (zi l1), some (zi l2), some (zi l3)]) (st' := [zi l2]) (h' := h) rfl ?_
      cases e
      exact zwp.ret rfl rfl ⟨rfl, rfl⟩
    · refine zwp.go (m := 2) (j := 9) (ls' := [some (zr ((a0, 8, 0) : zF)), some (zi l1), some (zi l2), some (zi l3)]) (st' := [zr ((a0, 8, 0) : zF), zi l2]) (h' := h) rfl ?_
      refine zc_sr (r := (((a0 + 1), 20, 12) : zF)) (zrf (a := a0) (y := 0) hR rfl ha0.2.1) rfl ?_
      refine zwp.go (m := 1) (j := 11) (ls' := [some (zr ((a0, 8, 0) : zF)), some (zi l1), some (zi l2), some (zi l3)]) (st' := [zi l3, zr (((a0 + 1), 20, 12) : zF), zi l2]) (h' := h) rfl ?_
      refine zc_ai e (fun _ => rfl) (fun i1 e => ?_)
      refine zb_if (j := 17) (j2 := 13) e rfl (fun e => ?_) (fun e => ?_)
      · refine zwp.go (m := 5) (j := 4) (ls' := [some (zr ((a0, 8, 0) : zF)), some (zi l1), some (zi (l2 ||| (0 : Int32))), some (zi (l3 + (1 : Int32)))]) (st' := []) (h' := h) rfl ?_
        exact ih l1 (l2 ||| (0 : Int32)) (l3 + (1 : Int32)) h _ hR e
      · refine zwp.go (m := 8) (j := 4) (ls' := [some (zr ((a0, 8, 0) : zF)), some (zi l1), some (zi (l2 ||| ((1 : Int32) <<< (l3 &&& 31)))), some (zi (l3 + (1 : Int32)))]) (st' := []) (h' := h) rfl ?_
        exact ih l1 (l2 ||| ((1 : Int32) <<< (l3 &&& 31))) (l3 + (1 : Int32)) h _ hR e
def s_X8_aliveBits (a0 : Nat) (a1 : Int32) (h : zH) : Option (Int32) := s_X8_aliveBits_L4 a0 zfu a1 (0 : Int32) (0 : Int32) h
theorem s_X8_aliveBits_ok (d : Nat) (ρ : Nat → Nat → Option zF) (hρ : zSh ρ) (a0 : Nat) (a1 : Int32) (ha0 : zStS ρ a0) (h : zH) (res : Int32) (hR : zRq h ρ) (e : s_X8_aliveBits a0 a1 h = some res) : zcl d 87 [zr ((a0, 8, 0) : zF), zi a1] h (zQp h res) := by
  rw [s_X8_aliveBits] at e
  refine ⟨zm_X8_aliveBits, rfl, ?_⟩
  show zwp d zm_X8_aliveBits 0 [some (zr ((a0, 8, 0) : zF)), some (zi a1), none, none] [] h _
  refine zwp.go (m := 4) (j := 4) (ls' := [some (zr ((a0, 8, 0) : zF)), some (zi a1), some (zi (0 : Int32)), some (zi (0 : Int32))]) (st' := []) (h' := h) rfl ?_
  exact s_X8_aliveBits_L4_ok d ρ hρ a0 ha0 zfu a1 (0 : Int32) (0 : Int32) h _ hR e
def s_X8_goneBits (a0 : Nat) (a1 : Int32) (h : zH) : Option (Int32) := (s_X8_aliveBits a0 a1 h).bind fun v1 => some (v1 ^^^ (((1 : Int32) <<< (a1 &&& 31)) - (1 : Int32)))
theorem s_X8_goneBits_ok (d : Nat) (ρ : Nat → Nat → Option zF) (hρ : zSh ρ) (a0 : Nat) (a1 : Int32) (ha0 : zStS ρ a0) (h : zH) (res : Int32) (hR : zRq h ρ) (e : s_X8_goneBits a0 a1 h = some res) : zcl (d + 1) 88 [zr ((a0, 8, 0) : zF), zi a1] h (zQp h res) := by
  rw [s_X8_goneBits] at e
  refine ⟨zm_X8_goneBits, rfl, ?_⟩
  show zwp (d + 1) zm_X8_goneBits 0 [some (zr ((a0, 8, 0) : zF)), some (zi a1)] [] h _
  refine zwp.go (m := 2) (j := 2) (ls' := [some (zr ((a0, 8, 0) : zF)), some (zi a1)]) (st' := [zi a1, zr ((a0, 8, 0) : zF)]) (h' := h) rfl ?_
  refine zc_cp (d := d + 0) e (fun q e => s_X8_aliveBits_ok (d + 0) ρ hρ a0 a1 ha0 h q hR e) rfl rfl (fun v1 e => ?_)
  refine zwp.go (m := 6) (j := 9) (ls' := [some (zr ((a0, 8, 0) : zF)), some (zi a1)]) (st' := [zi (v1 ^^^ (((1 : Int32) <<< (a1 &&& 31)) - (1 : Int32)))]) (h' := h) rfl ?_
  cases e
  exact zwp.ret rfl rfl ⟨rfl, rfl⟩
def s_X10_aliveNow (pp : Nat) (h : zH) : Option (Int32) := (s_X8_aliveBits 19 (zI h pp 6) h).bind fun v1 => some v1
theorem s_X10_aliveNow_ok (d : Nat) (ρ : Nat → Nat → Option zF) (hρ : zSh ρ) (pp : Nat) (hpp : ρ 0 3 = some (pp, 3, 0) ∧ zPlS ρ pp) (h : zH) (res : Int32) (hR : zRq h ρ) (e : s_X10_aliveNow pp h = some res) : zcl (d + 1) 89 [zr ((0, 10, 0) : zF)] h (zQp h res) := by
  rw [s_X10_aliveNow] at e
  refine ⟨zm_X10_aliveNow, rfl, ?_⟩
  show zwp (d + 1) zm_X10_aliveNow 0 [some (zr ((0, 10, 0) : zF))] [] h _
  refine zwp.go (m := 1) (j := 1) (ls' := [some (zr ((0, 10, 0) : zF))]) (st' := [zr ((0, 10, 0) : zF)]) (h' := h) rfl ?_
  refine zc_sr (r := ((18, 2, 0) : zF)) (zrf (a := 0) (y := 6) hR rfl (hρ 0 6 rfl)) rfl ?_
  refine zc_sr (r := ((19, 8, 0) : zF)) (zrf (a := 18) (y := 0) hR rfl (zSh_ld18 hρ).2.1) rfl ?_
  refine zwp.go (m := 1) (j := 4) (ls' := [some (zr ((0, 10, 0) : zF))]) (st' := [zr ((0, 10, 0) : zF), zr ((19, 8, 0) : zF)]) (h' := h) rfl ?_
  refine zc_sr (r := ((pp, 3, 0) : zF)) (zrf (a := 0) (y := 3) hR rfl hpp.1) rfl ?_
  refine zwp.go (m := 1) (j := 6) (ls' := [some (zr ((0, 10, 0) : zF))]) (st' := [zi (zI h pp 6), zr ((19, 8, 0) : zF)]) (h' := h) rfl ?_
  refine zc_cp (d := d + 0) e (fun q e => s_X8_aliveBits_ok (d + 0) ρ hρ 19 (zI h pp 6) (zSh_st19 hρ) h q hR e) rfl rfl (fun v1 e => ?_)
  cases e
  exact zwp.ret rfl rfl ⟨rfl, rfl⟩
def s_J6_bitCount_0f7a4 (a0 : Int32) (h : zH) : Option (Int32) := some ((((((((a0 - ((a0.toUInt32 >>> ((1 : Int32).toUInt32 &&& Int32.toUInt32 31)).toInt32 &&& (1431655765 : Int32))) &&& (858993459 : Int32)) + (((a0 - ((a0.toUInt32 >>> ((1 : Int32).toUInt32 &&& Int32.toUInt32 31)).toInt32 &&& (1431655765 : Int32))).toUInt32 >>> ((2 : Int32).toUInt32 &&& Int32.toUInt32 31)).toInt32 &&& (858993459 : Int32))) + ((((a0 - ((a0.toUInt32 >>> ((1 : Int32).toUInt32 &&& Int32.toUInt32 31)).toInt32 &&& (1431655765 : Int32))) &&& (858993459 : Int32)) + (((a0 - ((a0.toUInt32 >>> ((1 : Int32).toUInt32 &&& Int32.toUInt32 31)).toInt32 &&& (1431655765 : Int32))).toUInt32 >>> ((2 : Int32).toUInt32 &&& Int32.toUInt32 31)).toInt32 &&& (858993459 : Int32))).toUInt32 >>> ((4 : Int32).toUInt32 &&& Int32.toUInt32 31)).toInt32) &&& (252645135 : Int32)) + ((((((a0 - ((a0.toUInt32 >>> ((1 : Int32).toUInt32 &&& Int32.toUInt32 31)).toInt32 &&& (1431655765 : Int32))) &&& (858993459 : Int32)) + (((a0 - ((a0.toUInt32 >>> ((1 : Int32).toUInt32 &&& Int32.toUInt32 31)).toInt32 &&& (1431655765 : Int32))).toUInt32 >>> ((2 : Int32).toUInt32 &&& Int32.toUInt32 31)).toInt32 &&& (858993459 : Int32))) + ((((a0 - ((a0.toUInt32 >>> ((1 : Int32).toUInt32 &&& Int32.toUInt32 31)).toInt32 &&& (1431655765 : Int32))) &&& (858993459 : Int32)) + (((a0 - ((a0.toUInt32 >>> ((1 : Int32).toUInt32 &&& Int32.toUInt32 31)).toInt32 &&& (1431655765 : Int32))).toUInt32 >>> ((2 : Int32).toUInt32 &&& Int32.toUInt32 31)).toInt32 &&& (858993459 : Int32))).toUInt32 >>> ((4 : Int32).toUInt32 &&& Int32.toUInt32 31)).toInt32) &&& (252645135 : Int32)).toUInt32 >>> ((8 : Int32).toUInt32 &&& Int32.toUInt32 31)).toInt32) + (((((((a0 - ((a0.toUInt32 >>> ((1 : Int32).toUInt32 &&& Int32.toUInt32 31)).toInt32 &&& (1431655765 : Int32))) &&& (858993459 : Int32)) + (((a0 - ((a0.toUInt32 >>> ((1 : Int32).toUInt32 &&& Int32.toUInt32 31)).toInt32 &&& (1431655765 : Int32))).toUInt32 >>> ((2 : Int32).toUInt32 &&& Int32.toUInt32 31)).toInt32 &&& (858993459 : Int32))) + ((((a0 - ((a0.toUInt32 >>> ((1 : Int32).toUInt32 &&& Int32.toUInt32 31)).toInt32 &&& (1431655765 : Int32))) &&& (858993459 : Int32)) + (((a0 - ((a0.toUInt32 >>> ((1 : Int32).toUInt32 &&& Int32.toUInt32 31)).toInt32 &&& (1431655765 : Int32))).toUInt32 >>> ((2 : Int32).toUInt32 &&& Int32.toUInt32 31)).toInt32 &&& (858993459 : Int32))).toUInt32 >>> ((4 : Int32).toUInt32 &&& Int32.toUInt32 31)).toInt32) &&& (252645135 : Int32)) + ((((((a0 - ((a0.toUInt32 >>> ((1 : Int32).toUInt32 &&& Int32.toUInt32 31)).toInt32 &&& (1431655765 : Int32))) &&& (858993459 : Int32)) + (((a0 - ((a0.toUInt32 >>> ((1 : Int32).toUInt32 &&& Int32.toUInt32 31)).toInt32 &&& (1431655765 : Int32))).toUInt32 >>> ((2 : Int32).toUInt32 &&& Int32.toUInt32 31)).toInt32 &&& (858993459 : Int32))) + ((((a0 - ((a0.toUInt32 >>> ((1 : Int32).toUInt32 &&& Int32.toUInt32 31)).toInt32 &&& (1431655765 : Int32))) &&& (858993459 : Int32)) + (((a0 - ((a0.toUInt32 >>> ((1 : Int32).toUInt32 &&& Int32.toUInt32 31)).toInt32 &&& (1431655765 : Int32))).toUInt32 >>> ((2 : Int32).toUInt32 &&& Int32.toUInt32 31)).toInt32 &&& (858993459 : Int32))).toUInt32 >>> ((4 : Int32).toUInt32 &&& Int32.toUInt32 31)).toInt32) &&& (252645135 : Int32)).toUInt32 >>> ((8 : Int32).toUInt32 &&& Int32.toUInt32 31)).toInt32).toUInt32 >>> ((16 : Int32).toUInt32 &&& Int32.toUInt32 31)).toInt32) &&& (63 : Int32))
theorem s_J6_bitCount_0f7a4_ok (d : Nat) (ρ : Nat → Nat → Option zF) (hρ : zSh ρ) (a0 : Int32) (h : zH) (res : Int32) (hR : zRq h ρ) (e : s_J6_bitCount_0f7a4 a0 h = some res) : zcl d 90 [zi a0] h (zQp h res) := by
  rw [s_J6_bitCount_0f7a4] at e
  refine ⟨zm_J6_bitCount_0f7a4, rfl, ?_⟩
  show zwp d zm_J6_bitCount_0f7a4 0 [some (zi a0)] [] h _
  refine zwp.go (m := 41) (j := 41) (ls' := [some (zi (((((((a0 - ((a0.toUInt32 >>> ((1 : Int32).toUInt32 &&& Int32.toUInt32 31)).toInt32 &&& (1431655765 : Int32))) &&& (858993459 : Int32)) + (((a0 - ((a0.toUInt32 >>> ((1 : Int32).toUInt32 &&& Int32.toUInt32 31)).toInt32 &&& (1431655765 : Int32))).toUInt32 >>> ((2 : Int32).toUInt32 &&& Int32.toUInt32 31)).toInt32 &&& (858993459 : Int32))) + ((((a0 - ((a0.toUInt32 >>> ((1 : Int32).toUInt32 &&& Int32.toUInt32 31)).toInt32 &&& (1431655765 : Int32))) &&& (858993459 : Int32)) + (((a0 - ((a0.toUInt32 >>> ((1 : Int32).toUInt32 &&& Int32.toUInt32 31)).toInt32 &&& (1431655765 : Int32))).toUInt32 >>> ((2 : Int32).toUInt32 &&& Int32.toUInt32 31)).toInt32 &&& (858993459 : Int32))).toUInt32 >>> ((4 : Int32).toUInt32 &&& Int32.toUInt32 31)).toInt32) &&& (252645135 : Int32)) + ((((((a0 - ((a0.toUInt32 >>> ((1 : Int32).toUInt32 &&& Int32.toUInt32 31)).toInt32 &&& (1431655765 : Int32))) &&& (858993459 : Int32)) + (((a0 - ((a0.toUInt32 >>> ((1 : Int32).toUInt32 &&& Int32.toUInt32 31)).toInt32 &&& (1431655765 : Int32))).toUInt32 >>> ((2 : Int32).toUInt32 &&& Int32.toUInt32 31)).toInt32 &&& (858993459 : Int32))) + ((((a0 - ((a0.toUInt32 >>> ((1 : Int32).toUInt32 &&& Int32.toUInt32 31)).toInt32 &&& (1431655765 : Int32))) &&& (858993459 : Int32)) + (((a0 - ((a0.toUInt32 >>> ((1 : Int32).toUInt32 &&& Int32.toUInt32 31)).toInt32 &&& (1431655765 : Int32))).toUInt32 >>> ((2 : Int32).toUInt32 &&& Int32.toUInt32 31)).toInt32 &&& (858993459 : Int32))).toUInt32 >>> ((4 : Int32).toUInt32 &&& Int32.toUInt32 31)).toInt32) &&& (252645135 : Int32)).toUInt32 >>> ((8 : Int32).toUInt32 &&& Int32.toUInt32 31)).toInt32) + (((((((a0 - ((a0.toUInt32 >>> ((1 : Int32).toUInt32 &&& Int32.toUInt32 31)).toInt32 &&& (1431655765 : Int32))) &&& (858993459 : Int32)) + (((a0 - ((a0.toUInt32 >>> ((1 : Int32).toUInt32 &&& Int32.toUInt32 31)).toInt32 &&& (1431655765 : Int32))).toUInt32 >>> ((2 : Int32).toUInt32 &&& Int32.toUInt32 31)).toInt32 &&& (858993459 : Int32))) + ((((a0 - ((a0.toUInt32 >>> ((1 : Int32).toUInt32 &&& Int32.toUInt32 31)).toInt32 &&& (1431655765 : Int32))) &&& (858993459 : Int32)) + (((a0 - ((a0.toUInt32 >>> ((1 : Int32).toUInt32 &&& Int32.toUInt32 31)).toInt32 &&& (1431655765 : Int32))).toUInt32 >>> ((2 : Int32).toUInt32 &&& Int32.toUInt32 31)).toInt32 &&& (858993459 : Int32))).toUInt32 >>> ((4 : Int32).toUInt32 &&& Int32.toUInt32 31)).toInt32) &&& (252645135 : Int32)) + ((((((a0 - ((a0.toUInt32 >>> ((1 : Int32).toUInt32 &&& Int32.toUInt32 31)).toInt32 &&& (1431655765 : Int32))) &&& (858993459 : Int32)) + (((a0 - ((a0.toUInt32 >>> ((1 : Int32).toUInt32 &&& Int32.toUInt32 31)).toInt32 &&& (1431655765 : Int32))).toUInt32 >>> ((2 : Int32).toUInt32 &&& Int32.toUInt32 31)).toInt32 &&& (858993459 : Int32))) + ((((a0 - ((a0.toUInt32 >>> ((1 : Int32).toUInt32 &&& Int32.toUInt32 31)).toInt32 &&& (1431655765 : Int32))) &&& (858993459 : Int32)) + (((a0 - ((a0.toUInt32 >>> ((1 : Int32).toUInt32 &&& Int32.toUInt32 31)).toInt32 &&& (1431655765 : Int32))).toUInt32 >>> ((2 : Int32).toUInt32 &&& Int32.toUInt32 31)).toInt32 &&& (858993459 : Int32))).toUInt32 >>> ((4 : Int32).toUInt32 &&& Int32.toUInt32 31)).toInt32) &&& (252645135 : Int32)).toUInt32 >>> ((8 : Int32).toUInt32 &&& Int32.toUInt32 31)).toInt32).toUInt32 >>> ((16 : Int32).toUInt32 &&& Int32.toUInt32 31)).toInt32))]) (st' := [zi ((((((((a0 - ((a0.toUInt32 >>> ((1 : Int32).toUInt32 &&& Int32.toUInt32 31)).toInt32 &&& (1431655765 : Int32))) &&& (858993459 : Int32)) + (((a0 - ((a0.toUInt32 >>> ((1 : Int32).toUInt32 &&& Int32.toUInt32 31)).toInt32 &&& (1431655765 : Int32))).toUInt32 >>> ((2 : Int32).toUInt32 &&& Int32.toUInt32 31)).toInt32 &&& (858993459 : Int32))) + ((((a0 - ((a0.toUInt32 >>> ((1 : Int32).toUInt32 &&& Int32.toUInt32 31)).toInt32 &&& (1431655765 : Int32))) &&& (858993459 : Int32)) + (((a0 - ((a0.toUInt32 >>> ((1 : Int32).toUInt32 &&& Int32.toUInt32 31)).toInt32 &&& (1431655765 : Int32))).toUInt32 >>> ((2 : Int32).toUInt32 &&& Int32.toUInt32 31)).toInt32 &&& (858993459 : Int32))).toUInt32 >>> ((4 : Int32).toUInt32 &&& Int32.toUInt32 31)).toInt32) &&& (252645135 : Int32)) + ((((((a0 - ((a0.toUInt32 >>> ((1 : Int32).toUInt32 &&& Int32.toUInt32 31)).toInt32 &&& (1431655765 : Int32))) &&& (858993459 : Int32)) + (((a0 - ((a0.toUInt32 >>> ((1 : Int32).toUInt32 &&& Int32.toUInt32 31)).toInt32 &&& (1431655765 : Int32))).toUInt32 >>> ((2 : Int32).toUInt32 &&& Int32.toUInt32 31)).toInt32 &&& (858993459 : Int32))) + ((((a0 - ((a0.toUInt32 >>> ((1 : Int32).toUInt32 &&& Int32.toUInt32 31)).toInt32 &&& (1431655765 : Int32))) &&& (858993459 : Int32)) + (((a0 - ((a0.toUInt32 >>> ((1 : Int32).toUInt32 &&& Int32.toUInt32 31)).toInt32 &&& (1431655765 : Int32))).toUInt32 >>> ((2 : Int32).toUInt32 &&& Int32.toUInt32 31)).toInt32 &&& (858993459 : Int32))).toUInt32 >>> ((4 : Int32).toUInt32 &&& Int32.toUInt32 31)).toInt32) &&& (252645135 : Int32)).toUInt32 >>> ((8 : Int32).toUInt32 &&& Int32.toUInt32 31)).toInt32) + (((((((a0 - ((a0.toUInt32 >>> ((1 : Int32).toUInt32 &&& Int32.toUInt32 31)).toInt32 &&& (1431655765 : Int32))) &&& (858993459 : Int32)) + (((a0 - ((a0.toUInt32 >>> ((1 : Int32).toUInt32 &&& Int32.toUInt32 31)).toInt32 &&& (1431655765 : Int32))).toUInt32 >>> ((2 : Int32).toUInt32 &&& Int32.toUInt32 31)).toInt32 &&& (858993459 : Int32))) + ((((a0 - ((a0.toUInt32 >>> ((1 : Int32).toUInt32 &&& Int32.toUInt32 31)).toInt32 &&& (1431655765 : Int32))) &&& (858993459 : Int32)) + (((a0 - ((a0.toUInt32 >>> ((1 : Int32).toUInt32 &&& Int32.toUInt32 31)).toInt32 &&& (1431655765 : Int32))).toUInt32 >>> ((2 : Int32).toUInt32 &&& Int32.toUInt32 31)).toInt32 &&& (858993459 : Int32))).toUInt32 >>> ((4 : Int32).toUInt32 &&& Int32.toUInt32 31)).toInt32) &&& (252645135 : Int32)) + ((((((a0 - ((a0.toUInt32 >>> ((1 : Int32).toUInt32 &&& Int32.toUInt32 31)).toInt32 &&& (1431655765 : Int32))) &&& (858993459 : Int32)) + (((a0 - ((a0.toUInt32 >>> ((1 : Int32).toUInt32 &&& Int32.toUInt32 31)).toInt32 &&& (1431655765 : Int32))).toUInt32 >>> ((2 : Int32).toUInt32 &&& Int32.toUInt32 31)).toInt32 &&& (858993459 : Int32))) + ((((a0 - ((a0.toUInt32 >>> ((1 : Int32).toUInt32 &&& Int32.toUInt32 31)).toInt32 &&& (1431655765 : Int32))) &&& (858993459 : Int32)) + (((a0 - ((a0.toUInt32 >>> ((1 : Int32).toUInt32 &&& Int32.toUInt32 31)).toInt32 &&& (1431655765 : Int32))).toUInt32 >>> ((2 : Int32).toUInt32 &&& Int32.toUInt32 31)).toInt32 &&& (858993459 : Int32))).toUInt32 >>> ((4 : Int32).toUInt32 &&& Int32.toUInt32 31)).toInt32) &&& (252645135 : Int32)).toUInt32 >>> ((8 : Int32).toUInt32 &&& Int32.toUInt32 31)).toInt32).toUInt32 >>> ((16 : Int32).toUInt32 &&& Int32.toUInt32 31)).toInt32) &&& (63 : Int32))]) (h' := h) rfl ?_
  cases e
  exact zwp.ret rfl rfl ⟨rfl, rfl⟩
def s_X7_turns (a1 : Nat) (a2 : Int32) (a3 : Int32) (a4 : Int32) (h : zH) : Option (Int32) := zix a3 8 fun i1 => zix a4 8 fun i2 => (s_J6_bitCount_0f7a4 (((zI h (a1 + 2) i1) ^^^ (zI h (a1 + 2) i2)) &&& a2) h).bind fun v3 => some v3
theorem s_X7_turns_ok (d : Nat) (ρ : Nat → Nat → Option zF) (hρ : zSh ρ) (a1 : Nat) (a2 : Int32) (a3 : Int32) (a4 : Int32) (ha1 : zPlS ρ a1) (h : zH) (res : Int32) (hR : zRq h ρ) (e : s_X7_turns a1 a2 a3 a4 h = some res) : zcl (d + 1) 91 [zr ((44, 7, 0) : zF), zr ((a1, 3, 0) : zF), zi a2, zi a3, zi a4] h (zQp h res) := by
  rw [s_X7_turns] at e
  refine ⟨zm_X7_turns, rfl, ?_⟩
  show zwp (d + 1) zm_X7_turns 0 [some (zr ((44, 7, 0) : zF)), some (zr ((a1, 3, 0) : zF)), some (zi a2), some (zi a3), some (zi a4)] [] h _
  refine zwp.go (m := 1) (j := 1) (ls' := [some (zr ((44, 7, 0) : zF)), some (zr ((a1, 3, 0) : zF)), some (zi a2), some (zi a3), some (zi a4)]) (st' := [zr ((a1, 3, 0) : zF)]) (h' := h) rfl ?_
  refine zc_sr (r := (((a1 + 2), 20, 8) : zF)) (zrf (a := a1) (y := 1) hR rfl ha1.2.2.1) rfl ?_
  refine zwp.go (m := 1) (j := 3) (ls' := [some (zr ((44, 7, 0) : zF)), some (zr ((a1, 3, 0) : zF)), some (zi a2), some (zi a3), some (zi a4)]) (st' := [zi a3, zr (((a1 + 2), 20, 8) : zF)]) (h' := h) rfl ?_
  refine zc_ai e (fun _ => rfl) (fun i1 e => ?_)
  refine zwp.go (m := 1) (j := 5) (ls' := [some (zr ((44, 7, 0) : zF)), some (zr ((a1, 3, 0) : zF)), some (zi a2), some (zi a3), some (zi a4)]) (st' := [zr ((a1, 3, 0) : zF), zi (zI h (a1 + 2) i1)]) (h' := h) rfl ?_
  refine zc_sr (r := (((a1 + 2), 20, 8) : zF)) (zrf (a := a1) (y := 1) hR rfl ha1.2.2.1) rfl ?_
  refine zwp.go (m := 1) (j := 7) (ls' := [some (zr ((44, 7, 0) : zF)), some (zr ((a1, 3, 0) : zF)), some (zi a2), some (zi a3), some (zi a4)]) (st' := [zi a4, zr (((a1 + 2), 20, 8) : zF), zi (zI h (a1 + 2) i1)]) (h' := h) rfl ?_
  refine zc_ai e (fun _ => rfl) (fun i2 e => ?_)
  refine zwp.go (m := 3) (j := 11) (ls' := [some (zr ((44, 7, 0) : zF)), some (zr ((a1, 3, 0) : zF)), some (zi a2), some (zi a3), some (zi a4)]) (st' := [zi (((zI h (a1 + 2) i1) ^^^ (zI h (a1 + 2) i2)) &&& a2)]) (h' := h) rfl ?_
  refine zc_cp (d := d + 0) e (fun q e => s_J6_bitCount_0f7a4_ok (d + 0) ρ hρ (((zI h (a1 + 2) i1) ^^^ (zI h (a1 + 2) i2)) &&& a2) h q hR e) rfl rfl (fun v3 e => ?_)
  cases e
  exact zwp.ret rfl rfl ⟨rfl, rfl⟩
def s_X7_alike_L4 (a1 : Nat) : Nat → Int32 → Int32 → Int32 → Int32 → zH → Option (Int32)
  | 0, _, _, _, _, _ => none
  | n + 1, l2, l3, l4, l5, h => if (zI h a1 8) ≤ l5 then (some l4) else ((s_X7_turns a1 l2 l3 l5 h).bind fun v1 => if ¬ v1 = 0 then (s_X7_alike_L4 a1 n l2 l3 (l4 ||| (0 : Int32)) (l5 + (1 : Int32)) h) else (s_X7_alike_L4 a1 n l2 l3 (l4 ||| ((1 : Int32) <<< (l5 &&& 31))) (l5 + (1 : Int32)) h))
theorem s_X7_alike_L4_ok (d : Nat) (ρ : Nat → Nat → Option zF) (hρ : zSh ρ) (a1 : Nat) (ha1 : zPlS ρ a1) : ∀ (n : Nat) (l2 : Int32) (l3 : Int32) (l4 : Int32) (l5 : Int32) (h : zH) (res : Int32) (hR : zRq h ρ) (e : s_X7_alike_L4 a1 n l2 l3 l4 l5 h = some res), zwp (d + 2) zm_X7_alike 4 [some (zr ((44, 7, 0) : zF)), some (zr ((a1, 3, 0) : zF)), some (zi l2), some (zi l3), some (zi l4), some (zi l5)] [] h (zQp h res) := by
  intro n
  induction n with
  | zero => intro l2 l3 l4 l5 h res hR e; cases e
  | succ n ih =>
    intro l2 l3 l4 l5 h res hR e
    rw [s_X7_alike_L4] at e
    refine zwp.go (m := 3) (j := 7) (ls' := [some (zr ((44, 7, 0) : zF)), some (zr ((a1, 3, 0) : zF)), some (zi l2), some (zi l3), some (zi l4), some (zi l5)]) (st' := [zi (zI h a1 8), zi l5]) (h' := h) rfl ?_
    refine zb_if (j := 25) (j2 := 8) e rfl (fun e => ?_) (fun e => ?_)
    · refine zwp.go (m := 1) (j := 26) (ls' := [some (zr ((44, 7, 0) : zF)), some (zr ((a1, 3, 0) : zF)), some (zi l2), some (zi l3), some (zi l4), some (zi l5)]) (st' := [zi l4]) (h' := h) rfl ?_
      cases e
      exact zwp.ret rfl rfl ⟨rfl, rfl⟩
    · refine zwp.go (m := 6) (j := 14) (ls' := [some (zr ((44, 7, 0) : zF)), some (zr ((a1, 3, 0) : zF)), some (zi l2), some (zi l3), some (zi l4), some (zi l5)]) (st' := [zi l5, zi l3, zi l2, zr ((a1, 3, 0) : zF), zr ((44, 7, 0) : zF), zi l4]) (h' := h) rfl ?_
      refine zc_cp (d := d + 1) e (fun q e => s_X7_turns_ok (d + 0) ρ hρ a1 l2 l3 l5 ha1 h q hR e) rfl rfl (fun v1 e => ?_)
      refine zb_if (j := 20) (j2 := 16) e rfl (fun e => ?_) (fun e => ?_)
      · refine zwp.go (m := 5) (j := 4) (ls' := [some (zr ((44, 7, 0) : zF)), some (zr ((a1, 3, 0) : zF)), some (zi l2), some (zi l3), some (zi (l4 ||| (0 : Int32))), some (zi (l5 + (1 : Int32)))]) (st' := []) (h' := h) rfl ?_
        exact ih l2 l3 (l4 ||| (0 : Int32)) (l5 + (1 : Int32)) h _ hR e
      · refine zwp.go (m := 8) (j := 4) (ls' := [some (zr ((44, 7, 0) : zF)), some (zr ((a1, 3, 0) : zF)), some (zi l2), some (zi l3), some (zi (l4 ||| ((1 : Int32) <<< (l5 &&& 31)))), some (zi (l5 + (1 : Int32)))]) (st' := []) (h' := h) rfl ?_
        exact ih l2 l3 (l4 ||| ((1 : Int32) <<< (l5 &&& 31))) (l5 + (1 : Int32)) h _ hR e
def s_X7_alike (a1 : Nat) (a2 : Int32) (a3 : Int32) (h : zH) : Option (Int32) := s_X7_alike_L4 a1 zfu a2 a3 (0 : Int32) (0 : Int32) h
theorem s_X7_alike_ok (d : Nat) (ρ : Nat → Nat → Option zF) (hρ : zSh ρ) (a1 : Nat) (a2 : Int32) (a3 : Int32) (ha1 : zPlS ρ a1) (h : zH) (res : Int32) (hR : zRq h ρ) (e : s_X7_alike a1 a2 a3 h = some res) : zcl (d + 2) 92 [zr ((44, 7, 0) : zF), zr ((a1, 3, 0) : zF), zi a2, zi a3] h (zQp h res) := by
  rw [s_X7_alike] at e
  refine ⟨zm_X7_alike, rfl, ?_⟩
  show zwp (d + 2) zm_X7_alike 0 [some (zr ((44, 7, 0) : zF)), some (zr ((a1, 3, 0) : zF)), some (zi a2), some (zi a3), none, none] [] h _
  refine zwp.go (m := 4) (j := 4) (ls' := [some (zr ((44, 7, 0) : zF)), some (zr ((a1, 3, 0) : zF)), some (zi a2), some (zi a3), some (zi (0 : Int32)), some (zi (0 : Int32))]) (st' := []) (h' := h) rfl ?_
  exact s_X7_alike_L4_ok d ρ hρ a1 ha1 zfu a2 a3 (0 : Int32) (0 : Int32) h _ hR e
def s_X7_kinds_L4 (a1 : Nat) : Nat → Int32 → Int32 → Int32 → zH → Option (Int32)
  | 0, _, _, _, _ => none
  | n + 1, l2, l3, l4, h => if (zI h a1 8) ≤ l4 then (some l3) else ((s_X7_alike a1 l2 l4 h).bind fun v1 => if ¬ (v1 &&& (((1 : Int32) <<< (l4 &&& 31)) - (1 : Int32))) = 0 then (s_X7_kinds_L4 a1 n l2 (l3 + (0 : Int32)) (l4 + (1 : Int32)) h) else (s_X7_kinds_L4 a1 n l2 (l3 + (1 : Int32)) (l4 + (1 : Int32)) h))
theorem s_X7_kinds_L4_ok (d : Nat) (ρ : Nat → Nat → Option zF) (hρ : zSh ρ) (a1 : Nat) (ha1 : zPlS ρ a1) : ∀ (n : Nat) (l2 : Int32) (l3 : Int32) (l4 : Int32) (h : zH) (res : Int32) (hR : zRq h ρ) (e : s_X7_kinds_L4 a1 n l2 l3 l4 h = some res), zwp (d + 3) zm_X7_kinds 4 [some (zr ((44, 7, 0) : zF)), some (zr ((a1, 3, 0) : zF)), some (zi l2), some (zi l3), some (zi l4), none] [] h (zQp h res) := by
  intro n
  induction n with
  | zero => intro l2 l3 l4 h res hR e; cases e
  | succ n ih =>
    intro l2 l3 l4 h res hR e
    rw [s_X7_kinds_L4] at e
    refine zwp.go (m := 3) (j := 7) (ls' := [some (zr ((44, 7, 0) : zF)), some (zr ((a1, 3, 0) : zF)), some (zi l2), some (zi l3), some (zi l4), none]) (st' := [zi (zI h a1 8), zi l4]) (h' := h) rfl ?_
    refine zb_if (j := 30) (j2 := 8) e rfl (fun e => ?_) (fun e => ?_)
    · refine zwp.go (m := 1) (j := 31) (ls' := [some (zr ((44, 7, 0) : zF)), some (zr ((a1, 3, 0) : zF)), some (zi l2), some (zi l3), some (zi l4), none]) (st' := [zi l3]) (h' := h) rfl ?_
      cases e
      exact zwp.ret rfl rfl ⟨rfl, rfl⟩
    · refine zwp.go (m := 4) (j := 12) (ls' := [some (zr ((44, 7, 0) : zF)), some (zr ((a1, 3, 0) : zF)), some (zi l2), some (zi l3), some (zi l4), none]) (st' := [zi l4, zi l2, zr ((a1, 3, 0) : zF), zr ((44, 7, 0) : zF)]) (h' := h) rfl ?_
      refine zc_cp (d := d + 2) e (fun q e => s_X7_alike_ok (d + 0) ρ hρ a1 l2 l4 ha1 h q hR e) rfl rfl (fun v1 e => ?_)
      refine zwp.go (m := 9) (j := 22) (ls' := [some (zr ((44, 7, 0) : zF)), some (zr ((a1, 3, 0) : zF)), some (zi l2), some (zi l3), some (zi l4), some (zi (v1 &&& (((1 : Int32) <<< (l4 &&& 31)) - (1 : Int32))))]) (st' := [zi (v1 &&& (((1 : Int32) <<< (l4 &&& 31)) - (1 : Int32))), zi l3]) (h' := h) rfl ?_
      refine zb_if (j := 25) (j2 := 23) e rfl (fun e => ?_) (fun e => ?_)
      · refine zwp.go (m := 5) (j := 4) (ls' := [some (zr ((44, 7, 0) : zF)), some (zr ((a1, 3, 0) : zF)), some (zi l2), some (zi (l3 + (0 : Int32))), some (zi (l4 + (1 : Int32))), some (zi (v1 &&& (((1 : Int32) <<< (l4 &&& 31)) - (1 : Int32))))]) (st' := []) (h' := h) rfl ?_
        refine zwp.fg (a := [some (zr ((44, 7, 0) : zF)), some (zr ((a1, 3, 0) : zF)), some (zi l2), some (zi (l3 + (0 : Int32))), some (zi (l4 + (1 : Int32))), none]) (And.intro rfl (And.intro rfl (And.intro rfl (And.intro rfl (And.intro rfl trivial))))) ?_
        exact ih l2 (l3 + (0 : Int32)) (l4 + (1 : Int32)) h _ hR e
      · refine zwp.go (m := 6) (j := 4) (ls' := [some (zr ((44, 7, 0) : zF)), some (zr ((a1, 3, 0) : zF)), some (zi l2), some (zi (l3 + (1 : Int32))), some (zi (l4 + (1 : Int32))), some (zi (v1 &&& (((1 : Int32) <<< (l4 &&& 31)) - (1 : Int32))))]) (st' := []) (h' := h) rfl ?_
        refine zwp.fg (a := [some (zr ((44, 7, 0) : zF)), some (zr ((a1, 3, 0) : zF)), some (zi l2), some (zi (l3 + (1 : Int32))), some (zi (l4 + (1 : Int32))), none]) (And.intro rfl (And.intro rfl (And.intro rfl (And.intro rfl (And.intro rfl trivial))))) ?_
        exact ih l2 (l3 + (1 : Int32)) (l4 + (1 : Int32)) h _ hR e
def s_X7_kinds (a1 : Nat) (a2 : Int32) (h : zH) : Option (Int32) := s_X7_kinds_L4 a1 zfu a2 (0 : Int32) (0 : Int32) h
theorem s_X7_kinds_ok (d : Nat) (ρ : Nat → Nat → Option zF) (hρ : zSh ρ) (a1 : Nat) (a2 : Int32) (ha1 : zPlS ρ a1) (h : zH) (res : Int32) (hR : zRq h ρ) (e : s_X7_kinds a1 a2 h = some res) : zcl (d + 3) 93 [zr ((44, 7, 0) : zF), zr ((a1, 3, 0) : zF), zi a2] h (zQp h res) := by
  rw [s_X7_kinds] at e
  refine ⟨zm_X7_kinds, rfl, ?_⟩
  show zwp (d + 3) zm_X7_kinds 0 [some (zr ((44, 7, 0) : zF)), some (zr ((a1, 3, 0) : zF)), some (zi a2), none, none, none] [] h _
  refine zwp.go (m := 4) (j := 4) (ls' := [some (zr ((44, 7, 0) : zF)), some (zr ((a1, 3, 0) : zF)), some (zi a2), some (zi (0 : Int32)), some (zi (0 : Int32)), none]) (st' := []) (h' := h) rfl ?_
  exact s_X7_kinds_L4_ok d ρ hρ a1 ha1 zfu a2 (0 : Int32) (0 : Int32) h _ hR e
def s_X10_count (pp : Nat) (a1 : Int32) (h : zH) : Option ((Int32 ⊕ Nat) × zH) := if a1 = 0 then (some (Sum.inl (zI h pp 6), h)) else if a1 = 1 then (some (Sum.inl (zI h pp 8), h)) else if a1 = 2 then (some (Sum.inl (zI h 19 6), h)) else if a1 = 3 then (some (Sum.inl (zI h 22 0), h)) else if a1 = 4 then (some (Sum.inl (zI h 22 1), h)) else if a1 = 5 then (some (Sum.inl (zI h 19 7), h)) else if a1 = 6 then (some (Sum.inl (zI h 19 8), h)) else if a1 = 7 then ((s_X8_goneBits 19 (zI h pp 6) h).bind fun v1 => some (Sum.inl v1, h)) else if a1 = 8 then (some (Sum.inl (zI h 19 5), h)) else if a1 = 9 then ((s_X10_aliveNow pp h).bind fun v2 => (s_X7_kinds pp v2 h).bind fun v3 => some (Sum.inl v3, h)) else if a1 = 10 then (some (Sum.inl (zI h 18 6), h)) else if a1 = 11 then (some (Sum.inl (zI h 18 7), h)) else if a1 = 12 then (some (Sum.inl (zI h 0 1), h)) else if a1 = 13 then (some (Sum.inl (zI h 28 0), h)) else if a1 = 14 then (some (Sum.inl (zI h 28 1), h)) else if a1 = 15 then (some (Sum.inl (zI h 28 2), h)) else (some (Sum.inr 1, zth h))
theorem s_X10_count_ok (d : Nat) (ρ : Nat → Nat → Option zF) (hρ : zSh ρ) (pp : Nat) (a1 : Int32) (hpp : ρ 0 3 = some (pp, 3, 0) ∧ zPlS ρ pp) (h : zH) (res : (Int32 ⊕ Nat) × zH) (hR : zRq h ρ) (e : s_X10_count pp a1 h = some res) : zcl (d + 4) 94 [zr ((0, 10, 0) : zF), zi a1] h (zQx ρ res) := by
  rw [s_X10_count] at e
  refine ⟨zm_X10_count, rfl, ?_⟩
  show zwp (d + 4) zm_X10_count 0 [some (zr ((0, 10, 0) : zF)), some (zi a1), none] [] h _
  refine zwp.go (m := 1) (j := 1) (ls' := [some (zr ((0, 10, 0) : zF)), some (zi a1), none]) (st' := [zr ((0, 10, 0) : zF)]) (h' := h) rfl ?_
  refine zc_sr (r := ((18, 2, 0) : zF)) (zrf (a := 0) (y := 6) hR rfl (hρ 0 6 rfl)) rfl ?_
  refine zc_sr (r := ((19, 8, 0) : zF)) (zrf (a := 18) (y := 0) hR rfl (zSh_ld18 hρ).2.1) rfl ?_
  refine zwp.go (m := 2) (j := 5) (ls' := [some (zr ((0, 10, 0) : zF)), some (zi a1), some (zr ((19, 8, 0) : zF))]) (st' := [zi a1]) (h' := h) rfl ?_
  refine zwp.nx (j := zsw [(0, 6), (1, 10), (2, 14), (3, 17), (4, 22), (5, 27), (6, 30), (7, 33), (8, 39), (9, 42), (10, 50), (11, 54), (12, 58), (13, 61), (14, 67), (15, 73)] 79 a1) (ls' := [some (zr ((0, 10, 0) : zF)), some (zi a1), some (zr ((19, 8, 0) : zF))]) (st' := []) (h' := h) rfl ?_
  refine zb_sw e (fun e => ?_) (fun e => ?_)
  · refine zwp.go (m := 1) (j := 7) (ls' := [some (zr ((0, 10, 0) : zF)), some (zi a1), some (zr ((19, 8, 0) : zF))]) (st' := [zr ((0, 10, 0) : zF)]) (h' := h) rfl ?_
    refine zc_sr (r := ((pp, 3, 0) : zF)) (zrf (a := 0) (y := 3) hR rfl hpp.1) rfl ?_
    refine zwp.go (m := 1) (j := 9) (ls' := [some (zr ((0, 10, 0) : zF)), some (zi a1), some (zr ((19, 8, 0) : zF))]) (st' := [zi (zI h pp 6)]) (h' := h) rfl ?_
    cases e
    exact zwp.ret rfl rfl ⟨⟨rfl, rfl⟩, hR⟩
  refine zb_sw e (fun e => ?_) (fun e => ?_)
  · refine zwp.go (m := 1) (j := 11) (ls' := [some (zr ((0, 10, 0) : zF)), some (zi a1), some (zr ((19, 8, 0) : zF))]) (st' := [zr ((0, 10, 0) : zF)]) (h' := h) rfl ?_
    refine zc_sr (r := ((pp, 3, 0) : zF)) (zrf (a := 0) (y := 3) hR rfl hpp.1) rfl ?_
    refine zwp.go (m := 1) (j := 13) (ls' := [some (zr ((0, 10, 0) : zF)), some (zi a1), some (zr ((19, 8, 0) : zF))]) (st' := [zi (zI h pp 8)]) (h' := h) rfl ?_
    cases e
    exact zwp.ret rfl rfl ⟨⟨rfl, rfl⟩, hR⟩
  refine zb_sw e (fun e => ?_) (fun e => ?_)
  · refine zwp.go (m := 2) (j := 16) (ls' := [some (zr ((0, 10, 0) : zF)), some (zi a1), some (zr ((19, 8, 0) : zF))]) (st' := [zi (zI h 19 6)]) (h' := h) rfl ?_
    cases e
    exact zwp.ret rfl rfl ⟨⟨rfl, rfl⟩, hR⟩
  refine zb_sw e (fun e => ?_) (fun e => ?_)
  · refine zwp.go (m := 1) (j := 18) (ls' := [some (zr ((0, 10, 0) : zF)), some (zi a1), some (zr ((19, 8, 0) : zF))]) (st' := [zr ((19, 8, 0) : zF)]) (h' := h) rfl ?_
    refine zc_sr (r := ((22, 20, 2) : zF)) (zrf (a := 19) (y := 2) hR rfl (zSh_st19 hρ).2.2.2.1) rfl ?_
    refine zwp.go (m := 2) (j := 21) (ls' := [some (zr ((0, 10, 0) : zF)), some (zi a1), some (zr ((19, 8, 0) : zF))]) (st' := [zi (zI h 22 0)]) (h' := h) rfl ?_
    cases e
    exact zwp.ret rfl rfl ⟨⟨rfl, rfl⟩, hR⟩
  refine zb_sw e (fun e => ?_) (fun e => ?_)
  · refine zwp.go (m := 1) (j := 23) (ls' := [some (zr ((0, 10, 0) : zF)), some (zi a1), some (zr ((19, 8, 0) : zF))]) (st' := [zr ((19, 8, 0) : zF)]) (h' := h) rfl ?_
    refine zc_sr (r := ((22, 20, 2) : zF)) (zrf (a := 19) (y := 2) hR rfl (zSh_st19 hρ).2.2.2.1) rfl ?_
    refine zwp.go (m := 2) (j := 26) (ls' := [some (zr ((0, 10, 0) : zF)), some (zi a1), some (zr ((19, 8, 0) : zF))]) (st' := [zi (zI h 22 1)]) (h' := h) rfl ?_
    cases e
    exact zwp.ret rfl rfl ⟨⟨rfl, rfl⟩, hR⟩
  refine zb_sw e (fun e => ?_) (fun e => ?_)
  · refine zwp.go (m := 2) (j := 29) (ls' := [some (zr ((0, 10, 0) : zF)), some (zi a1), some (zr ((19, 8, 0) : zF))]) (st' := [zi (zI h 19 7)]) (h' := h) rfl ?_
    cases e
    exact zwp.ret rfl rfl ⟨⟨rfl, rfl⟩, hR⟩
  refine zb_sw e (fun e => ?_) (fun e => ?_)
  · refine zwp.go (m := 2) (j := 32) (ls' := [some (zr ((0, 10, 0) : zF)), some (zi a1), some (zr ((19, 8, 0) : zF))]) (st' := [zi (zI h 19 8)]) (h' := h) rfl ?_
    cases e
    exact zwp.ret rfl rfl ⟨⟨rfl, rfl⟩, hR⟩
  refine zb_sw e (fun e => ?_) (fun e => ?_)
  · refine zwp.go (m := 2) (j := 35) (ls' := [some (zr ((0, 10, 0) : zF)), some (zi a1), some (zr ((19, 8, 0) : zF))]) (st' := [zr ((0, 10, 0) : zF), zr ((19, 8, 0) : zF)]) (h' := h) rfl ?_
    refine zc_sr (r := ((pp, 3, 0) : zF)) (zrf (a := 0) (y := 3) hR rfl hpp.1) rfl ?_
    refine zwp.go (m := 1) (j := 37) (ls' := [some (zr ((0, 10, 0) : zF)), some (zi a1), some (zr ((19, 8, 0) : zF))]) (st' := [zi (zI h pp 6), zr ((19, 8, 0) : zF)]) (h' := h) rfl ?_
    refine zc_cp (d := d + 3) e (fun q e => s_X8_goneBits_ok (d + 2) ρ hρ 19 (zI h pp 6) (zSh_st19 hρ) h q hR e) rfl rfl (fun v1 e => ?_)
    cases e
    exact zwp.ret rfl rfl ⟨⟨rfl, rfl⟩, hR⟩
  refine zb_sw e (fun e => ?_) (fun e => ?_)
  · refine zwp.go (m := 2) (j := 41) (ls' := [some (zr ((0, 10, 0) : zF)), some (zi a1), some (zr ((19, 8, 0) : zF))]) (st' := [zi (zI h 19 5)]) (h' := h) rfl ?_
    cases e
    exact zwp.ret rfl rfl ⟨⟨rfl, rfl⟩, hR⟩
  refine zb_sw e (fun e => ?_) (fun e => ?_)
  · refine zwp.go (m := 1) (j := 43) (ls' := [some (zr ((0, 10, 0) : zF)), some (zi a1), some (zr ((19, 8, 0) : zF))]) (st' := [zr ((0, 10, 0) : zF)]) (h' := h) rfl ?_
    refine zc_sr (r := ((44, 7, 0) : zF)) (zrf (a := 0) (y := 12) hR rfl (hρ 0 12 rfl)) rfl ?_
    refine zwp.go (m := 1) (j := 45) (ls' := [some (zr ((0, 10, 0) : zF)), some (zi a1), some (zr ((19, 8, 0) : zF))]) (st' := [zr ((0, 10, 0) : zF), zr ((44, 7, 0) : zF)]) (h' := h) rfl ?_
    refine zc_sr (r := ((pp, 3, 0) : zF)) (zrf (a := 0) (y := 3) hR rfl hpp.1) rfl ?_
    refine zwp.go (m := 1) (j := 47) (ls' := [some (zr ((0, 10, 0) : zF)), some (zi a1), some (zr ((19, 8, 0) : zF))]) (st' := [zr ((0, 10, 0) : zF), zr ((pp, 3, 0) : zF), zr ((44, 7, 0) : zF)]) (h' := h) rfl ?_
    refine zc_cp (d := d + 3) e (fun q e => s_X10_aliveNow_ok (d + 2) ρ hρ pp hpp h q hR e) rfl rfl (fun v2 e => ?_)
    refine zc_cp (d := d + 3) e (fun q e => s_X7_kinds_ok (d + 0) ρ hρ pp v2 hpp.2 h q hR e) rfl rfl (fun v3 e => ?_)
    cases e
    exact zwp.ret rfl rfl ⟨⟨rfl, rfl⟩, hR⟩
  refine zb_sw e (fun e => ?_) (fun e => ?_)
  · refine zwp.go (m := 1) (j := 51) (ls' := [some (zr ((0, 10, 0) : zF)), some (zi a1), some (zr ((19, 8, 0) : zF))]) (st' := [zr ((0, 10, 0) : zF)]) (h' := h) rfl ?_
    refine zc_sr (r := ((18, 2, 0) : zF)) (zrf (a := 0) (y := 6) hR rfl (hρ 0 6 rfl)) rfl ?_
    refine zwp.go (m := 1) (j := 53) (ls' := [some (zr ((0, 10, 0) : zF)), some (zi a1), some (zr ((19, 8, 0) : zF))]) (st' := [zi (zI h 18 6)]) (h' := h) rfl ?_
    cases e
    exact zwp.ret rfl rfl ⟨⟨rfl, rfl⟩, hR⟩
  refine zb_sw e (fun e => ?_) (fun e => ?_)
  · refine zwp.go (m := 1) (j := 55) (ls' := [some (zr ((0, 10, 0) : zF)), some (zi a1), some (zr ((19, 8, 0) : zF))]) (st' := [zr ((0, 10, 0) : zF)]) (h' := h) rfl ?_
    refine zc_sr (r := ((18, 2, 0) : zF)) (zrf (a := 0) (y := 6) hR rfl (hρ 0 6 rfl)) rfl ?_
    refine zwp.go (m := 1) (j := 57) (ls' := [some (zr ((0, 10, 0) : zF)), some (zi a1), some (zr ((19, 8, 0) : zF))]) (st' := [zi (zI h 18 7)]) (h' := h) rfl ?_
    cases e
    exact zwp.ret rfl rfl ⟨⟨rfl, rfl⟩, hR⟩
  refine zb_sw e (fun e => ?_) (fun e => ?_)
  · refine zwp.go (m := 2) (j := 60) (ls' := [some (zr ((0, 10, 0) : zF)), some (zi a1), some (zr ((19, 8, 0) : zF))]) (st' := [zi (zI h 0 1)]) (h' := h) rfl ?_
    cases e
    exact zwp.ret rfl rfl ⟨⟨rfl, rfl⟩, hR⟩
  refine zb_sw e (fun e => ?_) (fun e => ?_)
  · refine zwp.go (m := 1) (j := 62) (ls' := [some (zr ((0, 10, 0) : zF)), some (zi a1), some (zr ((19, 8, 0) : zF))]) (st' := [zr ((0, 10, 0) : zF)]) (h' := h) rfl ?_
    refine zc_sr (r := ((18, 2, 0) : zF)) (zrf (a := 0) (y := 6) hR rfl (hρ 0 6 rfl)) rfl ?_
    refine zc_sr (r := ((28, 20, 3) : zF)) (zrf (a := 18) (y := 4) hR rfl (zSh_ld18 hρ).2.2.2.2.2.1) rfl ?_
    refine zwp.go (m := 2) (j := 66) (ls' := [some (zr ((0, 10, 0) : zF)), some (zi a1), some (zr ((19, 8, 0) : zF))]) (st' := [zi (zI h 28 0)]) (h' := h) rfl ?_
    cases e
    exact zwp.ret rfl rfl ⟨⟨rfl, rfl⟩, hR⟩
  refine zb_sw e (fun e => ?_) (fun e => ?_)
  · refine zwp.go (m := 1) (j := 68) (ls' := [some (zr ((0, 10, 0) : zF)), some (zi a1), some (zr ((19, 8, 0) : zF))]) (st' := [zr ((0, 10, 0) : zF)]) (h' := h) rfl ?_
    refine zc_sr (r := ((18, 2, 0) : zF)) (zrf (a := 0) (y := 6) hR rfl (hρ 0 6 rfl)) rfl ?_
    refine zc_sr (r := ((28, 20, 3) : zF)) (zrf (a := 18) (y := 4) hR rfl (zSh_ld18 hρ).2.2.2.2.2.1) rfl ?_
    refine zwp.go (m := 2) (j := 72) (ls' := [some (zr ((0, 10, 0) : zF)), some (zi a1), some (zr ((19, 8, 0) : zF))]) (st' := [zi (zI h 28 1)]) (h' := h) rfl ?_
    cases e
    exact zwp.ret rfl rfl ⟨⟨rfl, rfl⟩, hR⟩
  refine zb_sw e (fun e => ?_) (fun e => ?_)
  · refine zwp.go (m := 1) (j := 74) (ls' := [some (zr ((0, 10, 0) : zF)), some (zi a1), some (zr ((19, 8, 0) : zF))]) (st' := [zr ((0, 10, 0) : zF)]) (h' := h) rfl ?_
    refine zc_sr (r := ((18, 2, 0) : zF)) (zrf (a := 0) (y := 6) hR rfl (hρ 0 6 rfl)) rfl ?_
    refine zc_sr (r := ((28, 20, 3) : zF)) (zrf (a := 18) (y := 4) hR rfl (zSh_ld18 hρ).2.2.2.2.2.1) rfl ?_
    refine zwp.go (m := 2) (j := 78) (ls' := [some (zr ((0, 10, 0) : zF)), some (zi a1), some (zr ((19, 8, 0) : zF))]) (st' := [zi (zI h 28 2)]) (h' := h) rfl ?_
    cases e
    exact zwp.ret rfl rfl ⟨⟨rfl, rfl⟩, hR⟩
  cases e
  exact zwp.th rfl rfl ⟨⟨rfl, rfl⟩, hR⟩
def s_L_count (pp : Nat) (a1 : Int32) (a2 n2 : Nat) (h : zH) : Option (Int32 × zH) := zbx (s_X10_count pp a1 h) (fun v3 h2 => zix (0 : Int32) n2 fun i5 => zlt (zwL h2 a2 i5 v3.toInt64) fun h4 => some ((0 : Int32), h4)) (fun x h1 => if x = 1 then (some ((1 : Int32), h1)) else none)
theorem s_L_count_ok (d : Nat) (ρ : Nat → Nat → Option zF) (hρ : zSh ρ) (pp : Nat) (a1 : Int32) (a2 n2 : Nat) (hpp : ρ 0 3 = some (pp, 3, 0) ∧ zPlS ρ pp) (h : zH) (res : Int32 × zH) (hR : zRq h ρ) (e : s_L_count pp a1 a2 n2 h = some res) : zcl (d + 5) 95 [zr ((0, 10, 0) : zF), zi a1, zr ((a2, 23, n2) : zF)] h (zQi ρ res) := by
  rw [s_L_count] at e
  refine ⟨zm_L_count, rfl, ?_⟩
  show zwp (d + 5) zm_L_count 0 [some (zr ((0, 10, 0) : zF)), some (zi a1), some (zr ((a2, 23, n2) : zF)), none] [] h _
  refine zwp.go (m := 4) (j := 4) (ls' := [some (zr ((0, 10, 0) : zF)), some (zi a1), some (zr ((a2, 23, n2) : zF)), none]) (st' := [zi a1, zr ((0, 10, 0) : zF), zi (0 : Int32), zr ((a2, 23, n2) : zF)]) (h' := h) rfl ?_
  refine zc_cx (d := d + 4) e (fun q e => s_X10_count_ok (d + 0) ρ hρ pp a1 hpp h q hR e) rfl rfl (fun v3 h2 hR2 e => ?_) (fun x h1 hR1 e => ?_)
  · refine zwp.go (m := 1) (j := 6) (ls' := [some (zr ((0, 10, 0) : zF)), some (zi a1), some (zr ((a2, 23, n2) : zF)), none]) (st' := [zl v3.toInt64, zi (0 : Int32), zr ((a2, 23, n2) : zF)]) (h' := h2) rfl ?_
    refine zc_sl e (fun _ => rfl) hR2 (fun h4 hR4 e => ?_)
    refine zwp.go (m := 2) (j := 12) (ls' := [some (zr ((0, 10, 0) : zF)), some (zi a1), some (zr ((a2, 23, n2) : zF)), none]) (st' := [zi (0 : Int32)]) (h' := h4) rfl ?_
    cases e
    exact zwp.ret rfl rfl ⟨⟨rfl, rfl⟩, hR4⟩
  · by_cases q1 : x = 1
    · subst q1
      replace e : (some ((1 : Int32), h1)) = some res := by simpa using e
      show zwp _ _ 9 [some (zr ((0, 10, 0) : zF)), some (zi a1), some (zr ((a2, 23, n2) : zF)), none] [] _ _
      refine zwp.go (m := 1) (j := 10) (ls' := [some (zr ((0, 10, 0) : zF)), some (zi a1), some (zr ((a2, 23, n2) : zF)), none]) (st' := [zi (1 : Int32)]) (h' := h1) rfl ?_
      cases e
      exact zwp.ret rfl rfl ⟨⟨rfl, rfl⟩, hR1⟩
    · skip
      simp [q1] at e
def s_X11_goneNow_L4 : Nat → Int32 → Int32 → zH → Option (Int32)
  | 0, _, _, _ => none
  | n + 1, l1, l2, h => if (zI h 56 0) ≤ l2 then (some l1) else (zix l2 12 fun i1 => if ¬ (zI h 64 i1) = 0 then (s_X11_goneNow_L4 n (l1 ||| (0 : Int32)) (l2 + (1 : Int32)) h) else (s_X11_goneNow_L4 n (l1 ||| ((1 : Int32) <<< (l2 &&& 31))) (l2 + (1 : Int32)) h))
theorem s_X11_goneNow_L4_ok (d : Nat) (ρ : Nat → Nat → Option zF) (hρ : zSh ρ) : ∀ (n : Nat) (l1 : Int32) (l2 : Int32) (h : zH) (res : Int32) (hR : zRq h ρ) (e : s_X11_goneNow_L4  n l1 l2 h = some res), zwp d zm_X11_goneNow 4 [some (zr ((52, 11, 0) : zF)), some (zi l1), some (zi l2)] [] h (zQp h res) := by
  intro n
  induction n with
  | zero => intro l1 l2 h res hR e; cases e
  | succ n ih =>
    intro l1 l2 h res hR e
    rw [s_X11_goneNow_L4] at e
    refine zwp.go (m := 2) (j := 6) (ls' := [some (zr ((52, 11, 0) : zF)), some (zi l1), some (zi l2)]) (st' := [zr ((52, 11, 0) : zF), zi l2]) (h' := h) rfl ?_
    refine zc_sr (r := ((56, 20, 12) : zF)) (zrf (a := 52) (y := 5) hR rfl (hρ 52 5 rfl)) rfl ?_
    refine zwp.go (m := 2) (j := 9) (ls' := [some (zr ((52, 11, 0) : zF)), some (zi l1), some (zi l2)]) (st' := [zi (zI h 56 0), zi l2]) (h' := h) rfl ?_
    refine zb_if (j := 25) (j2 := 10) e rfl (fun e => ?_) (fun e => ?_)
    · refine zwp.go (m := 1) (j := 26) (ls' := [some (zr ((52, 11, 0) : zF)), some (zi l1), some (zi l2)]) (st' := [zi l1]) (h' := h) rfl ?_
      cases e
      exact zwp.ret rfl rfl ⟨rfl, rfl⟩
    · refine zwp.go (m := 2) (j := 12) (ls' := [some (zr ((52, 11, 0) : zF)), some (zi l1), some (zi l2)]) (st' := [zr ((52, 11, 0) : zF), zi l1]) (h' := h) rfl ?_
      refine zc_sr (r := ((64, 20, 12) : zF)) (zrf (a := 52) (y := 24) hR rfl (hρ 52 24 rfl)) rfl ?_
      refine zwp.go (m := 1) (j := 14) (ls' := [some (zr ((52, 11, 0) : zF)), some (zi l1), some (zi l2)]) (st' := [zi l2, zr ((64, 20, 12) : zF), zi l1]) (h' := h) rfl ?_
      refine zc_ai e (fun _ => rfl) (fun i1 e => ?_)
      refine zb_if (j := 20) (j2 := 16) e rfl (fun e => ?_) (fun e => ?_)
      · refine zwp.go (m := 5) (j := 4) (ls' := [some (zr ((52, 11, 0) : zF)), some (zi (l1 ||| (0 : Int32))), some (zi (l2 + (1 : Int32)))]) (st' := []) (h' := h) rfl ?_
        exact ih (l1 ||| (0 : Int32)) (l2 + (1 : Int32)) h _ hR e
      · refine zwp.go (m := 8) (j := 4) (ls' := [some (zr ((52, 11, 0) : zF)), some (zi (l1 ||| ((1 : Int32) <<< (l2 &&& 31)))), some (zi (l2 + (1 : Int32)))]) (st' := []) (h' := h) rfl ?_
        exact ih (l1 ||| ((1 : Int32) <<< (l2 &&& 31))) (l2 + (1 : Int32)) h _ hR e
def s_X11_goneNow (h : zH) : Option (Int32) := s_X11_goneNow_L4 zfu (0 : Int32) (0 : Int32) h
theorem s_X11_goneNow_ok (d : Nat) (ρ : Nat → Nat → Option zF) (hρ : zSh ρ) (h : zH) (res : Int32) (hR : zRq h ρ) (e : s_X11_goneNow  h = some res) : zcl d 96 [zr ((52, 11, 0) : zF)] h (zQp h res) := by
  rw [s_X11_goneNow] at e
  refine ⟨zm_X11_goneNow, rfl, ?_⟩
  show zwp d zm_X11_goneNow 0 [some (zr ((52, 11, 0) : zF)), none, none] [] h _
  refine zwp.go (m := 4) (j := 4) (ls' := [some (zr ((52, 11, 0) : zF)), some (zi (0 : Int32)), some (zi (0 : Int32))]) (st' := []) (h' := h) rfl ?_
  exact s_X11_goneNow_L4_ok d ρ hρ zfu (0 : Int32) (0 : Int32) h _ hR e
def s_X11_all (h : zH) : Option (Int32) := some (((1 : Int32) <<< ((zI h 56 0) &&& 31)) - (1 : Int32))
theorem s_X11_all_ok (d : Nat) (ρ : Nat → Nat → Option zF) (hρ : zSh ρ) (h : zH) (res : Int32) (hR : zRq h ρ) (e : s_X11_all  h = some res) : zcl d 97 [zr ((52, 11, 0) : zF)] h (zQp h res) := by
  rw [s_X11_all] at e
  refine ⟨zm_X11_all, rfl, ?_⟩
  show zwp d zm_X11_all 0 [some (zr ((52, 11, 0) : zF))] [] h _
  refine zwp.go (m := 2) (j := 2) (ls' := [some (zr ((52, 11, 0) : zF))]) (st' := [zr ((52, 11, 0) : zF), zi (1 : Int32)]) (h' := h) rfl ?_
  refine zc_sr (r := ((56, 20, 12) : zF)) (zrf (a := 52) (y := 5) hR rfl (hρ 52 5 rfl)) rfl ?_
  refine zwp.go (m := 5) (j := 8) (ls' := [some (zr ((52, 11, 0) : zF))]) (st' := [zi (((1 : Int32) <<< ((zI h 56 0) &&& 31)) - (1 : Int32))]) (h' := h) rfl ?_
  cases e
  exact zwp.ret rfl rfl ⟨rfl, rfl⟩
def s_X11_thereNow (h : zH) : Option (Int32) := (s_X11_all h).bind fun v1 => (s_X11_goneNow h).bind fun v2 => some (v1 &&& (v2 ^^^ (-1 : Int32)))
theorem s_X11_thereNow_ok (d : Nat) (ρ : Nat → Nat → Option zF) (hρ : zSh ρ) (h : zH) (res : Int32) (hR : zRq h ρ) (e : s_X11_thereNow  h = some res) : zcl (d + 1) 98 [zr ((52, 11, 0) : zF)] h (zQp h res) := by
  rw [s_X11_thereNow] at e
  refine ⟨zm_X11_thereNow, rfl, ?_⟩
  show zwp (d + 1) zm_X11_thereNow 0 [some (zr ((52, 11, 0) : zF))] [] h _
  refine zwp.go (m := 1) (j := 1) (ls' := [some (zr ((52, 11, 0) : zF))]) (st' := [zr ((52, 11, 0) : zF)]) (h' := h) rfl ?_
  refine zc_cp (d := d + 0) e (fun q e => s_X11_all_ok (d + 0) ρ hρ h q hR e) rfl rfl (fun v1 e => ?_)
  refine zwp.go (m := 1) (j := 3) (ls' := [some (zr ((52, 11, 0) : zF))]) (st' := [zr ((52, 11, 0) : zF), zi v1]) (h' := h) rfl ?_
  refine zc_cp (d := d + 0) e (fun q e => s_X11_goneNow_ok (d + 0) ρ hρ h q hR e) rfl rfl (fun v2 e => ?_)
  refine zwp.go (m := 3) (j := 7) (ls' := [some (zr ((52, 11, 0) : zF))]) (st' := [zi (v1 &&& (v2 ^^^ (-1 : Int32)))]) (h' := h) rfl ?_
  cases e
  exact zwp.ret rfl rfl ⟨rfl, rfl⟩
def s_X11_alikeBy_L4 : Nat → Int32 → Int32 → Int32 → Int32 → zH → Option (Int32)
  | 0, _, _, _, _, _ => none
  | n + 1, l1, l2, l3, l4, h => if (zI h 56 1) ≤ l4 then (some l3) else (zix l4 16 fun i1 => zix l1 16 fun i2 => if ¬ (((zI h 59 i1) ^^^ (zI h 59 i2)) &&& l2) = 0 then (s_X11_alikeBy_L4 n l1 l2 (l3 ||| (0 : Int32)) (l4 + (1 : Int32)) h) else (s_X11_alikeBy_L4 n l1 l2 (l3 ||| ((1 : Int32) <<< (l4 &&& 31))) (l4 + (1 : Int32)) h))
theorem s_X11_alikeBy_L4_ok (d : Nat) (ρ : Nat → Nat → Option zF) (hρ : zSh ρ) : ∀ (n : Nat) (l1 : Int32) (l2 : Int32) (l3 : Int32) (l4 : Int32) (h : zH) (res : Int32) (hR : zRq h ρ) (e : s_X11_alikeBy_L4  n l1 l2 l3 l4 h = some res), zwp d zm_X11_alikeBy 4 [some (zr ((52, 11, 0) : zF)), some (zi l1), some (zi l2), some (zi l3), some (zi l4)] [] h (zQp h res) := by
  intro n
  induction n with
  | zero => intro l1 l2 l3 l4 h res hR e; cases e
  | succ n ih =>
    intro l1 l2 l3 l4 h res hR e
    rw [s_X11_alikeBy_L4] at e
    refine zwp.go (m := 2) (j := 6) (ls' := [some (zr ((52, 11, 0) : zF)), some (zi l1), some (zi l2), some (zi l3), some (zi l4)]) (st' := [zr ((52, 11, 0) : zF), zi l4]) (h' := h) rfl ?_
    refine zc_sr (r := ((56, 20, 12) : zF)) (zrf (a := 52) (y := 5) hR rfl (hρ 52 5 rfl)) rfl ?_
    refine zwp.go (m := 2) (j := 9) (ls' := [some (zr ((52, 11, 0) : zF)), some (zi l1), some (zi l2), some (zi l3), some (zi l4)]) (st' := [zi (zI h 56 1), zi l4]) (h' := h) rfl ?_
    refine zb_if (j := 32) (j2 := 10) e rfl (fun e => ?_) (fun e => ?_)
    · refine zwp.go (m := 1) (j := 33) (ls' := [some (zr ((52, 11, 0) : zF)), some (zi l1), some (zi l2), some (zi l3), some (zi l4)]) (st' := [zi l3]) (h' := h) rfl ?_
      cases e
      exact zwp.ret rfl rfl ⟨rfl, rfl⟩
    · refine zwp.go (m := 2) (j := 12) (ls' := [some (zr ((52, 11, 0) : zF)), some (zi l1), some (zi l2), some (zi l3), some (zi l4)]) (st' := [zr ((52, 11, 0) : zF), zi l3]) (h' := h) rfl ?_
      refine zc_sr (r := ((59, 20, 16) : zF)) (zrf (a := 52) (y := 8) hR rfl (hρ 52 8 rfl)) rfl ?_
      refine zwp.go (m := 1) (j := 14) (ls' := [some (zr ((52, 11, 0) : zF)), some (zi l1), some (zi l2), some (zi l3), some (zi l4)]) (st' := [zi l4, zr ((59, 20, 16) : zF), zi l3]) (h' := h) rfl ?_
      refine zc_ai e (fun _ => rfl) (fun i1 e => ?_)
      refine zwp.go (m := 1) (j := 16) (ls' := [some (zr ((52, 11, 0) : zF)), some (zi l1), some (zi l2), some (zi l3), some (zi l4)]) (st' := [zr ((52, 11, 0) : zF), zi (zI h 59 i1), zi l3]) (h' := h) rfl ?_
      refine zc_sr (r := ((59, 20, 16) : zF)) (zrf (a := 52) (y := 8) hR rfl (hρ 52 8 rfl)) rfl ?_
      refine zwp.go (m := 1) (j := 18) (ls' := [some (zr ((52, 11, 0) : zF)), some (zi l1), some (zi l2), some (zi l3), some (zi l4)]) (st' := [zi l1, zr ((59, 20, 16) : zF), zi (zI h 59 i1), zi l3]) (h' := h) rfl ?_
      refine zc_ai e (fun _ => rfl) (fun i2 e => ?_)
      refine zwp.go (m := 3) (j := 22) (ls' := [some (zr ((52, 11, 0) : zF)), some (zi l1), some (zi l2), some (zi l3), some (zi l4)]) (st' := [zi (((zI h 59 i1) ^^^ (zI h 59 i2)) &&& l2), zi l3]) (h' := h) rfl ?_
      refine zb_if (j := 27) (j2 := 23) e rfl (fun e => ?_) (fun e => ?_)
      · refine zwp.go (m := 5) (j := 4) (ls' := [some (zr ((52, 11, 0) : zF)), some (zi l1), some (zi l2), some (zi (l3 ||| (0 : Int32))), some (zi (l4 + (1 : Int32)))]) (st' := []) (h' := h) rfl ?_
        exact ih l1 l2 (l3 ||| (0 : Int32)) (l4 + (1 : Int32)) h _ hR e
      · refine zwp.go (m := 8) (j := 4) (ls' := [some (zr ((52, 11, 0) : zF)), some (zi l1), some (zi l2), some (zi (l3 ||| ((1 : Int32) <<< (l4 &&& 31)))), some (zi (l4 + (1 : Int32)))]) (st' := []) (h' := h) rfl ?_
        exact ih l1 l2 (l3 ||| ((1 : Int32) <<< (l4 &&& 31))) (l4 + (1 : Int32)) h _ hR e
def s_X11_alikeBy (a1 : Int32) (a2 : Int32) (h : zH) : Option (Int32) := s_X11_alikeBy_L4 zfu a1 a2 (0 : Int32) (0 : Int32) h
theorem s_X11_alikeBy_ok (d : Nat) (ρ : Nat → Nat → Option zF) (hρ : zSh ρ) (a1 : Int32) (a2 : Int32) (h : zH) (res : Int32) (hR : zRq h ρ) (e : s_X11_alikeBy a1 a2 h = some res) : zcl d 99 [zr ((52, 11, 0) : zF), zi a1, zi a2] h (zQp h res) := by
  rw [s_X11_alikeBy] at e
  refine ⟨zm_X11_alikeBy, rfl, ?_⟩
  show zwp d zm_X11_alikeBy 0 [some (zr ((52, 11, 0) : zF)), some (zi a1), some (zi a2), none, none] [] h _
  refine zwp.go (m := 4) (j := 4) (ls' := [some (zr ((52, 11, 0) : zF)), some (zi a1), some (zi a2), some (zi (0 : Int32)), some (zi (0 : Int32))]) (st' := []) (h' := h) rfl ?_
  exact s_X11_alikeBy_L4_ok d ρ hρ zfu a1 a2 (0 : Int32) (0 : Int32) h _ hR e
def s_X11_kindsBy_L4 : Nat → Int32 → Int32 → Int32 → zH → Option (Int32)
  | 0, _, _, _, _ => none
  | n + 1, l1, l2, l3, h => if (zI h 56 1) ≤ l3 then (some l2) else ((s_X11_alikeBy l3 l1 h).bind fun v1 => if ¬ (v1 &&& (((1 : Int32) <<< (l3 &&& 31)) - (1 : Int32))) = 0 then (s_X11_kindsBy_L4 n l1 (l2 + (0 : Int32)) (l3 + (1 : Int32)) h) else (s_X11_kindsBy_L4 n l1 (l2 + (1 : Int32)) (l3 + (1 : Int32)) h))
theorem s_X11_kindsBy_L4_ok (d : Nat) (ρ : Nat → Nat → Option zF) (hρ : zSh ρ) : ∀ (n : Nat) (l1 : Int32) (l2 : Int32) (l3 : Int32) (h : zH) (res : Int32) (hR : zRq h ρ) (e : s_X11_kindsBy_L4  n l1 l2 l3 h = some res), zwp (d + 1) zm_X11_kindsBy 4 [some (zr ((52, 11, 0) : zF)), some (zi l1), some (zi l2), some (zi l3)] [] h (zQp h res) := by
  intro n
  induction n with
  | zero => intro l1 l2 l3 h res hR e; cases e
  | succ n ih =>
    intro l1 l2 l3 h res hR e
    rw [s_X11_kindsBy_L4] at e
    refine zwp.go (m := 2) (j := 6) (ls' := [some (zr ((52, 11, 0) : zF)), some (zi l1), some (zi l2), some (zi l3)]) (st' := [zr ((52, 11, 0) : zF), zi l3]) (h' := h) rfl ?_
    refine zc_sr (r := ((56, 20, 12) : zF)) (zrf (a := 52) (y := 5) hR rfl (hρ 52 5 rfl)) rfl ?_
    refine zwp.go (m := 2) (j := 9) (ls' := [some (zr ((52, 11, 0) : zF)), some (zi l1), some (zi l2), some (zi l3)]) (st' := [zi (zI h 56 1), zi l3]) (h' := h) rfl ?_
    refine zb_if (j := 29) (j2 := 10) e rfl (fun e => ?_) (fun e => ?_)
    · refine zwp.go (m := 1) (j := 30) (ls' := [some (zr ((52, 11, 0) : zF)), some (zi l1), some (zi l2), some (zi l3)]) (st' := [zi l2]) (h' := h) rfl ?_
      cases e
      exact zwp.ret rfl rfl ⟨rfl, rfl⟩
    · refine zwp.go (m := 4) (j := 14) (ls' := [some (zr ((52, 11, 0) : zF)), some (zi l1), some (zi l2), some (zi l3)]) (st' := [zi l1, zi l3, zr ((52, 11, 0) : zF), zi l2]) (h' := h) rfl ?_
      refine zc_cp (d := d + 0) e (fun q e => s_X11_alikeBy_ok (d + 0) ρ hρ l3 l1 h q hR e) rfl rfl (fun v1 e => ?_)
      refine zwp.go (m := 6) (j := 21) (ls' := [some (zr ((52, 11, 0) : zF)), some (zi l1), some (zi l2), some (zi l3)]) (st' := [zi (v1 &&& (((1 : Int32) <<< (l3 &&& 31)) - (1 : Int32))), zi l2]) (h' := h) rfl ?_
      refine zb_if (j := 24) (j2 := 22) e rfl (fun e => ?_) (fun e => ?_)
      · refine zwp.go (m := 5) (j := 4) (ls' := [some (zr ((52, 11, 0) : zF)), some (zi l1), some (zi (l2 + (0 : Int32))), some (zi (l3 + (1 : Int32)))]) (st' := []) (h' := h) rfl ?_
        exact ih l1 (l2 + (0 : Int32)) (l3 + (1 : Int32)) h _ hR e
      · refine zwp.go (m := 6) (j := 4) (ls' := [some (zr ((52, 11, 0) : zF)), some (zi l1), some (zi (l2 + (1 : Int32))), some (zi (l3 + (1 : Int32)))]) (st' := []) (h' := h) rfl ?_
        exact ih l1 (l2 + (1 : Int32)) (l3 + (1 : Int32)) h _ hR e
def s_X11_kindsBy (a1 : Int32) (h : zH) : Option (Int32) := s_X11_kindsBy_L4 zfu a1 (0 : Int32) (0 : Int32) h
theorem s_X11_kindsBy_ok (d : Nat) (ρ : Nat → Nat → Option zF) (hρ : zSh ρ) (a1 : Int32) (h : zH) (res : Int32) (hR : zRq h ρ) (e : s_X11_kindsBy a1 h = some res) : zcl (d + 1) 100 [zr ((52, 11, 0) : zF), zi a1] h (zQp h res) := by
  rw [s_X11_kindsBy] at e
  refine ⟨zm_X11_kindsBy, rfl, ?_⟩
  show zwp (d + 1) zm_X11_kindsBy 0 [some (zr ((52, 11, 0) : zF)), some (zi a1), none, none] [] h _
  refine zwp.go (m := 4) (j := 4) (ls' := [some (zr ((52, 11, 0) : zF)), some (zi a1), some (zi (0 : Int32)), some (zi (0 : Int32))]) (st' := []) (h' := h) rfl ?_
  exact s_X11_kindsBy_L4_ok d ρ hρ zfu a1 (0 : Int32) (0 : Int32) h _ hR e
def s_X11_count (a1 : Int32) (h : zH) : Option (Int32 × zH) := zlt (zwI h 52 4 (0 : Int32)) fun h1 => if a1 = 0 then (zix a1 12 fun i2 => some ((zI h1 56 i2), h1)) else if a1 = 1 then (zix a1 12 fun i3 => some ((zI h1 56 i3), h1)) else if a1 = 2 then (some ((zI h1 52 29), h1)) else if a1 = 3 then (some ((zI h1 52 30), h1)) else if a1 = 4 then (some ((zI h1 52 31), h1)) else if a1 = 5 then (some ((zI h1 52 33), h1)) else if a1 = 6 then (some ((zI h1 52 34), h1)) else if a1 = 7 then ((s_X11_goneNow h1).bind fun v4 => some (v4, h1)) else if a1 = 8 then (some ((zI h1 52 32), h1)) else if a1 = 9 then ((s_X11_thereNow h1).bind fun v5 => (s_X11_kindsBy v5 h1).bind fun v6 => some (v6, h1)) else if a1 = 10 then (some ((zI h1 52 35), h1)) else if a1 = 11 then (some ((zI h1 52 36), h1)) else if a1 = 12 then (some ((zI h1 52 13), h1)) else if a1 = 13 then (zix (a1 - (13 : Int32)) 3 fun i7 => some ((zI h1 62 i7), h1)) else if a1 = 14 then (zix (a1 - (13 : Int32)) 3 fun i8 => some ((zI h1 62 i8), h1)) else if a1 = 15 then (zix (a1 - (13 : Int32)) 3 fun i9 => some ((zI h1 62 i9), h1)) else (zbd (s_X11_fail (1 : Int32) h1) fun v11 h10 => some (v11, h10))
theorem s_X11_count_ok (d : Nat) (ρ : Nat → Nat → Option zF) (hρ : zSh ρ) (a1 : Int32) (h : zH) (res : Int32 × zH) (hR : zRq h ρ) (e : s_X11_count a1 h = some res) : zcl (d + 2) 101 [zr ((52, 11, 0) : zF), zi a1] h (zQi ρ res) := by
  rw [s_X11_count] at e
  refine ⟨zm_X11_count, rfl, ?_⟩
  show zwp (d + 2) zm_X11_count 0 [some (zr ((52, 11, 0) : zF)), some (zi a1)] [] h _
  refine zwp.go (m := 2) (j := 2) (ls' := [some (zr ((52, 11, 0) : zF)), some (zi a1)]) (st' := [zi (0 : Int32), zr ((52, 11, 0) : zF)]) (h' := h) rfl ?_
  refine zc_w e rfl hR (fun h1 hR1 e => ?_)
  refine zwp.go (m := 1) (j := 4) (ls' := [some (zr ((52, 11, 0) : zF)), some (zi a1)]) (st' := [zi a1]) (h' := h1) rfl ?_
  refine zwp.nx (j := zsw [(0, 5), (1, 5), (2, 10), (3, 13), (4, 16), (5, 19), (6, 22), (7, 25), (8, 28), (9, 31), (10, 36), (11, 39), (12, 42), (13, 45), (14, 45), (15, 45)] 52 a1) (ls' := [some (zr ((52, 11, 0) : zF)), some (zi a1)]) (st' := []) (h' := h1) rfl ?_
  refine zb_sw e (fun e => ?_) (fun e => ?_)
  · refine zwp.go (m := 1) (j := 6) (ls' := [some (zr ((52, 11, 0) : zF)), some (zi a1)]) (st' := [zr ((52, 11, 0) : zF)]) (h' := h1) rfl ?_
    refine zc_sr (r := ((56, 20, 12) : zF)) (zrf (a := 52) (y := 5) hR1 rfl (hρ 52 5 rfl)) rfl ?_
    refine zwp.go (m := 1) (j := 8) (ls' := [some (zr ((52, 11, 0) : zF)), some (zi a1)]) (st' := [zi a1, zr ((56, 20, 12) : zF)]) (h' := h1) rfl ?_
    refine zc_ai e (fun _ => rfl) (fun i2 e => ?_)
    cases e
    exact zwp.ret rfl rfl ⟨⟨rfl, rfl⟩, hR1⟩
  refine zb_sw e (fun e => ?_) (fun e => ?_)
  · refine zwp.go (m := 1) (j := 6) (ls' := [some (zr ((52, 11, 0) : zF)), some (zi a1)]) (st' := [zr ((52, 11, 0) : zF)]) (h' := h1) rfl ?_
    refine zc_sr (r := ((56, 20, 12) : zF)) (zrf (a := 52) (y := 5) hR1 rfl (hρ 52 5 rfl)) rfl ?_
    refine zwp.go (m := 1) (j := 8) (ls' := [some (zr ((52, 11, 0) : zF)), some (zi a1)]) (st' := [zi a1, zr ((56, 20, 12) : zF)]) (h' := h1) rfl ?_
    refine zc_ai e (fun _ => rfl) (fun i3 e => ?_)
    cases e
    exact zwp.ret rfl rfl ⟨⟨rfl, rfl⟩, hR1⟩
  refine zb_sw e (fun e => ?_) (fun e => ?_)
  · refine zwp.go (m := 2) (j := 12) (ls' := [some (zr ((52, 11, 0) : zF)), some (zi a1)]) (st' := [zi (zI h1 52 29)]) (h' := h1) rfl ?_
    cases e
    exact zwp.ret rfl rfl ⟨⟨rfl, rfl⟩, hR1⟩
  refine zb_sw e (fun e => ?_) (fun e => ?_)
  · refine zwp.go (m := 2) (j := 15) (ls' := [some (zr ((52, 11, 0) : zF)), some (zi a1)]) (st' := [zi (zI h1 52 30)]) (h' := h1) rfl ?_
    cases e
    exact zwp.ret rfl rfl ⟨⟨rfl, rfl⟩, hR1⟩
  refine zb_sw e (fun e => ?_) (fun e => ?_)
  · refine zwp.go (m := 2) (j := 18) (ls' := [some (zr ((52, 11, 0) : zF)), some (zi a1)]) (st' := [zi (zI h1 52 31)]) (h' := h1) rfl ?_
    cases e
    exact zwp.ret rfl rfl ⟨⟨rfl, rfl⟩, hR1⟩
  refine zb_sw e (fun e => ?_) (fun e => ?_)
  · refine zwp.go (m := 2) (j := 21) (ls' := [some (zr ((52, 11, 0) : zF)), some (zi a1)]) (st' := [zi (zI h1 52 33)]) (h' := h1) rfl ?_
    cases e
    exact zwp.ret rfl rfl ⟨⟨rfl, rfl⟩, hR1⟩
  refine zb_sw e (fun e => ?_) (fun e => ?_)
  · refine zwp.go (m := 2) (j := 24) (ls' := [some (zr ((52, 11, 0) : zF)), some (zi a1)]) (st' := [zi (zI h1 52 34)]) (h' := h1) rfl ?_
    cases e
    exact zwp.ret rfl rfl ⟨⟨rfl, rfl⟩, hR1⟩
  refine zb_sw e (fun e => ?_) (fun e => ?_)
  · refine zwp.go (m := 1) (j := 26) (ls' := [some (zr ((52, 11, 0) : zF)), some (zi a1)]) (st' := [zr ((52, 11, 0) : zF)]) (h' := h1) rfl ?_
    refine zc_cp (d := d + 1) e (fun q e => s_X11_goneNow_ok (d + 1) ρ hρ h1 q hR1 e) rfl rfl (fun v4 e => ?_)
    cases e
    exact zwp.ret rfl rfl ⟨⟨rfl, rfl⟩, hR1⟩
  refine zb_sw e (fun e => ?_) (fun e => ?_)
  · refine zwp.go (m := 2) (j := 30) (ls' := [some (zr ((52, 11, 0) : zF)), some (zi a1)]) (st' := [zi (zI h1 52 32)]) (h' := h1) rfl ?_
    cases e
    exact zwp.ret rfl rfl ⟨⟨rfl, rfl⟩, hR1⟩
  refine zb_sw e (fun e => ?_) (fun e => ?_)
  · refine zwp.go (m := 2) (j := 33) (ls' := [some (zr ((52, 11, 0) : zF)), some (zi a1)]) (st' := [zr ((52, 11, 0) : zF), zr ((52, 11, 0) : zF)]) (h' := h1) rfl ?_
    refine zc_cp (d := d + 1) e (fun q e => s_X11_thereNow_ok (d + 0) ρ hρ h1 q hR1 e) rfl rfl (fun v5 e => ?_)
    refine zc_cp (d := d + 1) e (fun q e => s_X11_kindsBy_ok (d + 0) ρ hρ v5 h1 q hR1 e) rfl rfl (fun v6 e => ?_)
    cases e
    exact zwp.ret rfl rfl ⟨⟨rfl, rfl⟩, hR1⟩
  refine zb_sw e (fun e => ?_) (fun e => ?_)
  · refine zwp.go (m := 2) (j := 38) (ls' := [some (zr ((52, 11, 0) : zF)), some (zi a1)]) (st' := [zi (zI h1 52 35)]) (h' := h1) rfl ?_
    cases e
    exact zwp.ret rfl rfl ⟨⟨rfl, rfl⟩, hR1⟩
  refine zb_sw e (fun e => ?_) (fun e => ?_)
  · refine zwp.go (m := 2) (j := 41) (ls' := [some (zr ((52, 11, 0) : zF)), some (zi a1)]) (st' := [zi (zI h1 52 36)]) (h' := h1) rfl ?_
    cases e
    exact zwp.ret rfl rfl ⟨⟨rfl, rfl⟩, hR1⟩
  refine zb_sw e (fun e => ?_) (fun e => ?_)
  · refine zwp.go (m := 2) (j := 44) (ls' := [some (zr ((52, 11, 0) : zF)), some (zi a1)]) (st' := [zi (zI h1 52 13)]) (h' := h1) rfl ?_
    cases e
    exact zwp.ret rfl rfl ⟨⟨rfl, rfl⟩, hR1⟩
  refine zb_sw e (fun e => ?_) (fun e => ?_)
  · refine zwp.go (m := 1) (j := 46) (ls' := [some (zr ((52, 11, 0) : zF)), some (zi a1)]) (st' := [zr ((52, 11, 0) : zF)]) (h' := h1) rfl ?_
    refine zc_sr (r := ((62, 20, 3) : zF)) (zrf (a := 52) (y := 11) hR1 rfl (hρ 52 11 rfl)) rfl ?_
    refine zwp.go (m := 3) (j := 50) (ls' := [some (zr ((52, 11, 0) : zF)), some (zi a1)]) (st' := [zi (a1 - (13 : Int32)), zr ((62, 20, 3) : zF)]) (h' := h1) rfl ?_
    refine zc_ai e (fun _ => rfl) (fun i7 e => ?_)
    cases e
    exact zwp.ret rfl rfl ⟨⟨rfl, rfl⟩, hR1⟩
  refine zb_sw e (fun e => ?_) (fun e => ?_)
  · refine zwp.go (m := 1) (j := 46) (ls' := [some (zr ((52, 11, 0) : zF)), some (zi a1)]) (st' := [zr ((52, 11, 0) : zF)]) (h' := h1) rfl ?_
    refine zc_sr (r := ((62, 20, 3) : zF)) (zrf (a := 52) (y := 11) hR1 rfl (hρ 52 11 rfl)) rfl ?_
    refine zwp.go (m := 3) (j := 50) (ls' := [some (zr ((52, 11, 0) : zF)), some (zi a1)]) (st' := [zi (a1 - (13 : Int32)), zr ((62, 20, 3) : zF)]) (h' := h1) rfl ?_
    refine zc_ai e (fun _ => rfl) (fun i8 e => ?_)
    cases e
    exact zwp.ret rfl rfl ⟨⟨rfl, rfl⟩, hR1⟩
  refine zb_sw e (fun e => ?_) (fun e => ?_)
  · refine zwp.go (m := 1) (j := 46) (ls' := [some (zr ((52, 11, 0) : zF)), some (zi a1)]) (st' := [zr ((52, 11, 0) : zF)]) (h' := h1) rfl ?_
    refine zc_sr (r := ((62, 20, 3) : zF)) (zrf (a := 52) (y := 11) hR1 rfl (hρ 52 11 rfl)) rfl ?_
    refine zwp.go (m := 3) (j := 50) (ls' := [some (zr ((52, 11, 0) : zF)), some (zi a1)]) (st' := [zi (a1 - (13 : Int32)), zr ((62, 20, 3) : zF)]) (h' := h1) rfl ?_
    refine zc_ai e (fun _ => rfl) (fun i9 e => ?_)
    cases e
    exact zwp.ret rfl rfl ⟨⟨rfl, rfl⟩, hR1⟩
  refine zwp.go (m := 2) (j := 54) (ls' := [some (zr ((52, 11, 0) : zF)), some (zi a1)]) (st' := [zi (1 : Int32), zr ((52, 11, 0) : zF)]) (h' := h1) rfl ?_
  refine zc_ci (d := d + 1) e (fun q e => s_X11_fail_ok (d + 1) ρ hρ (1 : Int32) h1 q hR1 e) rfl rfl (fun v11 h10 hR10 e => ?_)
  cases e
  exact zwp.ret rfl rfl ⟨⟨rfl, rfl⟩, hR10⟩
def s_X10_needRib (pp : Nat) (a1 : Int32) (h : zH) : Option ((Unit ⊕ Nat) × zH) := if a1 < 0 then (some (Sum.inr 1, zth h)) else (if a1 < (zI h pp 6) then (some (Sum.inl (), h)) else (some (Sum.inr 1, zth h)))
theorem s_X10_needRib_ok (d : Nat) (ρ : Nat → Nat → Option zF) (hρ : zSh ρ) (pp : Nat) (a1 : Int32) (hpp : ρ 0 3 = some (pp, 3, 0) ∧ zPlS ρ pp) (h : zH) (res : (Unit ⊕ Nat) × zH) (hR : zRq h ρ) (e : s_X10_needRib pp a1 h = some res) : zcl d 102 [zr ((0, 10, 0) : zF), zi a1] h (zQu ρ res) := by
  rw [s_X10_needRib] at e
  refine ⟨zm_X10_needRib, rfl, ?_⟩
  show zwp d zm_X10_needRib 0 [some (zr ((0, 10, 0) : zF)), some (zi a1)] [] h _
  refine zwp.go (m := 1) (j := 1) (ls' := [some (zr ((0, 10, 0) : zF)), some (zi a1)]) (st' := [zi a1]) (h' := h) rfl ?_
  refine zb_if (j := 7) (j2 := 2) e rfl (fun e => ?_) (fun e => ?_)
  · cases e
    exact zwp.th rfl rfl ⟨⟨rfl, rfl⟩, hR⟩
  · refine zwp.go (m := 2) (j := 4) (ls' := [some (zr ((0, 10, 0) : zF)), some (zi a1)]) (st' := [zr ((0, 10, 0) : zF), zi a1]) (h' := h) rfl ?_
    refine zc_sr (r := ((pp, 3, 0) : zF)) (zrf (a := 0) (y := 3) hR rfl hpp.1) rfl ?_
    refine zwp.go (m := 1) (j := 6) (ls' := [some (zr ((0, 10, 0) : zF)), some (zi a1)]) (st' := [zi (zI h pp 6), zi a1]) (h' := h) rfl ?_
    refine zb_if (j := 12) (j2 := 7) e rfl (fun e => ?_) (fun e => ?_)
    · cases e
      exact zwp.rv rfl ⟨⟨rfl, rfl⟩, hR⟩
    · cases e
      exact zwp.th rfl rfl ⟨⟨rfl, rfl⟩, hR⟩
def s_X3_isJaw (a0 : Nat) (a1 : Int32) (h : zH) : Option (Int32) := if ¬ (((zI h a0 7) >>> (a1 &&& 31)) &&& (1 : Int32)) = (1 : Int32) then (some (0 : Int32)) else (some (1 : Int32))
theorem s_X3_isJaw_ok (d : Nat) (ρ : Nat → Nat → Option zF) (hρ : zSh ρ) (a0 : Nat) (a1 : Int32) (ha0 : zPlS ρ a0) (h : zH) (res : Int32) (hR : zRq h ρ) (e : s_X3_isJaw a0 a1 h = some res) : zcl d 103 [zr ((a0, 3, 0) : zF), zi a1] h (zQp h res) := by
  rw [s_X3_isJaw] at e
  refine ⟨zm_X3_isJaw, rfl, ?_⟩
  show zwp d zm_X3_isJaw 0 [some (zr ((a0, 3, 0) : zF)), some (zi a1)] [] h _
  refine zwp.go (m := 7) (j := 7) (ls' := [some (zr ((a0, 3, 0) : zF)), some (zi a1)]) (st' := [zi (1 : Int32), zi (((zI h a0 7) >>> (a1 &&& 31)) &&& (1 : Int32))]) (h' := h) rfl ?_
  refine zb_if (j := 10) (j2 := 8) e rfl (fun e => ?_) (fun e => ?_)
  · refine zwp.go (m := 1) (j := 11) (ls' := [some (zr ((a0, 3, 0) : zF)), some (zi a1)]) (st' := [zi (0 : Int32)]) (h' := h) rfl ?_
    cases e
    exact zwp.ret rfl rfl ⟨rfl, rfl⟩
  · refine zwp.go (m := 2) (j := 11) (ls' := [some (zr ((a0, 3, 0) : zF)), some (zi a1)]) (st' := [zi (1 : Int32)]) (h' := h) rfl ?_
    cases e
    exact zwp.ret rfl rfl ⟨rfl, rfl⟩
def s_X8_isPast (a0 : Nat) (a1 : Int32) (a2 : Int32) (h : zH) : Option (Int32) := if a1 < (zI h (a0 + 3) 0) then (some (1 : Int32)) else (if a1 < (a2 - (zI h (a0 + 3) 1)) then (some (0 : Int32)) else (some (1 : Int32)))
theorem s_X8_isPast_ok (d : Nat) (ρ : Nat → Nat → Option zF) (hρ : zSh ρ) (a0 : Nat) (a1 : Int32) (a2 : Int32) (ha0 : zStS ρ a0) (h : zH) (res : Int32) (hR : zRq h ρ) (e : s_X8_isPast a0 a1 a2 h = some res) : zcl d 104 [zr ((a0, 8, 0) : zF), zi a1, zi a2] h (zQp h res) := by
  rw [s_X8_isPast] at e
  refine ⟨zm_X8_isPast, rfl, ?_⟩
  show zwp d zm_X8_isPast 0 [some (zr ((a0, 8, 0) : zF)), some (zi a1), some (zi a2)] [] h _
  refine zwp.go (m := 2) (j := 2) (ls' := [some (zr ((a0, 8, 0) : zF)), some (zi a1), some (zi a2)]) (st' := [zr ((a0, 8, 0) : zF), zi a1]) (h' := h) rfl ?_
  refine zc_sr (r := (((a0 + 3), 20, 2) : zF)) (zrf (a := a0) (y := 2) hR rfl ha0.2.2.2.1) rfl ?_
  refine zwp.go (m := 2) (j := 5) (ls' := [some (zr ((a0, 8, 0) : zF)), some (zi a1), some (zi a2)]) (st' := [zi (zI h (a0 + 3) 0), zi a1]) (h' := h) rfl ?_
  refine zb_if (j := 14) (j2 := 6) e rfl (fun e => ?_) (fun e => ?_)
  · refine zwp.go (m := 2) (j := 17) (ls' := [some (zr ((a0, 8, 0) : zF)), some (zi a1), some (zi a2)]) (st' := [zi (1 : Int32)]) (h' := h) rfl ?_
    cases e
    exact zwp.ret rfl rfl ⟨rfl, rfl⟩
  · refine zwp.go (m := 3) (j := 9) (ls' := [some (zr ((a0, 8, 0) : zF)), some (zi a1), some (zi a2)]) (st' := [zr ((a0, 8, 0) : zF), zi a2, zi a1]) (h' := h) rfl ?_
    refine zc_sr (r := (((a0 + 3), 20, 2) : zF)) (zrf (a := a0) (y := 2) hR rfl ha0.2.2.2.1) rfl ?_
    refine zwp.go (m := 3) (j := 13) (ls' := [some (zr ((a0, 8, 0) : zF)), some (zi a1), some (zi a2)]) (st' := [zi (a2 - (zI h (a0 + 3) 1)), zi a1]) (h' := h) rfl ?_
    refine zb_if (j := 16) (j2 := 14) e rfl (fun e => ?_) (fun e => ?_)
    · refine zwp.go (m := 1) (j := 17) (ls' := [some (zr ((a0, 8, 0) : zF)), some (zi a1), some (zi a2)]) (st' := [zi (0 : Int32)]) (h' := h) rfl ?_
      cases e
      exact zwp.ret rfl rfl ⟨rfl, rfl⟩
    · refine zwp.go (m := 2) (j := 17) (ls' := [some (zr ((a0, 8, 0) : zF)), some (zi a1), some (zi a2)]) (st' := [zi (1 : Int32)]) (h' := h) rfl ?_
      cases e
      exact zwp.ret rfl rfl ⟨rfl, rfl⟩
def s_X7_versesOver_L4 (a1 : Nat) : Nat → Int32 → Int32 → Int32 → zH → Option (Int32)
  | 0, _, _, _, _ => none
  | n + 1, l2, l3, l4, h => if (zI h a1 8) ≤ l4 then (some l3) else (zix l4 8 fun i1 => s_X7_versesOver_L4 a1 n l2 (l3 ||| ((((zI h (a1 + 2) i1) >>> (l2 &&& 31)) &&& (1 : Int32)) <<< (l4 &&& 31))) (l4 + (1 : Int32)) h)
theorem s_X7_versesOver_L4_ok (d : Nat) (ρ : Nat → Nat → Option zF) (hρ : zSh ρ) (a1 : Nat) (ha1 : zPlS ρ a1) : ∀ (n : Nat) (l2 : Int32) (l3 : Int32) (l4 : Int32) (h : zH) (res : Int32) (hR : zRq h ρ) (e : s_X7_versesOver_L4 a1 n l2 l3 l4 h = some res), zwp d zm_X7_versesOver 4 [none, some (zr ((a1, 3, 0) : zF)), some (zi l2), some (zi l3), some (zi l4)] [] h (zQp h res) := by
  intro n
  induction n with
  | zero => intro l2 l3 l4 h res hR e; cases e
  | succ n ih =>
    intro l2 l3 l4 h res hR e
    rw [s_X7_versesOver_L4] at e
    refine zwp.go (m := 3) (j := 7) (ls' := [none, some (zr ((a1, 3, 0) : zF)), some (zi l2), some (zi l3), some (zi l4)]) (st' := [zi (zI h a1 8), zi l4]) (h' := h) rfl ?_
    refine zb_if (j := 23) (j2 := 8) e rfl (fun e => ?_) (fun e => ?_)
    · refine zwp.go (m := 1) (j := 24) (ls' := [none, some (zr ((a1, 3, 0) : zF)), some (zi l2), some (zi l3), some (zi l4)]) (st' := [zi l3]) (h' := h) rfl ?_
      cases e
      exact zwp.ret rfl rfl ⟨rfl, rfl⟩
    · refine zwp.go (m := 2) (j := 10) (ls' := [none, some (zr ((a1, 3, 0) : zF)), some (zi l2), some (zi l3), some (zi l4)]) (st' := [zr ((a1, 3, 0) : zF), zi l3]) (h' := h) rfl ?_
      refine zc_sr (r := (((a1 + 2), 20, 8) : zF)) (zrf (a := a1) (y := 1) hR rfl ha1.2.2.1) rfl ?_
      refine zwp.go (m := 1) (j := 12) (ls' := [none, some (zr ((a1, 3, 0) : zF)), some (zi l2), some (zi l3), some (zi l4)]) (st' := [zi l4, zr (((a1 + 2), 20, 8) : zF), zi l3]) (h' := h) rfl ?_
      refine zc_ai e (fun _ => rfl) (fun i1 e => ?_)
      refine zwp.go (m := 10) (j := 4) (ls' := [none, some (zr ((a1, 3, 0) : zF)), some (zi l2), some (zi (l3 ||| ((((zI h (a1 + 2) i1) >>> (l2 &&& 31)) &&& (1 : Int32)) <<< (l4 &&& 31)))), some (zi (l4 + (1 : Int32)))]) (st' := []) (h' := h) rfl ?_
      exact ih l2 (l3 ||| ((((zI h (a1 + 2) i1) >>> (l2 &&& 31)) &&& (1 : Int32)) <<< (l4 &&& 31))) (l4 + (1 : Int32)) h _ hR e
def s_X7_versesOver (a1 : Nat) (a2 : Int32) (h : zH) : Option (Int32) := s_X7_versesOver_L4 a1 zfu a2 (0 : Int32) (0 : Int32) h
theorem s_X7_versesOver_ok (d : Nat) (ρ : Nat → Nat → Option zF) (hρ : zSh ρ) (a1 : Nat) (a2 : Int32) (ha1 : zPlS ρ a1) (h : zH) (res : Int32) (hR : zRq h ρ) (e : s_X7_versesOver a1 a2 h = some res) : zcl d 105 [zr ((44, 7, 0) : zF), zr ((a1, 3, 0) : zF), zi a2] h (zQp h res) := by
  rw [s_X7_versesOver] at e
  refine ⟨zm_X7_versesOver, rfl, ?_⟩
  show zwp d zm_X7_versesOver 0 [some (zr ((44, 7, 0) : zF)), some (zr ((a1, 3, 0) : zF)), some (zi a2), none, none] [] h _
  refine zwp.go (m := 4) (j := 4) (ls' := [some (zr ((44, 7, 0) : zF)), some (zr ((a1, 3, 0) : zF)), some (zi a2), some (zi (0 : Int32)), some (zi (0 : Int32))]) (st' := []) (h' := h) rfl ?_
  refine zwp.fg (a := [none, some (zr ((a1, 3, 0) : zF)), some (zi a2), some (zi (0 : Int32)), some (zi (0 : Int32))]) (And.intro rfl (And.intro rfl (And.intro rfl (And.intro rfl trivial)))) ?_
  exact s_X7_versesOver_L4_ok d ρ hρ a1 ha1 zfu a2 (0 : Int32) (0 : Int32) h _ hR e
def s_X10_rib (pp : Nat) (a1 : Int32) (a2 : Int32) (h : zH) : Option ((Int32 ⊕ Nat) × zH) := zbx (s_X10_needRib pp a1 h) (fun _ h2 => if a2 = 0 then (zix a1 12 fun i3 => some (Sum.inl (zI h2 20 i3), h2)) else if a2 = 1 then ((s_X3_isJaw pp a1 h2).bind fun v4 => if v4 = 0 then (some (Sum.inl (0 : Int32), h2)) else (some (Sum.inl (1 : Int32), h2))) else if a2 = 2 then ((s_X8_isPast 19 a1 (zI h2 pp 6) h2).bind fun v5 => if v5 = 0 then (some (Sum.inl (0 : Int32), h2)) else (some (Sum.inl (1 : Int32), h2))) else if a2 = 3 then ((s_X7_versesOver pp a1 h2).bind fun v6 => some (Sum.inl v6, h2)) else (some (Sum.inr 1, zth h2))) (fun x h1 => some (Sum.inr x, h1))
theorem s_X10_rib_ok (d : Nat) (ρ : Nat → Nat → Option zF) (hρ : zSh ρ) (pp : Nat) (a1 : Int32) (a2 : Int32) (hpp : ρ 0 3 = some (pp, 3, 0) ∧ zPlS ρ pp) (h : zH) (res : (Int32 ⊕ Nat) × zH) (hR : zRq h ρ) (e : s_X10_rib pp a1 a2 h = some res) : zcl (d + 1) 106 [zr ((0, 10, 0) : zF), zi a1, zi a2] h (zQx ρ res) := by
  rw [s_X10_rib] at e
  refine ⟨zm_X10_rib, rfl, ?_⟩
  show zwp (d + 1) zm_X10_rib 0 [some (zr ((0, 10, 0) : zF)), some (zi a1), some (zi a2)] [] h _
  refine zwp.go (m := 2) (j := 2) (ls' := [some (zr ((0, 10, 0) : zF)), some (zi a1), some (zi a2)]) (st' := [zi a1, zr ((0, 10, 0) : zF)]) (h' := h) rfl ?_
  refine zc_cu (d := d + 0) e (fun q e => s_X10_needRib_ok (d + 0) ρ hρ pp a1 hpp h q hR e) rfl rfl (fun h2 hR2 e => ?_) (fun x h1 hR1 e => ?_)
  · refine zwp.go (m := 1) (j := 4) (ls' := [some (zr ((0, 10, 0) : zF)), some (zi a1), some (zi a2)]) (st' := [zi a2]) (h' := h2) rfl ?_
    refine zwp.nx (j := zsw [(0, 5), (1, 12), (2, 21), (3, 34)] 41 a2) (ls' := [some (zr ((0, 10, 0) : zF)), some (zi a1), some (zi a2)]) (st' := []) (h' := h2) rfl ?_
    refine zb_sw e (fun e => ?_) (fun e => ?_)
    · refine zwp.go (m := 1) (j := 6) (ls' := [some (zr ((0, 10, 0) : zF)), some (zi a1), some (zi a2)]) (st' := [zr ((0, 10, 0) : zF)]) (h' := h2) rfl ?_
      refine zc_sr (r := ((18, 2, 0) : zF)) (zrf (a := 0) (y := 6) hR2 rfl (hρ 0 6 rfl)) rfl ?_
      refine zc_sr (r := ((19, 8, 0) : zF)) (zrf (a := 18) (y := 0) hR2 rfl (zSh_ld18 hρ).2.1) rfl ?_
      refine zc_sr (r := ((20, 20, 12) : zF)) (zrf (a := 19) (y := 0) hR2 rfl (zSh_st19 hρ).2.1) rfl ?_
      refine zwp.go (m := 1) (j := 10) (ls' := [some (zr ((0, 10, 0) : zF)), some (zi a1), some (zi a2)]) (st' := [zi a1, zr ((20, 20, 12) : zF)]) (h' := h2) rfl ?_
      refine zc_ai e (fun _ => rfl) (fun i3 e => ?_)
      cases e
      exact zwp.ret rfl rfl ⟨⟨rfl, rfl⟩, hR2⟩
    refine zb_sw e (fun e => ?_) (fun e => ?_)
    · refine zwp.go (m := 1) (j := 13) (ls' := [some (zr ((0, 10, 0) : zF)), some (zi a1), some (zi a2)]) (st' := [zr ((0, 10, 0) : zF)]) (h' := h2) rfl ?_
      refine zc_sr (r := ((pp, 3, 0) : zF)) (zrf (a := 0) (y := 3) hR2 rfl hpp.1) rfl ?_
      refine zwp.go (m := 1) (j := 15) (ls' := [some (zr ((0, 10, 0) : zF)), some (zi a1), some (zi a2)]) (st' := [zi a1, zr ((pp, 3, 0) : zF)]) (h' := h2) rfl ?_
      refine zc_cp (d := d + 0) e (fun q e => s_X3_isJaw_ok (d + 0) ρ hρ pp a1 hpp.2 h2 q hR2 e) rfl rfl (fun v4 e => ?_)
      refine zb_if (j := 19) (j2 := 17) e rfl (fun e => ?_) (fun e => ?_)
      · refine zwp.go (m := 1) (j := 20) (ls' := [some (zr ((0, 10, 0) : zF)), some (zi a1), some (zi a2)]) (st' := [zi (0 : Int32)]) (h' := h2) rfl ?_
        cases e
        exact zwp.ret rfl rfl ⟨⟨rfl, rfl⟩, hR2⟩
      · refine zwp.go (m := 2) (j := 20) (ls' := [some (zr ((0, 10, 0) : zF)), some (zi a1), some (zi a2)]) (st' := [zi (1 : Int32)]) (h' := h2) rfl ?_
        cases e
        exact zwp.ret rfl rfl ⟨⟨rfl, rfl⟩, hR2⟩
    refine zb_sw e (fun e => ?_) (fun e => ?_)
    · refine zwp.go (m := 1) (j := 22) (ls' := [some (zr ((0, 10, 0) : zF)), some (zi a1), some (zi a2)]) (st' := [zr ((0, 10, 0) : zF)]) (h' := h2) rfl ?_
      refine zc_sr (r := ((18, 2, 0) : zF)) (zrf (a := 0) (y := 6) hR2 rfl (hρ 0 6 rfl)) rfl ?_
      refine zc_sr (r := ((19, 8, 0) : zF)) (zrf (a := 18) (y := 0) hR2 rfl (zSh_ld18 hρ).2.1) rfl ?_
      refine zwp.go (m := 2) (j := 26) (ls' := [some (zr ((0, 10, 0) : zF)), some (zi a1), some (zi a2)]) (st' := [zr ((0, 10, 0) : zF), zi a1, zr ((19, 8, 0) : zF)]) (h' := h2) rfl ?_
      refine zc_sr (r := ((pp, 3, 0) : zF)) (zrf (a := 0) (y := 3) hR2 rfl hpp.1) rfl ?_
      refine zwp.go (m := 1) (j := 28) (ls' := [some (zr ((0, 10, 0) : zF)), some (zi a1), some (zi a2)]) (st' := [zi (zI h2 pp 6), zi a1, zr ((19, 8, 0) : zF)]) (h' := h2) rfl ?_
      refine zc_cp (d := d + 0) e (fun q e => s_X8_isPast_ok (d + 0) ρ hρ 19 a1 (zI h2 pp 6) (zSh_st19 hρ) h2 q hR2 e) rfl rfl (fun v5 e => ?_)
      refine zb_if (j := 32) (j2 := 30) e rfl (fun e => ?_) (fun e => ?_)
      · refine zwp.go (m := 1) (j := 33) (ls' := [some (zr ((0, 10, 0) : zF)), some (zi a1), some (zi a2)]) (st' := [zi (0 : Int32)]) (h' := h2) rfl ?_
        cases e
        exact zwp.ret rfl rfl ⟨⟨rfl, rfl⟩, hR2⟩
      · refine zwp.go (m := 2) (j := 33) (ls' := [some (zr ((0, 10, 0) : zF)), some (zi a1), some (zi a2)]) (st' := [zi (1 : Int32)]) (h' := h2) rfl ?_
        cases e
        exact zwp.ret rfl rfl ⟨⟨rfl, rfl⟩, hR2⟩
    refine zb_sw e (fun e => ?_) (fun e => ?_)
    · refine zwp.go (m := 1) (j := 35) (ls' := [some (zr ((0, 10, 0) : zF)), some (zi a1), some (zi a2)]) (st' := [zr ((0, 10, 0) : zF)]) (h' := h2) rfl ?_
      refine zc_sr (r := ((44, 7, 0) : zF)) (zrf (a := 0) (y := 12) hR2 rfl (hρ 0 12 rfl)) rfl ?_
      refine zwp.go (m := 1) (j := 37) (ls' := [some (zr ((0, 10, 0) : zF)), some (zi a1), some (zi a2)]) (st' := [zr ((0, 10, 0) : zF), zr ((44, 7, 0) : zF)]) (h' := h2) rfl ?_
      refine zc_sr (r := ((pp, 3, 0) : zF)) (zrf (a := 0) (y := 3) hR2 rfl hpp.1) rfl ?_
      refine zwp.go (m := 1) (j := 39) (ls' := [some (zr ((0, 10, 0) : zF)), some (zi a1), some (zi a2)]) (st' := [zi a1, zr ((pp, 3, 0) : zF), zr ((44, 7, 0) : zF)]) (h' := h2) rfl ?_
      refine zc_cp (d := d + 0) e (fun q e => s_X7_versesOver_ok (d + 0) ρ hρ pp a1 hpp.2 h2 q hR2 e) rfl rfl (fun v6 e => ?_)
      cases e
      exact zwp.ret rfl rfl ⟨⟨rfl, rfl⟩, hR2⟩
    cases e
    exact zwp.th rfl rfl ⟨⟨rfl, rfl⟩, hR2⟩
  · cases e
    exact ⟨rfl, ⟨⟨rfl, rfl⟩, hR1⟩⟩
def s_L_rib (pp : Nat) (a1 : Int32) (a2 : Int32) (a3 n3 : Nat) (h : zH) : Option (Int32 × zH) := zbx (s_X10_rib pp a1 a2 h) (fun v3 h2 => zix (0 : Int32) n3 fun i5 => zlt (zwL h2 a3 i5 v3.toInt64) fun h4 => some ((0 : Int32), h4)) (fun x h1 => if x = 1 then (some ((1 : Int32), h1)) else none)
theorem s_L_rib_ok (d : Nat) (ρ : Nat → Nat → Option zF) (hρ : zSh ρ) (pp : Nat) (a1 : Int32) (a2 : Int32) (a3 n3 : Nat) (hpp : ρ 0 3 = some (pp, 3, 0) ∧ zPlS ρ pp) (h : zH) (res : Int32 × zH) (hR : zRq h ρ) (e : s_L_rib pp a1 a2 a3 n3 h = some res) : zcl (d + 2) 107 [zr ((0, 10, 0) : zF), zi a1, zi a2, zr ((a3, 23, n3) : zF)] h (zQi ρ res) := by
  rw [s_L_rib] at e
  refine ⟨zm_L_rib, rfl, ?_⟩
  show zwp (d + 2) zm_L_rib 0 [some (zr ((0, 10, 0) : zF)), some (zi a1), some (zi a2), some (zr ((a3, 23, n3) : zF)), none] [] h _
  refine zwp.go (m := 5) (j := 5) (ls' := [some (zr ((0, 10, 0) : zF)), some (zi a1), some (zi a2), some (zr ((a3, 23, n3) : zF)), none]) (st' := [zi a2, zi a1, zr ((0, 10, 0) : zF), zi (0 : Int32), zr ((a3, 23, n3) : zF)]) (h' := h) rfl ?_
  refine zc_cx (d := d + 1) e (fun q e => s_X10_rib_ok (d + 0) ρ hρ pp a1 a2 hpp h q hR e) rfl rfl (fun v3 h2 hR2 e => ?_) (fun x h1 hR1 e => ?_)
  · refine zwp.go (m := 1) (j := 7) (ls' := [some (zr ((0, 10, 0) : zF)), some (zi a1), some (zi a2), some (zr ((a3, 23, n3) : zF)), none]) (st' := [zl v3.toInt64, zi (0 : Int32), zr ((a3, 23, n3) : zF)]) (h' := h2) rfl ?_
    refine zc_sl e (fun _ => rfl) hR2 (fun h4 hR4 e => ?_)
    refine zwp.go (m := 2) (j := 13) (ls' := [some (zr ((0, 10, 0) : zF)), some (zi a1), some (zi a2), some (zr ((a3, 23, n3) : zF)), none]) (st' := [zi (0 : Int32)]) (h' := h4) rfl ?_
    cases e
    exact zwp.ret rfl rfl ⟨⟨rfl, rfl⟩, hR4⟩
  · by_cases q1 : x = 1
    · subst q1
      replace e : (some ((1 : Int32), h1)) = some res := by simpa using e
      show zwp _ _ 10 [some (zr ((0, 10, 0) : zF)), some (zi a1), some (zi a2), some (zr ((a3, 23, n3) : zF)), none] [] _ _
      refine zwp.go (m := 1) (j := 11) (ls' := [some (zr ((0, 10, 0) : zF)), some (zi a1), some (zi a2), some (zr ((a3, 23, n3) : zF)), none]) (st' := [zi (1 : Int32)]) (h' := h1) rfl ?_
      cases e
      exact zwp.ret rfl rfl ⟨⟨rfl, rfl⟩, hR1⟩
    · skip
      simp [q1] at e
def s_X11_isIn (a0 : Int64) (a1 : Int64) (a2 : Int64) (h : zH) : Option (Int32) := if (lg_cmp a0 a1) < 0 then (some (0 : Int32)) else (if 0 < (lg_cmp a0 a2) then (some (0 : Int32)) else (some (1 : Int32)))
theorem s_X11_isIn_ok (d : Nat) (ρ : Nat → Nat → Option zF) (hρ : zSh ρ) (a0 : Int64) (a1 : Int64) (a2 : Int64) (h : zH) (res : Int32) (hR : zRq h ρ) (e : s_X11_isIn a0 a1 a2 h = some res) : zcl d 108 [zl a0, zl a1, zl a2] h (zQp h res) := by
  rw [s_X11_isIn] at e
  refine ⟨zm_X11_isIn, rfl, ?_⟩
  show zwp d zm_X11_isIn 0 [some (zl a0), none, some (zl a1), none, some (zl a2), none] [] h _
  refine zwp.go (m := 3) (j := 3) (ls' := [some (zl a0), none, some (zl a1), none, some (zl a2), none]) (st' := [zi (lg_cmp a0 a1)]) (h' := h) rfl ?_
  refine zb_if (j := 10) (j2 := 4) e rfl (fun e => ?_) (fun e => ?_)
  · refine zwp.go (m := 1) (j := 11) (ls' := [some (zl a0), none, some (zl a1), none, some (zl a2), none]) (st' := [zi (0 : Int32)]) (h' := h) rfl ?_
    cases e
    exact zwp.ret rfl rfl ⟨rfl, rfl⟩
  · refine zwp.go (m := 3) (j := 7) (ls' := [some (zl a0), none, some (zl a1), none, some (zl a2), none]) (st' := [zi (lg_cmp a0 a2)]) (h' := h) rfl ?_
    refine zb_if (j := 10) (j2 := 8) e rfl (fun e => ?_) (fun e => ?_)
    · refine zwp.go (m := 1) (j := 11) (ls' := [some (zl a0), none, some (zl a1), none, some (zl a2), none]) (st' := [zi (0 : Int32)]) (h' := h) rfl ?_
      cases e
      exact zwp.ret rfl rfl ⟨rfl, rfl⟩
    · refine zwp.go (m := 2) (j := 11) (ls' := [some (zl a0), none, some (zl a1), none, some (zl a2), none]) (st' := [zi (1 : Int32)]) (h' := h) rfl ?_
      cases e
      exact zwp.ret rfl rfl ⟨rfl, rfl⟩
def s_X11_isRib (a1 : Int32) (h : zH) : Option (Int32) := (s_X11_isIn a1.toInt64 (0 : Int64) ((zI h 56 0) - (1 : Int32)).toInt64 h).bind fun v1 => zrp 1 v1
theorem s_X11_isRib_ok (d : Nat) (ρ : Nat → Nat → Option zF) (hρ : zSh ρ) (a1 : Int32) (h : zH) (res : Int32) (hR : zRq h ρ) (e : s_X11_isRib a1 h = some res) : zcl (d + 1) 109 [zr ((52, 11, 0) : zF), zi a1] h (zQp h res) := by
  rw [s_X11_isRib] at e
  refine ⟨zm_X11_isRib, rfl, ?_⟩
  show zwp (d + 1) zm_X11_isRib 0 [some (zr ((52, 11, 0) : zF)), some (zi a1)] [] h _
  refine zwp.go (m := 4) (j := 4) (ls' := [some (zr ((52, 11, 0) : zF)), some (zi a1)]) (st' := [zr ((52, 11, 0) : zF), zl (0 : Int64), zl a1.toInt64]) (h' := h) rfl ?_
  refine zc_sr (r := ((56, 20, 12) : zF)) (zrf (a := 52) (y := 5) hR rfl (hρ 52 5 rfl)) rfl ?_
  refine zwp.go (m := 5) (j := 10) (ls' := [some (zr ((52, 11, 0) : zF)), some (zi a1)]) (st' := [zl ((zI h 56 0) - (1 : Int32)).toInt64, zl (0 : Int64), zl a1.toInt64]) (h' := h) rfl ?_
  refine zc_cp (d := d + 0) e (fun q e => s_X11_isIn_ok (d + 0) ρ hρ a1.toInt64 (0 : Int64) ((zI h 56 0) - (1 : Int32)).toInt64 h q hR e) rfl rfl (fun v1 e => ?_)
  exact zc_rp e rfl
def s_X11_isOf (a0 : Int32) (a1 : Int32) (h : zH) : Option (Int32) := if ¬ ((a0 >>> (a1 &&& 31)) &&& (1 : Int32)) = (1 : Int32) then (some (0 : Int32)) else (some (1 : Int32))
theorem s_X11_isOf_ok (d : Nat) (ρ : Nat → Nat → Option zF) (hρ : zSh ρ) (a0 : Int32) (a1 : Int32) (h : zH) (res : Int32) (hR : zRq h ρ) (e : s_X11_isOf a0 a1 h = some res) : zcl d 110 [zi a0, zi a1] h (zQp h res) := by
  rw [s_X11_isOf] at e
  refine ⟨zm_X11_isOf, rfl, ?_⟩
  show zwp d zm_X11_isOf 0 [some (zi a0), some (zi a1)] [] h _
  refine zwp.go (m := 6) (j := 6) (ls' := [some (zi a0), some (zi a1)]) (st' := [zi (1 : Int32), zi ((a0 >>> (a1 &&& 31)) &&& (1 : Int32))]) (h' := h) rfl ?_
  refine zb_if (j := 9) (j2 := 7) e rfl (fun e => ?_) (fun e => ?_)
  · refine zwp.go (m := 1) (j := 10) (ls' := [some (zi a0), some (zi a1)]) (st' := [zi (0 : Int32)]) (h' := h) rfl ?_
    cases e
    exact zwp.ret rfl rfl ⟨rfl, rfl⟩
  · refine zwp.go (m := 2) (j := 10) (ls' := [some (zi a0), some (zi a1)]) (st' := [zi (1 : Int32)]) (h' := h) rfl ?_
    cases e
    exact zwp.ret rfl rfl ⟨rfl, rfl⟩
def s_X11_isPast (a1 : Int32) (h : zH) : Option (Int32) := if a1 < (zI h 52 30) then (some (1 : Int32)) else (if a1 < ((zI h 56 0) - (zI h 52 31)) then (some (0 : Int32)) else (some (1 : Int32)))
theorem s_X11_isPast_ok (d : Nat) (ρ : Nat → Nat → Option zF) (hρ : zSh ρ) (a1 : Int32) (h : zH) (res : Int32) (hR : zRq h ρ) (e : s_X11_isPast a1 h = some res) : zcl d 111 [zr ((52, 11, 0) : zF), zi a1] h (zQp h res) := by
  rw [s_X11_isPast] at e
  refine ⟨zm_X11_isPast, rfl, ?_⟩
  show zwp d zm_X11_isPast 0 [some (zr ((52, 11, 0) : zF)), some (zi a1)] [] h _
  refine zwp.go (m := 3) (j := 3) (ls' := [some (zr ((52, 11, 0) : zF)), some (zi a1)]) (st' := [zi (zI h 52 30), zi a1]) (h' := h) rfl ?_
  refine zb_if (j := 13) (j2 := 4) e rfl (fun e => ?_) (fun e => ?_)
  · refine zwp.go (m := 2) (j := 16) (ls' := [some (zr ((52, 11, 0) : zF)), some (zi a1)]) (st' := [zi (1 : Int32)]) (h' := h) rfl ?_
    cases e
    exact zwp.ret rfl rfl ⟨rfl, rfl⟩
  · refine zwp.go (m := 2) (j := 6) (ls' := [some (zr ((52, 11, 0) : zF)), some (zi a1)]) (st' := [zr ((52, 11, 0) : zF), zi a1]) (h' := h) rfl ?_
    refine zc_sr (r := ((56, 20, 12) : zF)) (zrf (a := 52) (y := 5) hR rfl (hρ 52 5 rfl)) rfl ?_
    refine zwp.go (m := 5) (j := 12) (ls' := [some (zr ((52, 11, 0) : zF)), some (zi a1)]) (st' := [zi ((zI h 56 0) - (zI h 52 31)), zi a1]) (h' := h) rfl ?_
    refine zb_if (j := 15) (j2 := 13) e rfl (fun e => ?_) (fun e => ?_)
    · refine zwp.go (m := 1) (j := 16) (ls' := [some (zr ((52, 11, 0) : zF)), some (zi a1)]) (st' := [zi (0 : Int32)]) (h' := h) rfl ?_
      cases e
      exact zwp.ret rfl rfl ⟨rfl, rfl⟩
    · refine zwp.go (m := 2) (j := 16) (ls' := [some (zr ((52, 11, 0) : zF)), some (zi a1)]) (st' := [zi (1 : Int32)]) (h' := h) rfl ?_
      cases e
      exact zwp.ret rfl rfl ⟨rfl, rfl⟩
def s_X11_rib_J13 (h : zH) : Option (Int32 × zH) := zbd (s_X11_fail (1 : Int32) h) fun v2 h1 => some (v2, h1)
theorem s_X11_rib_J13_ok (d : Nat) (ρ : Nat → Nat → Option zF) (hρ : zSh ρ) (h : zH) (res : Int32 × zH) (hR : zRq h ρ) (e : s_X11_rib_J13   h = some res) : zwp (d + 2) zm_X11_rib 13 [some (zr ((52, 11, 0) : zF)), none, none, none, none] [] h (zQi ρ res) := by
  rw [s_X11_rib_J13] at e
  refine zwp.go (m := 2) (j := 15) (ls' := [some (zr ((52, 11, 0) : zF)), none, none, none, none]) (st' := [zi (1 : Int32), zr ((52, 11, 0) : zF)]) (h' := h) rfl ?_
  refine zc_ci (d := d + 1) e (fun q e => s_X11_fail_ok (d + 1) ρ hρ (1 : Int32) h q hR e) rfl rfl (fun v2 h1 hR1 e => ?_)
  cases e
  exact zwp.ret rfl rfl ⟨⟨rfl, rfl⟩, hR1⟩
def s_X11_rib_L21 : Nat → Int32 → Int32 → Int32 → Int32 → zH → Option (Int32 × zH)
  | 0, _, _, _, _, _ => none
  | n + 1, l1, l2, l3, l4, h => if (zI h 56 1) ≤ l4 then (if ¬ l2 = 0 then (if ¬ l2 = (1 : Int32) then (if ¬ l2 = (2 : Int32) then (some (l3, h)) else ((s_X11_isPast l1 h).bind fun v1 => if v1 = 0 then (some ((0 : Int32), h)) else (some ((1 : Int32), h)))) else (zix l1 24 fun i2 => some ((zI h 57 i2), h))) else (zix l1 12 fun i3 => some ((zI h 64 i3), h))) else (zix l4 16 fun i4 => (s_X11_isOf (zI h 59 i4) l1 h).bind fun v5 => if v5 = 0 then (s_X11_rib_L21 n l1 l2 (l3 ||| (0 : Int32)) (l4 + (1 : Int32)) h) else (s_X11_rib_L21 n l1 l2 (l3 ||| ((1 : Int32) <<< (l4 &&& 31))) (l4 + (1 : Int32)) h))
theorem s_X11_rib_L21_ok (d : Nat) (ρ : Nat → Nat → Option zF) (hρ : zSh ρ) : ∀ (n : Nat) (l1 : Int32) (l2 : Int32) (l3 : Int32) (l4 : Int32) (h : zH) (res : Int32 × zH) (hR : zRq h ρ) (e : s_X11_rib_L21  n l1 l2 l3 l4 h = some res), zwp (d + 2) zm_X11_rib 21 [some (zr ((52, 11, 0) : zF)), some (zi l1), some (zi l2), some (zi l3), some (zi l4)] [] h (zQi ρ res) := by
  intro n
  induction n with
  | zero => intro l1 l2 l3 l4 h res hR e; cases e
  | succ n ih =>
    intro l1 l2 l3 l4 h res hR e
    rw [s_X11_rib_L21] at e
    refine zwp.go (m := 2) (j := 23) (ls' := [some (zr ((52, 11, 0) : zF)), some (zi l1), some (zi l2), some (zi l3), some (zi l4)]) (st' := [zr ((52, 11, 0) : zF), zi l4]) (h' := h) rfl ?_
    refine zc_sr (r := ((56, 20, 12) : zF)) (zrf (a := 52) (y := 5) hR rfl (hρ 52 5 rfl)) rfl ?_
    refine zwp.go (m := 2) (j := 26) (ls' := [some (zr ((52, 11, 0) : zF)), some (zi l1), some (zi l2), some (zi l3), some (zi l4)]) (st' := [zi (zI h 56 1), zi l4]) (h' := h) rfl ?_
    refine zb_if (j := 44) (j2 := 27) e rfl (fun e => ?_) (fun e => ?_)
    · refine zwp.go (m := 1) (j := 45) (ls' := [some (zr ((52, 11, 0) : zF)), some (zi l1), some (zi l2), some (zi l3), some (zi l4)]) (st' := [zi l2]) (h' := h) rfl ?_
      refine zb_if (j := 51) (j2 := 46) e rfl (fun e => ?_) (fun e => ?_)
      · refine zwp.go (m := 2) (j := 53) (ls' := [some (zr ((52, 11, 0) : zF)), some (zi l1), some (zi l2), some (zi l3), some (zi l4)]) (st' := [zi (1 : Int32), zi l2]) (h' := h) rfl ?_
        refine zb_if (j := 59) (j2 := 54) e rfl (fun e => ?_) (fun e => ?_)
        · refine zwp.go (m := 2) (j := 61) (ls' := [some (zr ((52, 11, 0) : zF)), some (zi l1), some (zi l2), some (zi l3), some (zi l4)]) (st' := [zi (2 : Int32), zi l2]) (h' := h) rfl ?_
          refine zb_if (j := 70) (j2 := 62) e rfl (fun e => ?_) (fun e => ?_)
          · refine zwp.go (m := 1) (j := 71) (ls' := [some (zr ((52, 11, 0) : zF)), some (zi l1), some (zi l2), some (zi l3), some (zi l4)]) (st' := [zi l3]) (h' := h) rfl ?_
            cases e
            exact zwp.ret rfl rfl ⟨⟨rfl, rfl⟩, hR⟩
          · refine zwp.go (m := 2) (j := 64) (ls' := [some (zr ((52, 11, 0) : zF)), some (zi l1), some (zi l2), some (zi l3), some (zi l4)]) (st' := [zi l1, zr ((52, 11, 0) : zF)]) (h' := h) rfl ?_
            refine zc_cp (d := d + 1) e (fun q e => s_X11_isPast_ok (d + 1) ρ hρ l1 h q hR e) rfl rfl (fun v1 e => ?_)
            refine zb_if (j := 68) (j2 := 66) e rfl (fun e => ?_) (fun e => ?_)
            · refine zwp.go (m := 2) (j := 71) (ls' := [some (zr ((52, 11, 0) : zF)), some (zi l1), some (zi l2), some (zi l3), some (zi l4)]) (st' := [zi (0 : Int32)]) (h' := h) rfl ?_
              cases e
              exact zwp.ret rfl rfl ⟨⟨rfl, rfl⟩, hR⟩
            · refine zwp.go (m := 2) (j := 71) (ls' := [some (zr ((52, 11, 0) : zF)), some (zi l1), some (zi l2), some (zi l3), some (zi l4)]) (st' := [zi (1 : Int32)]) (h' := h) rfl ?_
              cases e
              exact zwp.ret rfl rfl ⟨⟨rfl, rfl⟩, hR⟩
        · refine zwp.go (m := 1) (j := 55) (ls' := [some (zr ((52, 11, 0) : zF)), some (zi l1), some (zi l2), some (zi l3), some (zi l4)]) (st' := [zr ((52, 11, 0) : zF)]) (h' := h) rfl ?_
          refine zc_sr (r := ((57, 20, 24) : zF)) (zrf (a := 52) (y := 6) hR rfl (hρ 52 6 rfl)) rfl ?_
          refine zwp.go (m := 1) (j := 57) (ls' := [some (zr ((52, 11, 0) : zF)), some (zi l1), some (zi l2), some (zi l3), some (zi l4)]) (st' := [zi l1, zr ((57, 20, 24) : zF)]) (h' := h) rfl ?_
          refine zc_ai e (fun _ => rfl) (fun i2 e => ?_)
          refine zwp.go (m := 1) (j := 71) (ls' := [some (zr ((52, 11, 0) : zF)), some (zi l1), some (zi l2), some (zi l3), some (zi l4)]) (st' := [zi (zI h 57 i2)]) (h' := h) rfl ?_
          cases e
          exact zwp.ret rfl rfl ⟨⟨rfl, rfl⟩, hR⟩
      · refine zwp.go (m := 1) (j := 47) (ls' := [some (zr ((52, 11, 0) : zF)), some (zi l1), some (zi l2), some (zi l3), some (zi l4)]) (st' := [zr ((52, 11, 0) : zF)]) (h' := h) rfl ?_
        refine zc_sr (r := ((64, 20, 12) : zF)) (zrf (a := 52) (y := 24) hR rfl (hρ 52 24 rfl)) rfl ?_
        refine zwp.go (m := 1) (j := 49) (ls' := [some (zr ((52, 11, 0) : zF)), some (zi l1), some (zi l2), some (zi l3), some (zi l4)]) (st' := [zi l1, zr ((64, 20, 12) : zF)]) (h' := h) rfl ?_
        refine zc_ai e (fun _ => rfl) (fun i3 e => ?_)
        refine zwp.go (m := 1) (j := 71) (ls' := [some (zr ((52, 11, 0) : zF)), some (zi l1), some (zi l2), some (zi l3), some (zi l4)]) (st' := [zi (zI h 64 i3)]) (h' := h) rfl ?_
        cases e
        exact zwp.ret rfl rfl ⟨⟨rfl, rfl⟩, hR⟩
    · refine zwp.go (m := 2) (j := 29) (ls' := [some (zr ((52, 11, 0) : zF)), some (zi l1), some (zi l2), some (zi l3), some (zi l4)]) (st' := [zr ((52, 11, 0) : zF), zi l3]) (h' := h) rfl ?_
      refine zc_sr (r := ((59, 20, 16) : zF)) (zrf (a := 52) (y := 8) hR rfl (hρ 52 8 rfl)) rfl ?_
      refine zwp.go (m := 1) (j := 31) (ls' := [some (zr ((52, 11, 0) : zF)), some (zi l1), some (zi l2), some (zi l3), some (zi l4)]) (st' := [zi l4, zr ((59, 20, 16) : zF), zi l3]) (h' := h) rfl ?_
      refine zc_ai e (fun _ => rfl) (fun i4 e => ?_)
      refine zwp.go (m := 1) (j := 33) (ls' := [some (zr ((52, 11, 0) : zF)), some (zi l1), some (zi l2), some (zi l3), some (zi l4)]) (st' := [zi l1, zi (zI h 59 i4), zi l3]) (h' := h) rfl ?_
      refine zc_cp (d := d + 1) e (fun q e => s_X11_isOf_ok (d + 1) ρ hρ (zI h 59 i4) l1 h q hR e) rfl rfl (fun v5 e => ?_)
      refine zb_if (j := 39) (j2 := 35) e rfl (fun e => ?_) (fun e => ?_)
      · refine zwp.go (m := 5) (j := 21) (ls' := [some (zr ((52, 11, 0) : zF)), some (zi l1), some (zi l2), some (zi (l3 ||| (0 : Int32))), some (zi (l4 + (1 : Int32)))]) (st' := []) (h' := h) rfl ?_
        exact ih l1 l2 (l3 ||| (0 : Int32)) (l4 + (1 : Int32)) h _ hR e
      · refine zwp.go (m := 8) (j := 21) (ls' := [some (zr ((52, 11, 0) : zF)), some (zi l1), some (zi l2), some (zi (l3 ||| ((1 : Int32) <<< (l4 &&& 31)))), some (zi (l4 + (1 : Int32)))]) (st' := []) (h' := h) rfl ?_
        exact ih l1 l2 (l3 ||| ((1 : Int32) <<< (l4 &&& 31))) (l4 + (1 : Int32)) h _ hR e
def s_X11_rib (a1 : Int32) (a2 : Int32) (h : zH) : Option (Int32 × zH) := zlt (zwI h 52 4 (0 : Int32)) fun h1 => (s_X11_isRib a1 h1).bind fun v2 => if v2 = 0 then (s_X11_rib_J13 h1) else ((s_X11_isIn a2.toInt64 (0 : Int64) (3 : Int64) h1).bind fun v3 => if ¬ v3 = 0 then (s_X11_rib_L21 zfu a1 a2 (0 : Int32) (0 : Int32) h1) else (s_X11_rib_J13 h1))
theorem s_X11_rib_ok (d : Nat) (ρ : Nat → Nat → Option zF) (hρ : zSh ρ) (a1 : Int32) (a2 : Int32) (h : zH) (res : Int32 × zH) (hR : zRq h ρ) (e : s_X11_rib a1 a2 h = some res) : zcl (d + 2) 112 [zr ((52, 11, 0) : zF), zi a1, zi a2] h (zQi ρ res) := by
  rw [s_X11_rib] at e
  refine ⟨zm_X11_rib, rfl, ?_⟩
  show zwp (d + 2) zm_X11_rib 0 [some (zr ((52, 11, 0) : zF)), some (zi a1), some (zi a2), none, none] [] h _
  refine zwp.go (m := 2) (j := 2) (ls' := [some (zr ((52, 11, 0) : zF)), some (zi a1), some (zi a2), none, none]) (st' := [zi (0 : Int32), zr ((52, 11, 0) : zF)]) (h' := h) rfl ?_
  refine zc_w e rfl hR (fun h1 hR1 e => ?_)
  refine zwp.go (m := 2) (j := 5) (ls' := [some (zr ((52, 11, 0) : zF)), some (zi a1), some (zi a2), none, none]) (st' := [zi a1, zr ((52, 11, 0) : zF)]) (h' := h1) rfl ?_
  refine zc_cp (d := d + 1) e (fun q e => s_X11_isRib_ok (d + 0) ρ hρ a1 h1 q hR1 e) rfl rfl (fun v2 e => ?_)
  refine zb_if (j := 13) (j2 := 7) e rfl (fun e => ?_) (fun e => ?_)
  · refine zwp.fg (a := [some (zr ((52, 11, 0) : zF)), none, none, none, none]) (And.intro rfl trivial) ?_
    exact s_X11_rib_J13_ok d ρ hρ h1 _ hR1 e
  · refine zwp.go (m := 4) (j := 11) (ls' := [some (zr ((52, 11, 0) : zF)), some (zi a1), some (zi a2), none, none]) (st' := [zl (3 : Int64), zl (0 : Int64), zl a2.toInt64]) (h' := h1) rfl ?_
    refine zc_cp (d := d + 1) e (fun q e => s_X11_isIn_ok (d + 1) ρ hρ a2.toInt64 (0 : Int64) (3 : Int64) h1 q hR1 e) rfl rfl (fun v3 e => ?_)
    refine zb_if (j := 17) (j2 := 13) e rfl (fun e => ?_) (fun e => ?_)
    · refine zwp.go (m := 4) (j := 21) (ls' := [some (zr ((52, 11, 0) : zF)), some (zi a1), some (zi a2), some (zi (0 : Int32)), some (zi (0 : Int32))]) (st' := []) (h' := h1) rfl ?_
      exact s_X11_rib_L21_ok d ρ hρ zfu a1 a2 (0 : Int32) (0 : Int32) h1 _ hR1 e
    · refine zwp.fg (a := [some (zr ((52, 11, 0) : zF)), none, none, none, none]) (And.intro rfl trivial) ?_
      exact s_X11_rib_J13_ok d ρ hρ h1 _ hR1 e
def s_X10_needVerse (pp : Nat) (a1 : Int32) (h : zH) : Option ((Unit ⊕ Nat) × zH) := if a1 < 0 then (some (Sum.inr 1, zth h)) else (if a1 < (zI h pp 8) then (some (Sum.inl (), h)) else (some (Sum.inr 1, zth h)))
theorem s_X10_needVerse_ok (d : Nat) (ρ : Nat → Nat → Option zF) (hρ : zSh ρ) (pp : Nat) (a1 : Int32) (hpp : ρ 0 3 = some (pp, 3, 0) ∧ zPlS ρ pp) (h : zH) (res : (Unit ⊕ Nat) × zH) (hR : zRq h ρ) (e : s_X10_needVerse pp a1 h = some res) : zcl d 113 [zr ((0, 10, 0) : zF), zi a1] h (zQu ρ res) := by
  rw [s_X10_needVerse] at e
  refine ⟨zm_X10_needVerse, rfl, ?_⟩
  show zwp d zm_X10_needVerse 0 [some (zr ((0, 10, 0) : zF)), some (zi a1)] [] h _
  refine zwp.go (m := 1) (j := 1) (ls' := [some (zr ((0, 10, 0) : zF)), some (zi a1)]) (st' := [zi a1]) (h' := h) rfl ?_
  refine zb_if (j := 7) (j2 := 2) e rfl (fun e => ?_) (fun e => ?_)
  · cases e
    exact zwp.th rfl rfl ⟨⟨rfl, rfl⟩, hR⟩
  · refine zwp.go (m := 2) (j := 4) (ls' := [some (zr ((0, 10, 0) : zF)), some (zi a1)]) (st' := [zr ((0, 10, 0) : zF), zi a1]) (h' := h) rfl ?_
    refine zc_sr (r := ((pp, 3, 0) : zF)) (zrf (a := 0) (y := 3) hR rfl hpp.1) rfl ?_
    refine zwp.go (m := 1) (j := 6) (ls' := [some (zr ((0, 10, 0) : zF)), some (zi a1)]) (st' := [zi (zI h pp 8), zi a1]) (h' := h) rfl ?_
    refine zb_if (j := 12) (j2 := 7) e rfl (fun e => ?_) (fun e => ?_)
    · cases e
      exact zwp.rv rfl ⟨⟨rfl, rfl⟩, hR⟩
    · cases e
      exact zwp.th rfl rfl ⟨⟨rfl, rfl⟩, hR⟩
def s_X7_longestFloat_J36 (a1 : Nat) (k8 : (Int32 → Int32 → Int32 → Int32 → Int32 → Int32 → zH → Option (Int32))) (l2 : Int32) (l3 : Int32) (l4 : Int32) (l7 : Int32) (l8 : Int32) (s0 : Int32) (h : zH) : Option (Int32) := (s_J9_max_7cf53 l4 s0 h).bind fun v1 => k8 l2 l3 v1 s0 l8 (l7 + (1 : Int32)) h
theorem s_X7_longestFloat_J36_ok (d : Nat) (ρ : Nat → Nat → Option zF) (hρ : zSh ρ) (a1 : Nat) (ha1 : zPlS ρ a1) (k8 : (Int32 → Int32 → Int32 → Int32 → Int32 → Int32 → zH → Option (Int32))) (hk8 : ∀ l2 l3 l4 l5 l6 l7 h res, zRq h ρ → k8 l2 l3 l4 l5 l6 l7 h = some res → zwp (d + 1) zm_X7_longestFloat 8 [none, some (zr ((a1, 3, 0) : zF)), some (zi l2), some (zi l3), some (zi l4), some (zi l5), some (zi l6), some (zi l7), none] [] h (zQp h res)) (l2 : Int32) (l3 : Int32) (l4 : Int32) (l7 : Int32) (l8 : Int32) (s0 : Int32) (h : zH) (res : Int32) (hR : zRq h ρ) (e : s_X7_longestFloat_J36 a1 k8 l2 l3 l4 l7 l8 s0 h = some res) : zwp (d + 1) zm_X7_longestFloat 36 [none, some (zr ((a1, 3, 0) : zF)), some (zi l2), some (zi l3), some (zi l4), none, none, some (zi l7), some (zi l8)] [zi s0] h (zQp h res) := by
  rw [s_X7_longestFloat_J36] at e
  refine zwp.go (m := 5) (j := 41) (ls' := [none, some (zr ((a1, 3, 0) : zF)), some (zi l2), some (zi l3), some (zi l4), some (zi s0), some (zi l8), some (zi l7), some (zi l8)]) (st' := [zi s0, zi l4]) (h' := h) rfl ?_
  refine zc_cp (d := d + 0) e (fun q e => s_J9_max_7cf53_ok (d + 0) ρ hρ l4 s0 h q hR e) rfl rfl (fun v1 e => ?_)
  refine zwp.go (m := 3) (j := 8) (ls' := [none, some (zr ((a1, 3, 0) : zF)), some (zi l2), some (zi l3), some (zi v1), some (zi s0), some (zi l8), some (zi (l7 + (1 : Int32))), some (zi l8)]) (st' := []) (h' := h) rfl ?_
  refine zwp.fg (a := [none, some (zr ((a1, 3, 0) : zF)), some (zi l2), some (zi l3), some (zi v1), some (zi s0), some (zi l8), some (zi (l7 + (1 : Int32))), none]) (And.intro rfl (And.intro rfl (And.intro rfl (And.intro rfl (And.intro rfl (And.intro rfl (And.intro rfl trivial))))))) ?_
  exact hk8 l2 l3 v1 s0 l8 (l7 + (1 : Int32)) h _ hR e
def s_X7_longestFloat_L8 (a1 : Nat) : Nat → Int32 → Int32 → Int32 → Int32 → Int32 → Int32 → zH → Option (Int32)
  | 0, _, _, _, _, _, _, _ => none
  | n + 1, l2, l3, l4, l5, l6, l7, h => if (zI h a1 6) ≤ l7 then (some l4) else (if ¬ ((l2 >>> (l7 &&& 31)) &&& (1 : Int32)) = (1 : Int32) then (s_X7_longestFloat_L8 a1 n l2 l3 l4 l5 l6 (l7 + (1 : Int32)) h) else (zix l3 8 fun i1 => if ¬ (((zI h (a1 + 2) i1) >>> (l7 &&& 31)) &&& (1 : Int32)) = l6 then (s_X7_longestFloat_J36 a1 (s_X7_longestFloat_L8 a1 n) l2 l3 l4 l7 (((zI h (a1 + 2) i1) >>> (l7 &&& 31)) &&& (1 : Int32)) (1 : Int32) h) else (s_X7_longestFloat_J36 a1 (s_X7_longestFloat_L8 a1 n) l2 l3 l4 l7 (((zI h (a1 + 2) i1) >>> (l7 &&& 31)) &&& (1 : Int32)) (l5 + (1 : Int32)) h)))
theorem s_X7_longestFloat_L8_ok (d : Nat) (ρ : Nat → Nat → Option zF) (hρ : zSh ρ) (a1 : Nat) (ha1 : zPlS ρ a1) : ∀ (n : Nat) (l2 : Int32) (l3 : Int32) (l4 : Int32) (l5 : Int32) (l6 : Int32) (l7 : Int32) (h : zH) (res : Int32) (hR : zRq h ρ) (e : s_X7_longestFloat_L8 a1 n l2 l3 l4 l5 l6 l7 h = some res), zwp (d + 1) zm_X7_longestFloat 8 [none, some (zr ((a1, 3, 0) : zF)), some (zi l2), some (zi l3), some (zi l4), some (zi l5), some (zi l6), some (zi l7), none] [] h (zQp h res) := by
  intro n
  induction n with
  | zero => intro l2 l3 l4 l5 l6 l7 h res hR e; cases e
  | succ n ih =>
    intro l2 l3 l4 l5 l6 l7 h res hR e
    rw [s_X7_longestFloat_L8] at e
    refine zwp.go (m := 3) (j := 11) (ls' := [none, some (zr ((a1, 3, 0) : zF)), some (zi l2), some (zi l3), some (zi l4), some (zi l5), some (zi l6), some (zi l7), none]) (st' := [zi (zI h a1 6), zi l7]) (h' := h) rfl ?_
    refine zb_if (j := 45) (j2 := 12) e rfl (fun e => ?_) (fun e => ?_)
    · refine zwp.go (m := 1) (j := 46) (ls' := [none, some (zr ((a1, 3, 0) : zF)), some (zi l2), some (zi l3), some (zi l4), some (zi l5), some (zi l6), some (zi l7), none]) (st' := [zi l4]) (h' := h) rfl ?_
      cases e
      exact zwp.ret rfl rfl ⟨rfl, rfl⟩
    · refine zwp.go (m := 6) (j := 18) (ls' := [none, some (zr ((a1, 3, 0) : zF)), some (zi l2), some (zi l3), some (zi l4), some (zi l5), some (zi l6), some (zi l7), none]) (st' := [zi (1 : Int32), zi ((l2 >>> (l7 &&& 31)) &&& (1 : Int32))]) (h' := h) rfl ?_
      refine zb_if (j := 43) (j2 := 19) e rfl (fun e => ?_) (fun e => ?_)
      · refine zwp.go (m := 2) (j := 8) (ls' := [none, some (zr ((a1, 3, 0) : zF)), some (zi l2), some (zi l3), some (zi l4), some (zi l5), some (zi l6), some (zi (l7 + (1 : Int32))), none]) (st' := []) (h' := h) rfl ?_
        exact ih l2 l3 l4 l5 l6 (l7 + (1 : Int32)) h _ hR e
      · refine zwp.go (m := 1) (j := 20) (ls' := [none, some (zr ((a1, 3, 0) : zF)), some (zi l2), some (zi l3), some (zi l4), some (zi l5), some (zi l6), some (zi l7), none]) (st' := [zr ((a1, 3, 0) : zF)]) (h' := h) rfl ?_
        refine zc_sr (r := (((a1 + 2), 20, 8) : zF)) (zrf (a := a1) (y := 1) hR rfl ha1.2.2.1) rfl ?_
        refine zwp.go (m := 1) (j := 22) (ls' := [none, some (zr ((a1, 3, 0) : zF)), some (zi l2), some (zi l3), some (zi l4), some (zi l5), some (zi l6), some (zi l7), none]) (st' := [zi l3, zr (((a1 + 2), 20, 8) : zF)]) (h' := h) rfl ?_
        refine zc_ai e (fun _ => rfl) (fun i1 e => ?_)
        refine zwp.go (m := 7) (j := 30) (ls' := [none, some (zr ((a1, 3, 0) : zF)), some (zi l2), some (zi l3), some (zi l4), some (zi l5), some (zi l6), some (zi l7), some (zi (((zI h (a1 + 2) i1) >>> (l7 &&& 31)) &&& (1 : Int32)))]) (st' := [zi l6, zi (((zI h (a1 + 2) i1) >>> (l7 &&& 31)) &&& (1 : Int32))]) (h' := h) rfl ?_
        refine zb_if (j := 35) (j2 := 31) e rfl (fun e => ?_) (fun e => ?_)
        · refine zwp.go (m := 1) (j := 36) (ls' := [none, some (zr ((a1, 3, 0) : zF)), some (zi l2), some (zi l3), some (zi l4), some (zi l5), some (zi l6), some (zi l7), some (zi (((zI h (a1 + 2) i1) >>> (l7 &&& 31)) &&& (1 : Int32)))]) (st' := [zi (1 : Int32)]) (h' := h) rfl ?_
          refine zwp.fg (a := [none, some (zr ((a1, 3, 0) : zF)), some (zi l2), some (zi l3), some (zi l4), none, none, some (zi l7), some (zi (((zI h (a1 + 2) i1) >>> (l7 &&& 31)) &&& (1 : Int32)))]) (And.intro rfl (And.intro rfl (And.intro rfl (And.intro rfl (And.intro rfl (And.intro rfl trivial)))))) ?_
          exact s_X7_longestFloat_J36_ok d ρ hρ a1 ha1 (s_X7_longestFloat_L8 a1 n) ih l2 l3 l4 l7 (((zI h (a1 + 2) i1) >>> (l7 &&& 31)) &&& (1 : Int32)) (1 : Int32) h _ hR e
        · refine zwp.go (m := 4) (j := 36) (ls' := [none, some (zr ((a1, 3, 0) : zF)), some (zi l2), some (zi l3), some (zi l4), some (zi l5), some (zi l6), some (zi l7), some (zi (((zI h (a1 + 2) i1) >>> (l7 &&& 31)) &&& (1 : Int32)))]) (st' := [zi (l5 + (1 : Int32))]) (h' := h) rfl ?_
          refine zwp.fg (a := [none, some (zr ((a1, 3, 0) : zF)), some (zi l2), some (zi l3), some (zi l4), none, none, some (zi l7), some (zi (((zI h (a1 + 2) i1) >>> (l7 &&& 31)) &&& (1 : Int32)))]) (And.intro rfl (And.intro rfl (And.intro rfl (And.intro rfl (And.intro rfl (And.intro rfl trivial)))))) ?_
          exact s_X7_longestFloat_J36_ok d ρ hρ a1 ha1 (s_X7_longestFloat_L8 a1 n) ih l2 l3 l4 l7 (((zI h (a1 + 2) i1) >>> (l7 &&& 31)) &&& (1 : Int32)) (l5 + (1 : Int32)) h _ hR e
def s_X7_longestFloat (a1 : Nat) (a2 : Int32) (a3 : Int32) (h : zH) : Option (Int32) := s_X7_longestFloat_L8 a1 zfu a2 a3 (0 : Int32) (0 : Int32) (-1 : Int32) (0 : Int32) h
theorem s_X7_longestFloat_ok (d : Nat) (ρ : Nat → Nat → Option zF) (hρ : zSh ρ) (a1 : Nat) (a2 : Int32) (a3 : Int32) (ha1 : zPlS ρ a1) (h : zH) (res : Int32) (hR : zRq h ρ) (e : s_X7_longestFloat a1 a2 a3 h = some res) : zcl (d + 1) 114 [zr ((44, 7, 0) : zF), zr ((a1, 3, 0) : zF), zi a2, zi a3] h (zQp h res) := by
  rw [s_X7_longestFloat] at e
  refine ⟨zm_X7_longestFloat, rfl, ?_⟩
  show zwp (d + 1) zm_X7_longestFloat 0 [some (zr ((44, 7, 0) : zF)), some (zr ((a1, 3, 0) : zF)), some (zi a2), some (zi a3), none, none, none, none, none] [] h _
  refine zwp.go (m := 8) (j := 8) (ls' := [some (zr ((44, 7, 0) : zF)), some (zr ((a1, 3, 0) : zF)), some (zi a2), some (zi a3), some (zi (0 : Int32)), some (zi (0 : Int32)), some (zi (-1 : Int32)), some (zi (0 : Int32)), none]) (st' := []) (h' := h) rfl ?_
  refine zwp.fg (a := [none, some (zr ((a1, 3, 0) : zF)), some (zi a2), some (zi a3), some (zi (0 : Int32)), some (zi (0 : Int32)), some (zi (-1 : Int32)), some (zi (0 : Int32)), none]) (And.intro rfl (And.intro rfl (And.intro rfl (And.intro rfl (And.intro rfl (And.intro rfl (And.intro rfl trivial))))))) ?_
  exact s_X7_longestFloat_L8_ok d ρ hρ a1 ha1 zfu a2 a3 (0 : Int32) (0 : Int32) (-1 : Int32) (0 : Int32) h _ hR e
def s_X10_verse (pp : Nat) (a1 : Int32) (a2 : Int32) (h : zH) : Option ((Int32 ⊕ Nat) × zH) := zbx (s_X10_needVerse pp a1 h) (fun _ h2 => if a2 = 0 then (zix a1 8 fun i3 => some (Sum.inl (zI h2 (pp + 2) i3), h2)) else if a2 = 1 then (zix a1 8 fun i4 => (s_X10_aliveNow pp h2).bind fun v5 => some (Sum.inl ((zI h2 (pp + 2) i4) &&& v5), h2)) else if a2 = 2 then ((s_X10_aliveNow pp h2).bind fun v6 => (s_X7_longestFloat pp v6 a1 h2).bind fun v7 => some (Sum.inl v7, h2)) else if a2 = 3 then ((s_X10_aliveNow pp h2).bind fun v8 => (s_X7_alike pp v8 a1 h2).bind fun v9 => some (Sum.inl v9, h2)) else (some (Sum.inr 1, zth h2))) (fun x h1 => some (Sum.inr x, h1))
theorem s_X10_verse_ok (d : Nat) (ρ : Nat → Nat → Option zF) (hρ : zSh ρ) (pp : Nat) (a1 : Int32) (a2 : Int32) (hpp : ρ 0 3 = some (pp, 3, 0) ∧ zPlS ρ pp) (h : zH) (res : (Int32 ⊕ Nat) × zH) (hR : zRq h ρ) (e : s_X10_verse pp a1 a2 h = some res) : zcl (d + 3) 115 [zr ((0, 10, 0) : zF), zi a1, zi a2] h (zQx ρ res) := by
  rw [s_X10_verse] at e
  refine ⟨zm_X10_verse, rfl, ?_⟩
  show zwp (d + 3) zm_X10_verse 0 [some (zr ((0, 10, 0) : zF)), some (zi a1), some (zi a2)] [] h _
  refine zwp.go (m := 2) (j := 2) (ls' := [some (zr ((0, 10, 0) : zF)), some (zi a1), some (zi a2)]) (st' := [zi a1, zr ((0, 10, 0) : zF)]) (h' := h) rfl ?_
  refine zc_cu (d := d + 2) e (fun q e => s_X10_needVerse_ok (d + 2) ρ hρ pp a1 hpp h q hR e) rfl rfl (fun h2 hR2 e => ?_) (fun x h1 hR1 e => ?_)
  · refine zwp.go (m := 1) (j := 4) (ls' := [some (zr ((0, 10, 0) : zF)), some (zi a1), some (zi a2)]) (st' := [zi a2]) (h' := h2) rfl ?_
    refine zwp.nx (j := zsw [(0, 5), (1, 11), (2, 20), (3, 29)] 38 a2) (ls' := [some (zr ((0, 10, 0) : zF)), some (zi a1), some (zi a2)]) (st' := []) (h' := h2) rfl ?_
    refine zb_sw e (fun e => ?_) (fun e => ?_)
    · refine zwp.go (m := 1) (j := 6) (ls' := [some (zr ((0, 10, 0) : zF)), some (zi a1), some (zi a2)]) (st' := [zr ((0, 10, 0) : zF)]) (h' := h2) rfl ?_
      refine zc_sr (r := ((pp, 3, 0) : zF)) (zrf (a := 0) (y := 3) hR2 rfl hpp.1) rfl ?_
      refine zc_sr (r := (((pp + 2), 20, 8) : zF)) (zrf (a := pp) (y := 1) hR2 rfl hpp.2.2.2.1) rfl ?_
      refine zwp.go (m := 1) (j := 9) (ls' := [some (zr ((0, 10, 0) : zF)), some (zi a1), some (zi a2)]) (st' := [zi a1, zr (((pp + 2), 20, 8) : zF)]) (h' := h2) rfl ?_
      refine zc_ai e (fun _ => rfl) (fun i3 e => ?_)
      cases e
      exact zwp.ret rfl rfl ⟨⟨rfl, rfl⟩, hR2⟩
    refine zb_sw e (fun e => ?_) (fun e => ?_)
    · refine zwp.go (m := 1) (j := 12) (ls' := [some (zr ((0, 10, 0) : zF)), some (zi a1), some (zi a2)]) (st' := [zr ((0, 10, 0) : zF)]) (h' := h2) rfl ?_
      refine zc_sr (r := ((pp, 3, 0) : zF)) (zrf (a := 0) (y := 3) hR2 rfl hpp.1) rfl ?_
      refine zc_sr (r := (((pp + 2), 20, 8) : zF)) (zrf (a := pp) (y := 1) hR2 rfl hpp.2.2.2.1) rfl ?_
      refine zwp.go (m := 1) (j := 15) (ls' := [some (zr ((0, 10, 0) : zF)), some (zi a1), some (zi a2)]) (st' := [zi a1, zr (((pp + 2), 20, 8) : zF)]) (h' := h2) rfl ?_
      refine zc_ai e (fun _ => rfl) (fun i4 e => ?_)
      refine zwp.go (m := 1) (j := 17) (ls' := [some (zr ((0, 10, 0) : zF)), some (zi a1), some (zi a2)]) (st' := [zr ((0, 10, 0) : zF), zi (zI h2 (pp + 2) i4)]) (h' := h2) rfl ?_
      refine zc_cp (d := d + 2) e (fun q e => s_X10_aliveNow_ok (d + 1) ρ hρ pp hpp h2 q hR2 e) rfl rfl (fun v5 e => ?_)
      refine zwp.go (m := 1) (j := 19) (ls' := [some (zr ((0, 10, 0) : zF)), some (zi a1), some (zi a2)]) (st' := [zi ((zI h2 (pp + 2) i4) &&& v5)]) (h' := h2) rfl ?_
      cases e
      exact zwp.ret rfl rfl ⟨⟨rfl, rfl⟩, hR2⟩
    refine zb_sw e (fun e => ?_) (fun e => ?_)
    · refine zwp.go (m := 1) (j := 21) (ls' := [some (zr ((0, 10, 0) : zF)), some (zi a1), some (zi a2)]) (st' := [zr ((0, 10, 0) : zF)]) (h' := h2) rfl ?_
      refine zc_sr (r := ((44, 7, 0) : zF)) (zrf (a := 0) (y := 12) hR2 rfl (hρ 0 12 rfl)) rfl ?_
      refine zwp.go (m := 1) (j := 23) (ls' := [some (zr ((0, 10, 0) : zF)), some (zi a1), some (zi a2)]) (st' := [zr ((0, 10, 0) : zF), zr ((44, 7, 0) : zF)]) (h' := h2) rfl ?_
      refine zc_sr (r := ((pp, 3, 0) : zF)) (zrf (a := 0) (y := 3) hR2 rfl hpp.1) rfl ?_
      refine zwp.go (m := 1) (j := 25) (ls' := [some (zr ((0, 10, 0) : zF)), some (zi a1), some (zi a2)]) (st' := [zr ((0, 10, 0) : zF), zr ((pp, 3, 0) : zF), zr ((44, 7, 0) : zF)]) (h' := h2) rfl ?_
      refine zc_cp (d := d + 2) e (fun q e => s_X10_aliveNow_ok (d + 1) ρ hρ pp hpp h2 q hR2 e) rfl rfl (fun v6 e => ?_)
      refine zwp.go (m := 1) (j := 27) (ls' := [some (zr ((0, 10, 0) : zF)), some (zi a1), some (zi a2)]) (st' := [zi a1, zi v6, zr ((pp, 3, 0) : zF), zr ((44, 7, 0) : zF)]) (h' := h2) rfl ?_
      refine zc_cp (d := d + 2) e (fun q e => s_X7_longestFloat_ok (d + 1) ρ hρ pp v6 a1 hpp.2 h2 q hR2 e) rfl rfl (fun v7 e => ?_)
      cases e
      exact zwp.ret rfl rfl ⟨⟨rfl, rfl⟩, hR2⟩
    refine zb_sw e (fun e => ?_) (fun e => ?_)
    · refine zwp.go (m := 1) (j := 30) (ls' := [some (zr ((0, 10, 0) : zF)), some (zi a1), some (zi a2)]) (st' := [zr ((0, 10, 0) : zF)]) (h' := h2) rfl ?_
      refine zc_sr (r := ((44, 7, 0) : zF)) (zrf (a := 0) (y := 12) hR2 rfl (hρ 0 12 rfl)) rfl ?_
      refine zwp.go (m := 1) (j := 32) (ls' := [some (zr ((0, 10, 0) : zF)), some (zi a1), some (zi a2)]) (st' := [zr ((0, 10, 0) : zF), zr ((44, 7, 0) : zF)]) (h' := h2) rfl ?_
      refine zc_sr (r := ((pp, 3, 0) : zF)) (zrf (a := 0) (y := 3) hR2 rfl hpp.1) rfl ?_
      refine zwp.go (m := 1) (j := 34) (ls' := [some (zr ((0, 10, 0) : zF)), some (zi a1), some (zi a2)]) (st' := [zr ((0, 10, 0) : zF), zr ((pp, 3, 0) : zF), zr ((44, 7, 0) : zF)]) (h' := h2) rfl ?_
      refine zc_cp (d := d + 2) e (fun q e => s_X10_aliveNow_ok (d + 1) ρ hρ pp hpp h2 q hR2 e) rfl rfl (fun v8 e => ?_)
      refine zwp.go (m := 1) (j := 36) (ls' := [some (zr ((0, 10, 0) : zF)), some (zi a1), some (zi a2)]) (st' := [zi a1, zi v8, zr ((pp, 3, 0) : zF), zr ((44, 7, 0) : zF)]) (h' := h2) rfl ?_
      refine zc_cp (d := d + 2) e (fun q e => s_X7_alike_ok (d + 0) ρ hρ pp v8 a1 hpp.2 h2 q hR2 e) rfl rfl (fun v9 e => ?_)
      cases e
      exact zwp.ret rfl rfl ⟨⟨rfl, rfl⟩, hR2⟩
    cases e
    exact zwp.th rfl rfl ⟨⟨rfl, rfl⟩, hR2⟩
  · cases e
    exact ⟨rfl, ⟨⟨rfl, rfl⟩, hR1⟩⟩
def s_L_verse (pp : Nat) (a1 : Int32) (a2 : Int32) (a3 n3 : Nat) (h : zH) : Option (Int32 × zH) := zbx (s_X10_verse pp a1 a2 h) (fun v3 h2 => zix (0 : Int32) n3 fun i5 => zlt (zwL h2 a3 i5 v3.toInt64) fun h4 => some ((0 : Int32), h4)) (fun x h1 => if x = 1 then (some ((1 : Int32), h1)) else none)
theorem s_L_verse_ok (d : Nat) (ρ : Nat → Nat → Option zF) (hρ : zSh ρ) (pp : Nat) (a1 : Int32) (a2 : Int32) (a3 n3 : Nat) (hpp : ρ 0 3 = some (pp, 3, 0) ∧ zPlS ρ pp) (h : zH) (res : Int32 × zH) (hR : zRq h ρ) (e : s_L_verse pp a1 a2 a3 n3 h = some res) : zcl (d + 4) 116 [zr ((0, 10, 0) : zF), zi a1, zi a2, zr ((a3, 23, n3) : zF)] h (zQi ρ res) := by
  rw [s_L_verse] at e
  refine ⟨zm_L_verse, rfl, ?_⟩
  show zwp (d + 4) zm_L_verse 0 [some (zr ((0, 10, 0) : zF)), some (zi a1), some (zi a2), some (zr ((a3, 23, n3) : zF)), none] [] h _
  refine zwp.go (m := 5) (j := 5) (ls' := [some (zr ((0, 10, 0) : zF)), some (zi a1), some (zi a2), some (zr ((a3, 23, n3) : zF)), none]) (st' := [zi a2, zi a1, zr ((0, 10, 0) : zF), zi (0 : Int32), zr ((a3, 23, n3) : zF)]) (h' := h) rfl ?_
  refine zc_cx (d := d + 3) e (fun q e => s_X10_verse_ok (d + 0) ρ hρ pp a1 a2 hpp h q hR e) rfl rfl (fun v3 h2 hR2 e => ?_) (fun x h1 hR1 e => ?_)
  · refine zwp.go (m := 1) (j := 7) (ls' := [some (zr ((0, 10, 0) : zF)), some (zi a1), some (zi a2), some (zr ((a3, 23, n3) : zF)), none]) (st' := [zl v3.toInt64, zi (0 : Int32), zr ((a3, 23, n3) : zF)]) (h' := h2) rfl ?_
    refine zc_sl e (fun _ => rfl) hR2 (fun h4 hR4 e => ?_)
    refine zwp.go (m := 2) (j := 13) (ls' := [some (zr ((0, 10, 0) : zF)), some (zi a1), some (zi a2), some (zr ((a3, 23, n3) : zF)), none]) (st' := [zi (0 : Int32)]) (h' := h4) rfl ?_
    cases e
    exact zwp.ret rfl rfl ⟨⟨rfl, rfl⟩, hR4⟩
  · by_cases q1 : x = 1
    · subst q1
      replace e : (some ((1 : Int32), h1)) = some res := by simpa using e
      show zwp _ _ 10 [some (zr ((0, 10, 0) : zF)), some (zi a1), some (zi a2), some (zr ((a3, 23, n3) : zF)), none] [] _ _
      refine zwp.go (m := 1) (j := 11) (ls' := [some (zr ((0, 10, 0) : zF)), some (zi a1), some (zi a2), some (zr ((a3, 23, n3) : zF)), none]) (st' := [zi (1 : Int32)]) (h' := h1) rfl ?_
      cases e
      exact zwp.ret rfl rfl ⟨⟨rfl, rfl⟩, hR1⟩
    · skip
      simp [q1] at e
def s_X11_isVerse (a1 : Int32) (h : zH) : Option (Int32) := (s_X11_isIn a1.toInt64 (0 : Int64) ((zI h 56 1) - (1 : Int32)).toInt64 h).bind fun v1 => zrp 1 v1
theorem s_X11_isVerse_ok (d : Nat) (ρ : Nat → Nat → Option zF) (hρ : zSh ρ) (a1 : Int32) (h : zH) (res : Int32) (hR : zRq h ρ) (e : s_X11_isVerse a1 h = some res) : zcl (d + 1) 117 [zr ((52, 11, 0) : zF), zi a1] h (zQp h res) := by
  rw [s_X11_isVerse] at e
  refine ⟨zm_X11_isVerse, rfl, ?_⟩
  show zwp (d + 1) zm_X11_isVerse 0 [some (zr ((52, 11, 0) : zF)), some (zi a1)] [] h _
  refine zwp.go (m := 4) (j := 4) (ls' := [some (zr ((52, 11, 0) : zF)), some (zi a1)]) (st' := [zr ((52, 11, 0) : zF), zl (0 : Int64), zl a1.toInt64]) (h' := h) rfl ?_
  refine zc_sr (r := ((56, 20, 12) : zF)) (zrf (a := 52) (y := 5) hR rfl (hρ 52 5 rfl)) rfl ?_
  refine zwp.go (m := 5) (j := 10) (ls' := [some (zr ((52, 11, 0) : zF)), some (zi a1)]) (st' := [zl ((zI h 56 1) - (1 : Int32)).toInt64, zl (0 : Int64), zl a1.toInt64]) (h' := h) rfl ?_
  refine zc_cp (d := d + 0) e (fun q e => s_X11_isIn_ok (d + 0) ρ hρ a1.toInt64 (0 : Int64) ((zI h 56 1) - (1 : Int32)).toInt64 h q hR e) rfl rfl (fun v1 e => ?_)
  exact zc_rp e rfl
def s_X11_throwNow (a1 : Int32) (h : zH) : Option (Int32) := zix a1 16 fun i1 => (s_X11_all h).bind fun v2 => (s_X11_goneNow h).bind fun v3 => some (((zI h 59 i1) &&& v2) &&& (v3 ^^^ (-1 : Int32)))
theorem s_X11_throwNow_ok (d : Nat) (ρ : Nat → Nat → Option zF) (hρ : zSh ρ) (a1 : Int32) (h : zH) (res : Int32) (hR : zRq h ρ) (e : s_X11_throwNow a1 h = some res) : zcl (d + 1) 118 [zr ((52, 11, 0) : zF), zi a1] h (zQp h res) := by
  rw [s_X11_throwNow] at e
  refine ⟨zm_X11_throwNow, rfl, ?_⟩
  show zwp (d + 1) zm_X11_throwNow 0 [some (zr ((52, 11, 0) : zF)), some (zi a1)] [] h _
  refine zwp.go (m := 1) (j := 1) (ls' := [some (zr ((52, 11, 0) : zF)), some (zi a1)]) (st' := [zr ((52, 11, 0) : zF)]) (h' := h) rfl ?_
  refine zc_sr (r := ((59, 20, 16) : zF)) (zrf (a := 52) (y := 8) hR rfl (hρ 52 8 rfl)) rfl ?_
  refine zwp.go (m := 1) (j := 3) (ls' := [some (zr ((52, 11, 0) : zF)), some (zi a1)]) (st' := [zi a1, zr ((59, 20, 16) : zF)]) (h' := h) rfl ?_
  refine zc_ai e (fun _ => rfl) (fun i1 e => ?_)
  refine zwp.go (m := 1) (j := 5) (ls' := [some (zr ((52, 11, 0) : zF)), some (zi a1)]) (st' := [zr ((52, 11, 0) : zF), zi (zI h 59 i1)]) (h' := h) rfl ?_
  refine zc_cp (d := d + 0) e (fun q e => s_X11_all_ok (d + 0) ρ hρ h q hR e) rfl rfl (fun v2 e => ?_)
  refine zwp.go (m := 2) (j := 8) (ls' := [some (zr ((52, 11, 0) : zF)), some (zi a1)]) (st' := [zr ((52, 11, 0) : zF), zi ((zI h 59 i1) &&& v2)]) (h' := h) rfl ?_
  refine zc_cp (d := d + 0) e (fun q e => s_X11_goneNow_ok (d + 0) ρ hρ h q hR e) rfl rfl (fun v3 e => ?_)
  refine zwp.go (m := 3) (j := 12) (ls' := [some (zr ((52, 11, 0) : zF)), some (zi a1)]) (st' := [zi (((zI h 59 i1) &&& v2) &&& (v3 ^^^ (-1 : Int32)))]) (h' := h) rfl ?_
  cases e
  exact zwp.ret rfl rfl ⟨rfl, rfl⟩
def s_X11_isGone (a1 : Int32) (h : zH) : Option (Int32) := zix a1 12 fun i1 => if ¬ (zI h 64 i1) = 0 then (some (0 : Int32)) else (some (1 : Int32))
theorem s_X11_isGone_ok (d : Nat) (ρ : Nat → Nat → Option zF) (hρ : zSh ρ) (a1 : Int32) (h : zH) (res : Int32) (hR : zRq h ρ) (e : s_X11_isGone a1 h = some res) : zcl d 119 [zr ((52, 11, 0) : zF), zi a1] h (zQp h res) := by
  rw [s_X11_isGone] at e
  refine ⟨zm_X11_isGone, rfl, ?_⟩
  show zwp d zm_X11_isGone 0 [some (zr ((52, 11, 0) : zF)), some (zi a1)] [] h _
  refine zwp.go (m := 1) (j := 1) (ls' := [some (zr ((52, 11, 0) : zF)), some (zi a1)]) (st' := [zr ((52, 11, 0) : zF)]) (h' := h) rfl ?_
  refine zc_sr (r := ((64, 20, 12) : zF)) (zrf (a := 52) (y := 24) hR rfl (hρ 52 24 rfl)) rfl ?_
  refine zwp.go (m := 1) (j := 3) (ls' := [some (zr ((52, 11, 0) : zF)), some (zi a1)]) (st' := [zi a1, zr ((64, 20, 12) : zF)]) (h' := h) rfl ?_
  refine zc_ai e (fun _ => rfl) (fun i1 e => ?_)
  refine zb_if (j := 7) (j2 := 5) e rfl (fun e => ?_) (fun e => ?_)
  · refine zwp.go (m := 1) (j := 8) (ls' := [some (zr ((52, 11, 0) : zF)), some (zi a1)]) (st' := [zi (0 : Int32)]) (h' := h) rfl ?_
    cases e
    exact zwp.ret rfl rfl ⟨rfl, rfl⟩
  · refine zwp.go (m := 2) (j := 8) (ls' := [some (zr ((52, 11, 0) : zF)), some (zi a1)]) (st' := [zi (1 : Int32)]) (h' := h) rfl ?_
    cases e
    exact zwp.ret rfl rfl ⟨rfl, rfl⟩
def s_X11_floatOf_J36 (k8 : (Int32 → Int32 → Int32 → Int32 → Int32 → zH → Option (Int32))) (l1 : Int32) (l2 : Int32) (l5 : Int32) (l6 : Int32) (s0 : Int32) (h : zH) : Option (Int32) := (s_J9_max_7cf53 l2 s0 h).bind fun v1 => k8 l1 v1 s0 l6 (l5 + (1 : Int32)) h
theorem s_X11_floatOf_J36_ok (d : Nat) (ρ : Nat → Nat → Option zF) (hρ : zSh ρ) (k8 : (Int32 → Int32 → Int32 → Int32 → Int32 → zH → Option (Int32))) (hk8 : ∀ l1 l2 l3 l4 l5 h res, zRq h ρ → k8 l1 l2 l3 l4 l5 h = some res → zwp (d + 1) zm_X11_floatOf 8 [some (zr ((52, 11, 0) : zF)), some (zi l1), some (zi l2), some (zi l3), some (zi l4), some (zi l5), none] [] h (zQp h res)) (l1 : Int32) (l2 : Int32) (l5 : Int32) (l6 : Int32) (s0 : Int32) (h : zH) (res : Int32) (hR : zRq h ρ) (e : s_X11_floatOf_J36 k8 l1 l2 l5 l6 s0 h = some res) : zwp (d + 1) zm_X11_floatOf 36 [some (zr ((52, 11, 0) : zF)), some (zi l1), some (zi l2), none, none, some (zi l5), some (zi l6)] [zi s0] h (zQp h res) := by
  rw [s_X11_floatOf_J36] at e
  refine zwp.go (m := 5) (j := 41) (ls' := [some (zr ((52, 11, 0) : zF)), some (zi l1), some (zi l2), some (zi s0), some (zi l6), some (zi l5), some (zi l6)]) (st' := [zi s0, zi l2]) (h' := h) rfl ?_
  refine zc_cp (d := d + 0) e (fun q e => s_J9_max_7cf53_ok (d + 0) ρ hρ l2 s0 h q hR e) rfl rfl (fun v1 e => ?_)
  refine zwp.go (m := 3) (j := 8) (ls' := [some (zr ((52, 11, 0) : zF)), some (zi l1), some (zi v1), some (zi s0), some (zi l6), some (zi (l5 + (1 : Int32))), some (zi l6)]) (st' := []) (h' := h) rfl ?_
  refine zwp.fg (a := [some (zr ((52, 11, 0) : zF)), some (zi l1), some (zi v1), some (zi s0), some (zi l6), some (zi (l5 + (1 : Int32))), none]) (And.intro rfl (And.intro rfl (And.intro rfl (And.intro rfl (And.intro rfl (And.intro rfl trivial)))))) ?_
  exact hk8 l1 v1 s0 l6 (l5 + (1 : Int32)) h _ hR e
def s_X11_floatOf_L8 : Nat → Int32 → Int32 → Int32 → Int32 → Int32 → zH → Option (Int32)
  | 0, _, _, _, _, _, _ => none
  | n + 1, l1, l2, l3, l4, l5, h => if (zI h 56 0) ≤ l5 then (some l2) else ((s_X11_isGone l5 h).bind fun v1 => if v1 = 0 then (zix l1 16 fun i2 => if ¬ (((zI h 59 i2) >>> (l5 &&& 31)) &&& (1 : Int32)) = l4 then (s_X11_floatOf_J36 (s_X11_floatOf_L8 n) l1 l2 l5 (((zI h 59 i2) >>> (l5 &&& 31)) &&& (1 : Int32)) (1 : Int32) h) else (s_X11_floatOf_J36 (s_X11_floatOf_L8 n) l1 l2 l5 (((zI h 59 i2) >>> (l5 &&& 31)) &&& (1 : Int32)) (l3 + (1 : Int32)) h)) else (s_X11_floatOf_L8 n l1 l2 l3 l4 (l5 + (1 : Int32)) h))
theorem s_X11_floatOf_L8_ok (d : Nat) (ρ : Nat → Nat → Option zF) (hρ : zSh ρ) : ∀ (n : Nat) (l1 : Int32) (l2 : Int32) (l3 : Int32) (l4 : Int32) (l5 : Int32) (h : zH) (res : Int32) (hR : zRq h ρ) (e : s_X11_floatOf_L8  n l1 l2 l3 l4 l5 h = some res), zwp (d + 1) zm_X11_floatOf 8 [some (zr ((52, 11, 0) : zF)), some (zi l1), some (zi l2), some (zi l3), some (zi l4), some (zi l5), none] [] h (zQp h res) := by
  intro n
  induction n with
  | zero => intro l1 l2 l3 l4 l5 h res hR e; cases e
  | succ n ih =>
    intro l1 l2 l3 l4 l5 h res hR e
    rw [s_X11_floatOf_L8] at e
    refine zwp.go (m := 2) (j := 10) (ls' := [some (zr ((52, 11, 0) : zF)), some (zi l1), some (zi l2), some (zi l3), some (zi l4), some (zi l5), none]) (st' := [zr ((52, 11, 0) : zF), zi l5]) (h' := h) rfl ?_
    refine zc_sr (r := ((56, 20, 12) : zF)) (zrf (a := 52) (y := 5) hR rfl (hρ 52 5 rfl)) rfl ?_
    refine zwp.go (m := 2) (j := 13) (ls' := [some (zr ((52, 11, 0) : zF)), some (zi l1), some (zi l2), some (zi l3), some (zi l4), some (zi l5), none]) (st' := [zi (zI h 56 0), zi l5]) (h' := h) rfl ?_
    refine zb_if (j := 45) (j2 := 14) e rfl (fun e => ?_) (fun e => ?_)
    · refine zwp.go (m := 1) (j := 46) (ls' := [some (zr ((52, 11, 0) : zF)), some (zi l1), some (zi l2), some (zi l3), some (zi l4), some (zi l5), none]) (st' := [zi l2]) (h' := h) rfl ?_
      cases e
      exact zwp.ret rfl rfl ⟨rfl, rfl⟩
    · refine zwp.go (m := 2) (j := 16) (ls' := [some (zr ((52, 11, 0) : zF)), some (zi l1), some (zi l2), some (zi l3), some (zi l4), some (zi l5), none]) (st' := [zi l5, zr ((52, 11, 0) : zF)]) (h' := h) rfl ?_
      refine zc_cp (d := d + 0) e (fun q e => s_X11_isGone_ok (d + 0) ρ hρ l5 h q hR e) rfl rfl (fun v1 e => ?_)
      refine zb_if (j := 19) (j2 := 18) e rfl (fun e => ?_) (fun e => ?_)
      · refine zwp.go (m := 1) (j := 20) (ls' := [some (zr ((52, 11, 0) : zF)), some (zi l1), some (zi l2), some (zi l3), some (zi l4), some (zi l5), none]) (st' := [zr ((52, 11, 0) : zF)]) (h' := h) rfl ?_
        refine zc_sr (r := ((59, 20, 16) : zF)) (zrf (a := 52) (y := 8) hR rfl (hρ 52 8 rfl)) rfl ?_
        refine zwp.go (m := 1) (j := 22) (ls' := [some (zr ((52, 11, 0) : zF)), some (zi l1), some (zi l2), some (zi l3), some (zi l4), some (zi l5), none]) (st' := [zi l1, zr ((59, 20, 16) : zF)]) (h' := h) rfl ?_
        refine zc_ai e (fun _ => rfl) (fun i2 e => ?_)
        refine zwp.go (m := 7) (j := 30) (ls' := [some (zr ((52, 11, 0) : zF)), some (zi l1), some (zi l2), some (zi l3), some (zi l4), some (zi l5), some (zi (((zI h 59 i2) >>> (l5 &&& 31)) &&& (1 : Int32)))]) (st' := [zi l4, zi (((zI h 59 i2) >>> (l5 &&& 31)) &&& (1 : Int32))]) (h' := h) rfl ?_
        refine zb_if (j := 35) (j2 := 31) e rfl (fun e => ?_) (fun e => ?_)
        · refine zwp.go (m := 1) (j := 36) (ls' := [some (zr ((52, 11, 0) : zF)), some (zi l1), some (zi l2), some (zi l3), some (zi l4), some (zi l5), some (zi (((zI h 59 i2) >>> (l5 &&& 31)) &&& (1 : Int32)))]) (st' := [zi (1 : Int32)]) (h' := h) rfl ?_
          refine zwp.fg (a := [some (zr ((52, 11, 0) : zF)), some (zi l1), some (zi l2), none, none, some (zi l5), some (zi (((zI h 59 i2) >>> (l5 &&& 31)) &&& (1 : Int32)))]) (And.intro rfl (And.intro rfl (And.intro rfl (And.intro rfl (And.intro rfl trivial))))) ?_
          exact s_X11_floatOf_J36_ok d ρ hρ (s_X11_floatOf_L8 n) ih l1 l2 l5 (((zI h 59 i2) >>> (l5 &&& 31)) &&& (1 : Int32)) (1 : Int32) h _ hR e
        · refine zwp.go (m := 4) (j := 36) (ls' := [some (zr ((52, 11, 0) : zF)), some (zi l1), some (zi l2), some (zi l3), some (zi l4), some (zi l5), some (zi (((zI h 59 i2) >>> (l5 &&& 31)) &&& (1 : Int32)))]) (st' := [zi (l3 + (1 : Int32))]) (h' := h) rfl ?_
          refine zwp.fg (a := [some (zr ((52, 11, 0) : zF)), some (zi l1), some (zi l2), none, none, some (zi l5), some (zi (((zI h 59 i2) >>> (l5 &&& 31)) &&& (1 : Int32)))]) (And.intro rfl (And.intro rfl (And.intro rfl (And.intro rfl (And.intro rfl trivial))))) ?_
          exact s_X11_floatOf_J36_ok d ρ hρ (s_X11_floatOf_L8 n) ih l1 l2 l5 (((zI h 59 i2) >>> (l5 &&& 31)) &&& (1 : Int32)) (l3 + (1 : Int32)) h _ hR e
      · refine zwp.go (m := 3) (j := 8) (ls' := [some (zr ((52, 11, 0) : zF)), some (zi l1), some (zi l2), some (zi l3), some (zi l4), some (zi (l5 + (1 : Int32))), none]) (st' := []) (h' := h) rfl ?_
        exact ih l1 l2 l3 l4 (l5 + (1 : Int32)) h _ hR e
def s_X11_floatOf (a1 : Int32) (h : zH) : Option (Int32) := s_X11_floatOf_L8 zfu a1 (0 : Int32) (0 : Int32) (-1 : Int32) (0 : Int32) h
theorem s_X11_floatOf_ok (d : Nat) (ρ : Nat → Nat → Option zF) (hρ : zSh ρ) (a1 : Int32) (h : zH) (res : Int32) (hR : zRq h ρ) (e : s_X11_floatOf a1 h = some res) : zcl (d + 1) 120 [zr ((52, 11, 0) : zF), zi a1] h (zQp h res) := by
  rw [s_X11_floatOf] at e
  refine ⟨zm_X11_floatOf, rfl, ?_⟩
  show zwp (d + 1) zm_X11_floatOf 0 [some (zr ((52, 11, 0) : zF)), some (zi a1), none, none, none, none, none] [] h _
  refine zwp.go (m := 8) (j := 8) (ls' := [some (zr ((52, 11, 0) : zF)), some (zi a1), some (zi (0 : Int32)), some (zi (0 : Int32)), some (zi (-1 : Int32)), some (zi (0 : Int32)), none]) (st' := []) (h' := h) rfl ?_
  exact s_X11_floatOf_L8_ok d ρ hρ zfu a1 (0 : Int32) (0 : Int32) (-1 : Int32) (0 : Int32) h _ hR e
def s_X11_verse_J13 (h : zH) : Option (Int32 × zH) := zbd (s_X11_fail (1 : Int32) h) fun v2 h1 => some (v2, h1)
theorem s_X11_verse_J13_ok (d : Nat) (ρ : Nat → Nat → Option zF) (hρ : zSh ρ) (h : zH) (res : Int32 × zH) (hR : zRq h ρ) (e : s_X11_verse_J13   h = some res) : zwp (d + 2) zm_X11_verse 13 [some (zr ((52, 11, 0) : zF)), none, none] [] h (zQi ρ res) := by
  rw [s_X11_verse_J13] at e
  refine zwp.go (m := 2) (j := 15) (ls' := [some (zr ((52, 11, 0) : zF)), none, none]) (st' := [zi (1 : Int32), zr ((52, 11, 0) : zF)]) (h' := h) rfl ?_
  refine zc_ci (d := d + 1) e (fun q e => s_X11_fail_ok (d + 1) ρ hρ (1 : Int32) h q hR e) rfl rfl (fun v2 h1 hR1 e => ?_)
  cases e
  exact zwp.ret rfl rfl ⟨⟨rfl, rfl⟩, hR1⟩
def s_X11_verse (a1 : Int32) (a2 : Int32) (h : zH) : Option (Int32 × zH) := zlt (zwI h 52 4 (0 : Int32)) fun h1 => (s_X11_isVerse a1 h1).bind fun v2 => if v2 = 0 then (s_X11_verse_J13 h1) else ((s_X11_isIn a2.toInt64 (0 : Int64) (3 : Int64) h1).bind fun v3 => if ¬ v3 = 0 then (if ¬ a2 = 0 then (if ¬ a2 = (1 : Int32) then (if ¬ a2 = (2 : Int32) then ((s_X11_thereNow h1).bind fun v4 => (s_X11_alikeBy a1 v4 h1).bind fun v5 => some (v5, h1)) else ((s_X11_floatOf a1 h1).bind fun v6 => some (v6, h1))) else ((s_X11_throwNow a1 h1).bind fun v7 => some (v7, h1))) else (zix a1 16 fun i8 => some ((zI h1 59 i8), h1))) else (s_X11_verse_J13 h1))
theorem s_X11_verse_ok (d : Nat) (ρ : Nat → Nat → Option zF) (hρ : zSh ρ) (a1 : Int32) (a2 : Int32) (h : zH) (res : Int32 × zH) (hR : zRq h ρ) (e : s_X11_verse a1 a2 h = some res) : zcl (d + 2) 121 [zr ((52, 11, 0) : zF), zi a1, zi a2] h (zQi ρ res) := by
  rw [s_X11_verse] at e
  refine ⟨zm_X11_verse, rfl, ?_⟩
  show zwp (d + 2) zm_X11_verse 0 [some (zr ((52, 11, 0) : zF)), some (zi a1), some (zi a2)] [] h _
  refine zwp.go (m := 2) (j := 2) (ls' := [some (zr ((52, 11, 0) : zF)), some (zi a1), some (zi a2)]) (st' := [zi (0 : Int32), zr ((52, 11, 0) : zF)]) (h' := h) rfl ?_
  refine zc_w e rfl hR (fun h1 hR1 e => ?_)
  refine zwp.go (m := 2) (j := 5) (ls' := [some (zr ((52, 11, 0) : zF)), some (zi a1), some (zi a2)]) (st' := [zi a1, zr ((52, 11, 0) : zF)]) (h' := h1) rfl ?_
  refine zc_cp (d := d + 1) e (fun q e => s_X11_isVerse_ok (d + 0) ρ hρ a1 h1 q hR1 e) rfl rfl (fun v2 e => ?_)
  refine zb_if (j := 13) (j2 := 7) e rfl (fun e => ?_) (fun e => ?_)
  · refine zwp.fg (a := [some (zr ((52, 11, 0) : zF)), none, none]) (And.intro rfl trivial) ?_
    exact s_X11_verse_J13_ok d ρ hρ h1 _ hR1 e
  · refine zwp.go (m := 4) (j := 11) (ls' := [some (zr ((52, 11, 0) : zF)), some (zi a1), some (zi a2)]) (st' := [zl (3 : Int64), zl (0 : Int64), zl a2.toInt64]) (h' := h1) rfl ?_
    refine zc_cp (d := d + 1) e (fun q e => s_X11_isIn_ok (d + 1) ρ hρ a2.toInt64 (0 : Int64) (3 : Int64) h1 q hR1 e) rfl rfl (fun v3 e => ?_)
    refine zb_if (j := 17) (j2 := 13) e rfl (fun e => ?_) (fun e => ?_)
    · refine zwp.go (m := 1) (j := 18) (ls' := [some (zr ((52, 11, 0) : zF)), some (zi a1), some (zi a2)]) (st' := [zi a2]) (h' := h1) rfl ?_
      refine zb_if (j := 24) (j2 := 19) e rfl (fun e => ?_) (fun e => ?_)
      · refine zwp.go (m := 2) (j := 26) (ls' := [some (zr ((52, 11, 0) : zF)), some (zi a1), some (zi a2)]) (st' := [zi (1 : Int32), zi a2]) (h' := h1) rfl ?_
        refine zb_if (j := 31) (j2 := 27) e rfl (fun e => ?_) (fun e => ?_)
        · refine zwp.go (m := 2) (j := 33) (ls' := [some (zr ((52, 11, 0) : zF)), some (zi a1), some (zi a2)]) (st' := [zi (2 : Int32), zi a2]) (h' := h1) rfl ?_
          refine zb_if (j := 38) (j2 := 34) e rfl (fun e => ?_) (fun e => ?_)
          · refine zwp.go (m := 3) (j := 41) (ls' := [some (zr ((52, 11, 0) : zF)), some (zi a1), some (zi a2)]) (st' := [zr ((52, 11, 0) : zF), zi a1, zr ((52, 11, 0) : zF)]) (h' := h1) rfl ?_
            refine zc_cp (d := d + 1) e (fun q e => s_X11_thereNow_ok (d + 0) ρ hρ h1 q hR1 e) rfl rfl (fun v4 e => ?_)
            refine zc_cp (d := d + 1) e (fun q e => s_X11_alikeBy_ok (d + 1) ρ hρ a1 v4 h1 q hR1 e) rfl rfl (fun v5 e => ?_)
            cases e
            exact zwp.ret rfl rfl ⟨⟨rfl, rfl⟩, hR1⟩
          · refine zwp.go (m := 2) (j := 36) (ls' := [some (zr ((52, 11, 0) : zF)), some (zi a1), some (zi a2)]) (st' := [zi a1, zr ((52, 11, 0) : zF)]) (h' := h1) rfl ?_
            refine zc_cp (d := d + 1) e (fun q e => s_X11_floatOf_ok (d + 0) ρ hρ a1 h1 q hR1 e) rfl rfl (fun v6 e => ?_)
            refine zwp.go (m := 1) (j := 43) (ls' := [some (zr ((52, 11, 0) : zF)), some (zi a1), some (zi a2)]) (st' := [zi v6]) (h' := h1) rfl ?_
            cases e
            exact zwp.ret rfl rfl ⟨⟨rfl, rfl⟩, hR1⟩
        · refine zwp.go (m := 2) (j := 29) (ls' := [some (zr ((52, 11, 0) : zF)), some (zi a1), some (zi a2)]) (st' := [zi a1, zr ((52, 11, 0) : zF)]) (h' := h1) rfl ?_
          refine zc_cp (d := d + 1) e (fun q e => s_X11_throwNow_ok (d + 0) ρ hρ a1 h1 q hR1 e) rfl rfl (fun v7 e => ?_)
          refine zwp.go (m := 1) (j := 43) (ls' := [some (zr ((52, 11, 0) : zF)), some (zi a1), some (zi a2)]) (st' := [zi v7]) (h' := h1) rfl ?_
          cases e
          exact zwp.ret rfl rfl ⟨⟨rfl, rfl⟩, hR1⟩
      · refine zwp.go (m := 1) (j := 20) (ls' := [some (zr ((52, 11, 0) : zF)), some (zi a1), some (zi a2)]) (st' := [zr ((52, 11, 0) : zF)]) (h' := h1) rfl ?_
        refine zc_sr (r := ((59, 20, 16) : zF)) (zrf (a := 52) (y := 8) hR1 rfl (hρ 52 8 rfl)) rfl ?_
        refine zwp.go (m := 1) (j := 22) (ls' := [some (zr ((52, 11, 0) : zF)), some (zi a1), some (zi a2)]) (st' := [zi a1, zr ((59, 20, 16) : zF)]) (h' := h1) rfl ?_
        refine zc_ai e (fun _ => rfl) (fun i8 e => ?_)
        refine zwp.go (m := 1) (j := 43) (ls' := [some (zr ((52, 11, 0) : zF)), some (zi a1), some (zi a2)]) (st' := [zi (zI h1 59 i8)]) (h' := h1) rfl ?_
        cases e
        exact zwp.ret rfl rfl ⟨⟨rfl, rfl⟩, hR1⟩
    · refine zwp.fg (a := [some (zr ((52, 11, 0) : zF)), none, none]) (And.intro rfl trivial) ?_
      exact s_X11_verse_J13_ok d ρ hρ h1 _ hR1 e
