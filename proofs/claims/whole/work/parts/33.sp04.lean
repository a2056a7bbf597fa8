/-! ===== methods as functions, 4 ===== -/
def s_X10_needWhat (pp : Nat) (a1 : Int32) (a2 : Int32) (h : zH) : Option ((Unit ⊕ Nat) × zH) := if a1 < 0 then (some (Sum.inr 1, zth h)) else (if a1 < a2 then (some (Sum.inl (), h)) else (some (Sum.inr 1, zth h)))
set_option maxRecDepth 100000 in
theorem s_X10_needWhat_ok (d : Nat) (ρ : Nat → Nat → Option zF) (hρ : zSh ρ) (pp : Nat) (a1 : Int32) (a2 : Int32) (hpp : ρ 0 3 = some (pp, 3, 0) ∧ zPlS ρ pp) (h : zH) (res : (Unit ⊕ Nat) × zH) (hR : zRq h ρ) (e : s_X10_needWhat pp a1 a2 h = some res) : zcl d 122 [zr ((0, 10, 0) : zF), zi a1, zi a2] h (zQu ρ res) := by
  rw [s_X10_needWhat] at e
  refine ⟨zm_X10_needWhat, rfl, ?_⟩
  show zwp d zm_X10_needWhat 0 [some (zr ((0, 10, 0) : zF)), some (zi a1), some (zi a2)] [] h _
  refine zwp.go (m := 1) (j := 1) (ls' := [some (zr ((0, 10, 0) : zF)), some (zi a1), some (zi a2)]) (st' := [zi a1]) (h' := h) rfl ?_
  refine zb_if (j := 5) (j2 := 2) e rfl (fun e => ?_) (fun e => ?_)
  · cases e
    exact zwp.th rfl rfl ⟨⟨rfl, rfl⟩, hR⟩
  · refine zwp.go (m := 2) (j := 4) (ls' := [some (zr ((0, 10, 0) : zF)), some (zi a1), some (zi a2)]) (st' := [zi a2, zi a1]) (h' := h) rfl ?_
    refine zb_if (j := 10) (j2 := 5) e rfl (fun e => ?_) (fun e => ?_)
    · cases e
      exact zwp.rv rfl ⟨⟨rfl, rfl⟩, hR⟩
    · cases e
      exact zwp.th rfl rfl ⟨⟨rfl, rfl⟩, hR⟩
def s_X10_sail (pp : Nat) (a1 : Int32) (a2 : Int32) (h : zH) : Option ((Int32 ⊕ Nat) × zH) := if a1 < 0 then (some (Sum.inr 1, zth h)) else (if a1 < (zI h 19 8) then (zbx (s_X10_needWhat pp a2 (2 : Int32) h) (fun _ h2 => if ¬ a2 = 0 then (zix a1 9 fun i3 => some (Sum.inl (zI h2 24 i3), h2)) else (zix a1 9 fun i4 => some (Sum.inl (zI h2 23 i4), h2))) (fun x h1 => some (Sum.inr x, h1))) else (some (Sum.inr 1, zth h)))
set_option maxRecDepth 100000 in
theorem s_X10_sail_ok (d : Nat) (ρ : Nat → Nat → Option zF) (hρ : zSh ρ) (pp : Nat) (a1 : Int32) (a2 : Int32) (hpp : ρ 0 3 = some (pp, 3, 0) ∧ zPlS ρ pp) (h : zH) (res : (Int32 ⊕ Nat) × zH) (hR : zRq h ρ) (e : s_X10_sail pp a1 a2 h = some res) : zcl (d + 1) 123 [zr ((0, 10, 0) : zF), zi a1, zi a2] h (zQx ρ res) := by
  rw [s_X10_sail] at e
  refine ⟨zm_X10_sail, rfl, ?_⟩
  show zwp (d + 1) zm_X10_sail 0 [some (zr ((0, 10, 0) : zF)), some (zi a1), some (zi a2)] [] h _
  refine zwp.go (m := 1) (j := 1) (ls' := [some (zr ((0, 10, 0) : zF)), some (zi a1), some (zi a2)]) (st' := [zi a1]) (h' := h) rfl ?_
  refine zb_if (j := 8) (j2 := 2) e rfl (fun e => ?_) (fun e => ?_)
  · cases e
    exact zwp.th rfl rfl ⟨⟨rfl, rfl⟩, hR⟩
  · refine zwp.go (m := 2) (j := 4) (ls' := [some (zr ((0, 10, 0) : zF)), some (zi a1), some (zi a2)]) (st' := [zr ((0, 10, 0) : zF), zi a1]) (h' := h) rfl ?_
    refine zc_sr (r := ((18, 2, 0) : zF)) (zrf (a := 0) (y := 6) hR rfl (hρ 0 6 rfl)) rfl ?_
    refine zc_sr (r := ((19, 8, 0) : zF)) (zrf (a := 18) (y := 0) hR rfl (zSh_ld18 hρ).2.1) rfl ?_
    refine zwp.go (m := 1) (j := 7) (ls' := [some (zr ((0, 10, 0) : zF)), some (zi a1), some (zi a2)]) (st' := [zi (zI h 19 8), zi a1]) (h' := h) rfl ?_
    refine zb_if (j := 13) (j2 := 8) e rfl (fun e => ?_) (fun e => ?_)
    · refine zwp.go (m := 3) (j := 16) (ls' := [some (zr ((0, 10, 0) : zF)), some (zi a1), some (zi a2)]) (st' := [zi (2 : Int32), zi a2, zr ((0, 10, 0) : zF)]) (h' := h) rfl ?_
      refine zc_cu (d := d + 0) e (fun q e => s_X10_needWhat_ok (d + 0) ρ hρ pp a2 (2 : Int32) hpp h q hR e) rfl rfl (fun h2 hR2 e => ?_) (fun x h1 hR1 e => ?_)
      · refine zwp.go (m := 1) (j := 18) (ls' := [some (zr ((0, 10, 0) : zF)), some (zi a1), some (zi a2)]) (st' := [zi a2]) (h' := h2) rfl ?_
        refine zb_if (j := 26) (j2 := 19) e rfl (fun e => ?_) (fun e => ?_)
        · refine zwp.go (m := 1) (j := 27) (ls' := [some (zr ((0, 10, 0) : zF)), some (zi a1), some (zi a2)]) (st' := [zr ((0, 10, 0) : zF)]) (h' := h2) rfl ?_
          refine zc_sr (r := ((18, 2, 0) : zF)) (zrf (a := 0) (y := 6) hR2 rfl (hρ 0 6 rfl)) rfl ?_
          refine zc_sr (r := ((19, 8, 0) : zF)) (zrf (a := 18) (y := 0) hR2 rfl (zSh_ld18 hρ).2.1) rfl ?_
          refine zc_sr (r := ((24, 20, 9) : zF)) (zrf (a := 19) (y := 4) hR2 rfl (zSh_st19 hρ).2.2.2.2.2) rfl ?_
          refine zwp.go (m := 1) (j := 31) (ls' := [some (zr ((0, 10, 0) : zF)), some (zi a1), some (zi a2)]) (st' := [zi a1, zr ((24, 20, 9) : zF)]) (h' := h2) rfl ?_
          refine zc_ai e (fun _ => rfl) (fun i3 e => ?_)
          cases e
          exact zwp.ret rfl rfl ⟨⟨rfl, rfl⟩, hR2⟩
        · refine zwp.go (m := 1) (j := 20) (ls' := [some (zr ((0, 10, 0) : zF)), some (zi a1), some (zi a2)]) (st' := [zr ((0, 10, 0) : zF)]) (h' := h2) rfl ?_
          refine zc_sr (r := ((18, 2, 0) : zF)) (zrf (a := 0) (y := 6) hR2 rfl (hρ 0 6 rfl)) rfl ?_
          refine zc_sr (r := ((19, 8, 0) : zF)) (zrf (a := 18) (y := 0) hR2 rfl (zSh_ld18 hρ).2.1) rfl ?_
          refine zc_sr (r := ((23, 20, 9) : zF)) (zrf (a := 19) (y := 3) hR2 rfl (zSh_st19 hρ).2.2.2.2.1) rfl ?_
          refine zwp.go (m := 1) (j := 24) (ls' := [some (zr ((0, 10, 0) : zF)), some (zi a1), some (zi a2)]) (st' := [zi a1, zr ((23, 20, 9) : zF)]) (h' := h2) rfl ?_
          refine zc_ai e (fun _ => rfl) (fun i4 e => ?_)
          refine zwp.go (m := 1) (j := 32) (ls' := [some (zr ((0, 10, 0) : zF)), some (zi a1), some (zi a2)]) (st' := [zi (zI h2 23 i4)]) (h' := h2) rfl ?_
          cases e
          exact zwp.ret rfl rfl ⟨⟨rfl, rfl⟩, hR2⟩
      · cases e
        exact ⟨rfl, ⟨⟨rfl, rfl⟩, hR1⟩⟩
    · cases e
      exact zwp.th rfl rfl ⟨⟨rfl, rfl⟩, hR⟩
def s_L_sail (pp : Nat) (a1 : Int32) (a2 : Int32) (a3 n3 : Nat) (h : zH) : Option (Int32 × zH) := zbx (s_X10_sail pp a1 a2 h) (fun v3 h2 => zix (0 : Int32) n3 fun i5 => zlt (zwL h2 a3 i5 v3.toInt64) fun h4 => some ((0 : Int32), h4)) (fun x h1 => if x = 1 then (some ((1 : Int32), h1)) else none)
set_option maxRecDepth 100000 in
theorem s_L_sail_ok (d : Nat) (ρ : Nat → Nat → Option zF) (hρ : zSh ρ) (pp : Nat) (a1 : Int32) (a2 : Int32) (a3 n3 : Nat) (hpp : ρ 0 3 = some (pp, 3, 0) ∧ zPlS ρ pp) (h : zH) (res : Int32 × zH) (hR : zRq h ρ) (e : s_L_sail pp a1 a2 a3 n3 h = some res) : zcl (d + 2) 124 [zr ((0, 10, 0) : zF), zi a1, zi a2, zr ((a3, 23, n3) : zF)] h (zQi ρ res) := by
  rw [s_L_sail] at e
  refine ⟨zm_L_sail, rfl, ?_⟩
  show zwp (d + 2) zm_L_sail 0 [some (zr ((0, 10, 0) : zF)), some (zi a1), some (zi a2), some (zr ((a3, 23, n3) : zF)), none] [] h _
  refine zwp.go (m := 5) (j := 5) (ls' := [some (zr ((0, 10, 0) : zF)), some (zi a1), some (zi a2), some (zr ((a3, 23, n3) : zF)), none]) (st' := [zi a2, zi a1, zr ((0, 10, 0) : zF), zi (0 : Int32), zr ((a3, 23, n3) : zF)]) (h' := h) rfl ?_
  refine zc_cx (d := d + 1) e (fun q e => s_X10_sail_ok (d + 0) ρ hρ pp a1 a2 hpp h q hR e) rfl rfl (fun v3 h2 hR2 e => ?_) (fun x h1 hR1 e => ?_)
  · refine zwp.go (m := 1) (j := 7) (ls' := [some (zr ((0, 10, 0) : zF)), some (zi a1), some (zi a2), some (zr ((a3, 23, n3) : zF)), none]) (st' := [zl v3.toInt64, zi (0 : Int32), zr ((a3, 23, n3) : zF)]) (h' := h2) rfl ?_
    refine zc_sl e (fun _ => rfl) hR2 (fun h4 hR4 e => ?_)
    refine zwp.go (m := 2) (j := 13) (ls' := [some (zr ((0, 10, 0) : zF)), some (zi a1), some (zi a2), some (zr ((a3, 23, n3) : zF)), none]) (st' := [zi (0 : Int32)]) (h' := h4) rfl ?_
    cases e
    exact zwp.ret rfl rfl ⟨⟨rfl, rfl⟩, hR4⟩
  · by_cases q1 : x = 1
    · subst q1
      replace e : (some ((1 : Int32), h1)) = some res := by simpa using e
      show zwp _ _ 10 [some (zr ((0, 10, 0) : zF)), some (zi a1), some (zi a2), some (zr ((a3, 23, n3) : zF)), none] [] _ _
      refine zwp.go (m := 1) (j := 11) (ls' := [some (zr ((0, 10, 0) : zF)), some (zi a1), some (zi a2), some (zr ((a3, 23, n3) : zF)), none]) (st' := [zi (1 : Int32)]) (h' := h1) rfl ?_
      cases e
      exact zwp.ret rfl rfl ⟨⟨rfl, rfl⟩, hR1⟩
    · skip
      simp [q1] at e
def s_X11_sail_J19 (h : zH) : Option (Int32 × zH) := zbd (s_X11_fail (1 : Int32) h) fun v2 h1 => some (v2, h1)
set_option maxRecDepth 100000 in
theorem s_X11_sail_J19_ok (d : Nat) (ρ : Nat → Nat → Option zF) (hρ : zSh ρ) (h : zH) (res : Int32 × zH) (hR : zRq h ρ) (e : s_X11_sail_J19   h = some res) : zwp (d + 1) zm_X11_sail 19 [some (zr ((52, 11, 0) : zF)), none, none] [] h (zQi ρ res) := by
  rw [s_X11_sail_J19] at e
  refine zwp.go (m := 2) (j := 21) (ls' := [some (zr ((52, 11, 0) : zF)), none, none]) (st' := [zi (1 : Int32), zr ((52, 11, 0) : zF)]) (h' := h) rfl ?_
  refine zc_ci (d := d + 0) e (fun q e => s_X11_fail_ok (d + 0) ρ hρ (1 : Int32) h q hR e) rfl rfl (fun v2 h1 hR1 e => ?_)
  cases e
  exact zwp.ret rfl rfl ⟨⟨rfl, rfl⟩, hR1⟩
def s_X11_sail (a1 : Int32) (a2 : Int32) (h : zH) : Option (Int32 × zH) := zlt (zwI h 52 4 (0 : Int32)) fun h1 => (s_X11_isIn a1.toInt64 (0 : Int64) ((zI h1 52 34) - (1 : Int32)).toInt64 h1).bind fun v2 => if v2 = 0 then (s_X11_sail_J19 h1) else ((s_X11_isIn a2.toInt64 (0 : Int64) (1 : Int64) h1).bind fun v3 => if ¬ v3 = 0 then (if ¬ a2 = 0 then (zix a1 9 fun i4 => some ((zI h1 67 i4), h1)) else (zix a1 9 fun i5 => some ((zI h1 66 i5), h1))) else (s_X11_sail_J19 h1))
set_option maxRecDepth 100000 in
theorem s_X11_sail_ok (d : Nat) (ρ : Nat → Nat → Option zF) (hρ : zSh ρ) (a1 : Int32) (a2 : Int32) (h : zH) (res : Int32 × zH) (hR : zRq h ρ) (e : s_X11_sail a1 a2 h = some res) : zcl (d + 1) 125 [zr ((52, 11, 0) : zF), zi a1, zi a2] h (zQi ρ res) := by
  rw [s_X11_sail] at e
  refine ⟨zm_X11_sail, rfl, ?_⟩
  show zwp (d + 1) zm_X11_sail 0 [some (zr ((52, 11, 0) : zF)), some (zi a1), some (zi a2)] [] h _
  refine zwp.go (m := 2) (j := 2) (ls' := [some (zr ((52, 11, 0) : zF)), some (zi a1), some (zi a2)]) (st' := [zi (0 : Int32), zr ((52, 11, 0) : zF)]) (h' := h) rfl ?_
  refine zc_w e rfl hR (fun h1 hR1 e => ?_)
  refine zwp.go (m := 8) (j := 11) (ls' := [some (zr ((52, 11, 0) : zF)), some (zi a1), some (zi a2)]) (st' := [zl ((zI h1 52 34) - (1 : Int32)).toInt64, zl (0 : Int64), zl a1.toInt64]) (h' := h1) rfl ?_
  refine zc_cp (d := d + 0) e (fun q e => s_X11_isIn_ok (d + 0) ρ hρ a1.toInt64 (0 : Int64) ((zI h1 52 34) - (1 : Int32)).toInt64 h1 q hR1 e) rfl rfl (fun v2 e => ?_)
  refine zb_if (j := 19) (j2 := 13) e rfl (fun e => ?_) (fun e => ?_)
  · refine zwp.fg (a := [some (zr ((52, 11, 0) : zF)), none, none]) (And.intro rfl trivial) ?_
    exact s_X11_sail_J19_ok d ρ hρ h1 _ hR1 e
  · refine zwp.go (m := 4) (j := 17) (ls' := [some (zr ((52, 11, 0) : zF)), some (zi a1), some (zi a2)]) (st' := [zl (1 : Int64), zl (0 : Int64), zl a2.toInt64]) (h' := h1) rfl ?_
    refine zc_cp (d := d + 0) e (fun q e => s_X11_isIn_ok (d + 0) ρ hρ a2.toInt64 (0 : Int64) (1 : Int64) h1 q hR1 e) rfl rfl (fun v3 e => ?_)
    refine zb_if (j := 23) (j2 := 19) e rfl (fun e => ?_) (fun e => ?_)
    · refine zwp.go (m := 1) (j := 24) (ls' := [some (zr ((52, 11, 0) : zF)), some (zi a1), some (zi a2)]) (st' := [zi a2]) (h' := h1) rfl ?_
      refine zb_if (j := 30) (j2 := 25) e rfl (fun e => ?_) (fun e => ?_)
      · refine zwp.go (m := 1) (j := 31) (ls' := [some (zr ((52, 11, 0) : zF)), some (zi a1), some (zi a2)]) (st' := [zr ((52, 11, 0) : zF)]) (h' := h1) rfl ?_
        refine zc_sr (r := ((67, 20, 9) : zF)) (zrf (a := 52) (y := 27) hR1 rfl (hρ 52 27 rfl)) rfl ?_
        refine zwp.go (m := 1) (j := 33) (ls' := [some (zr ((52, 11, 0) : zF)), some (zi a1), some (zi a2)]) (st' := [zi a1, zr ((67, 20, 9) : zF)]) (h' := h1) rfl ?_
        refine zc_ai e (fun _ => rfl) (fun i4 e => ?_)
        cases e
        exact zwp.ret rfl rfl ⟨⟨rfl, rfl⟩, hR1⟩
      · refine zwp.go (m := 1) (j := 26) (ls' := [some (zr ((52, 11, 0) : zF)), some (zi a1), some (zi a2)]) (st' := [zr ((52, 11, 0) : zF)]) (h' := h1) rfl ?_
        refine zc_sr (r := ((66, 20, 9) : zF)) (zrf (a := 52) (y := 26) hR1 rfl (hρ 52 26 rfl)) rfl ?_
        refine zwp.go (m := 1) (j := 28) (ls' := [some (zr ((52, 11, 0) : zF)), some (zi a1), some (zi a2)]) (st' := [zi a1, zr ((66, 20, 9) : zF)]) (h' := h1) rfl ?_
        refine zc_ai e (fun _ => rfl) (fun i5 e => ?_)
        refine zwp.go (m := 1) (j := 34) (ls' := [some (zr ((52, 11, 0) : zF)), some (zi a1), some (zi a2)]) (st' := [zi (zI h1 66 i5)]) (h' := h1) rfl ?_
        cases e
        exact zwp.ret rfl rfl ⟨⟨rfl, rfl⟩, hR1⟩
    · refine zwp.fg (a := [some (zr ((52, 11, 0) : zF)), none, none]) (And.intro rfl trivial) ?_
      exact s_X11_sail_J19_ok d ρ hρ h1 _ hR1 e
def s_X10_needClan (pp : Nat) (a1 : Int32) (h : zH) : Option ((Unit ⊕ Nat) × zH) := if a1 = 0 then (some (Sum.inl (), h)) else (if a1 = (1 : Int32) then (some (Sum.inl (), h)) else (some (Sum.inr 1, zth h)))
set_option maxRecDepth 100000 in
theorem s_X10_needClan_ok (d : Nat) (ρ : Nat → Nat → Option zF) (hρ : zSh ρ) (pp : Nat) (a1 : Int32) (hpp : ρ 0 3 = some (pp, 3, 0) ∧ zPlS ρ pp) (h : zH) (res : (Unit ⊕ Nat) × zH) (hR : zRq h ρ) (e : s_X10_needClan pp a1 h = some res) : zcl d 126 [zr ((0, 10, 0) : zF), zi a1] h (zQu ρ res) := by
  rw [s_X10_needClan] at e
  refine ⟨zm_X10_needClan, rfl, ?_⟩
  show zwp d zm_X10_needClan 0 [some (zr ((0, 10, 0) : zF)), some (zi a1)] [] h _
  refine zwp.go (m := 1) (j := 1) (ls' := [some (zr ((0, 10, 0) : zF)), some (zi a1)]) (st' := [zi a1]) (h' := h) rfl ?_
  refine zb_if (j := 10) (j2 := 2) e rfl (fun e => ?_) (fun e => ?_)
  · cases e
    exact zwp.rv rfl ⟨⟨rfl, rfl⟩, hR⟩
  · refine zwp.go (m := 2) (j := 4) (ls' := [some (zr ((0, 10, 0) : zF)), some (zi a1)]) (st' := [zi (1 : Int32), zi a1]) (h' := h) rfl ?_
    refine zb_if (j := 10) (j2 := 5) e rfl (fun e => ?_) (fun e => ?_)
    · cases e
      exact zwp.rv rfl ⟨⟨rfl, rfl⟩, hR⟩
    · cases e
      exact zwp.th rfl rfl ⟨⟨rfl, rfl⟩, hR⟩
def s_X10_skill (pp : Nat) (a1 : Int32) (h : zH) : Option ((Int32 ⊕ Nat) × zH) := zbx (s_X10_needClan pp a1 h) (fun _ h2 => zix a1 2 fun i3 => some (Sum.inl (zI h2 21 i3), h2)) (fun x h1 => some (Sum.inr x, h1))
set_option maxRecDepth 100000 in
theorem s_X10_skill_ok (d : Nat) (ρ : Nat → Nat → Option zF) (hρ : zSh ρ) (pp : Nat) (a1 : Int32) (hpp : ρ 0 3 = some (pp, 3, 0) ∧ zPlS ρ pp) (h : zH) (res : (Int32 ⊕ Nat) × zH) (hR : zRq h ρ) (e : s_X10_skill pp a1 h = some res) : zcl (d + 1) 127 [zr ((0, 10, 0) : zF), zi a1] h (zQx ρ res) := by
  rw [s_X10_skill] at e
  refine ⟨zm_X10_skill, rfl, ?_⟩
  show zwp (d + 1) zm_X10_skill 0 [some (zr ((0, 10, 0) : zF)), some (zi a1)] [] h _
  refine zwp.go (m := 2) (j := 2) (ls' := [some (zr ((0, 10, 0) : zF)), some (zi a1)]) (st' := [zi a1, zr ((0, 10, 0) : zF)]) (h' := h) rfl ?_
  refine zc_cu (d := d + 0) e (fun q e => s_X10_needClan_ok (d + 0) ρ hρ pp a1 hpp h q hR e) rfl rfl (fun h2 hR2 e => ?_) (fun x h1 hR1 e => ?_)
  · refine zwp.go (m := 1) (j := 4) (ls' := [some (zr ((0, 10, 0) : zF)), some (zi a1)]) (st' := [zr ((0, 10, 0) : zF)]) (h' := h2) rfl ?_
    refine zc_sr (r := ((18, 2, 0) : zF)) (zrf (a := 0) (y := 6) hR2 rfl (hρ 0 6 rfl)) rfl ?_
    refine zc_sr (r := ((19, 8, 0) : zF)) (zrf (a := 18) (y := 0) hR2 rfl (zSh_ld18 hρ).2.1) rfl ?_
    refine zc_sr (r := ((21, 20, 2) : zF)) (zrf (a := 19) (y := 1) hR2 rfl (zSh_st19 hρ).2.2.1) rfl ?_
    refine zwp.go (m := 1) (j := 8) (ls' := [some (zr ((0, 10, 0) : zF)), some (zi a1)]) (st' := [zi a1, zr ((21, 20, 2) : zF)]) (h' := h2) rfl ?_
    refine zc_ai e (fun _ => rfl) (fun i3 e => ?_)
    cases e
    exact zwp.ret rfl rfl ⟨⟨rfl, rfl⟩, hR2⟩
  · cases e
    exact ⟨rfl, ⟨⟨rfl, rfl⟩, hR1⟩⟩
def s_L_skill (pp : Nat) (a1 : Int32) (a2 n2 : Nat) (h : zH) : Option (Int32 × zH) := zbx (s_X10_skill pp a1 h) (fun v3 h2 => zix (0 : Int32) n2 fun i5 => zlt (zwL h2 a2 i5 v3.toInt64) fun h4 => some ((0 : Int32), h4)) (fun x h1 => if x = 1 then (some ((1 : Int32), h1)) else none)
set_option maxRecDepth 100000 in
theorem s_L_skill_ok (d : Nat) (ρ : Nat → Nat → Option zF) (hρ : zSh ρ) (pp : Nat) (a1 : Int32) (a2 n2 : Nat) (hpp : ρ 0 3 = some (pp, 3, 0) ∧ zPlS ρ pp) (h : zH) (res : Int32 × zH) (hR : zRq h ρ) (e : s_L_skill pp a1 a2 n2 h = some res) : zcl (d + 2) 128 [zr ((0, 10, 0) : zF), zi a1, zr ((a2, 23, n2) : zF)] h (zQi ρ res) := by
  rw [s_L_skill] at e
  refine ⟨zm_L_skill, rfl, ?_⟩
  show zwp (d + 2) zm_L_skill 0 [some (zr ((0, 10, 0) : zF)), some (zi a1), some (zr ((a2, 23, n2) : zF)), none] [] h _
  refine zwp.go (m := 4) (j := 4) (ls' := [some (zr ((0, 10, 0) : zF)), some (zi a1), some (zr ((a2, 23, n2) : zF)), none]) (st' := [zi a1, zr ((0, 10, 0) : zF), zi (0 : Int32), zr ((a2, 23, n2) : zF)]) (h' := h) rfl ?_
  refine zc_cx (d := d + 1) e (fun q e => s_X10_skill_ok (d + 0) ρ hρ pp a1 hpp h q hR e) rfl rfl (fun v3 h2 hR2 e => ?_) (fun x h1 hR1 e => ?_)
  · refine zwp.go (m := 1) (j := 6) (ls' := [some (zr ((0, 10, 0) : zF)), some (zi a1), some (zr ((a2, 23, n2) : zF)), none]) (st' := [zl v3.toInt64, zi (0 : Int32), zr ((a2, 23, n2) : zF)]) (h' := h2) rfl ?_
    refine zc_sl e (fun _ => rfl) hR2 (fun h4 hR4 e => ?_)
    refine zwp.go (m := 2) (j := 12) (ls' := [some (zr ((0, 10, 0) : zF)), some (zi a1), some (zr ((a2, 23, n2) : zF)), none]) (st' := [zi (0 : Int32)]) (h' := h4) rfl ?_
    cases e
    exact zwp.ret rfl rfl ⟨⟨rfl, rfl⟩, hR4⟩
  · by_cases q1 : x = 1
    · subst q1
      replace e : (some ((1 : Int32), h1)) = some res := by simpa using e
      show zwp _ _ 9 [some (zr ((0, 10, 0) : zF)), some (zi a1), some (zr ((a2, 23, n2) : zF)), none] [] _ _
      refine zwp.go (m := 1) (j := 10) (ls' := [some (zr ((0, 10, 0) : zF)), some (zi a1), some (zr ((a2, 23, n2) : zF)), none]) (st' := [zi (1 : Int32)]) (h' := h1) rfl ?_
      cases e
      exact zwp.ret rfl rfl ⟨⟨rfl, rfl⟩, hR1⟩
    · skip
      simp [q1] at e
def s_X11_skill (a1 : Int32) (h : zH) : Option (Int32 × zH) := zlt (zwI h 52 4 (0 : Int32)) fun h1 => (s_X11_isIn a1.toInt64 (0 : Int64) (1 : Int64) h1).bind fun v2 => if v2 = 0 then (zbd (s_X11_fail (1 : Int32) h1) fun v4 h3 => some (v4, h3)) else (zix a1 2 fun i5 => some ((zI h1 65 i5), h1))
set_option maxRecDepth 100000 in
theorem s_X11_skill_ok (d : Nat) (ρ : Nat → Nat → Option zF) (hρ : zSh ρ) (a1 : Int32) (h : zH) (res : Int32 × zH) (hR : zRq h ρ) (e : s_X11_skill a1 h = some res) : zcl (d + 1) 129 [zr ((52, 11, 0) : zF), zi a1] h (zQi ρ res) := by
  rw [s_X11_skill] at e
  refine ⟨zm_X11_skill, rfl, ?_⟩
  show zwp (d + 1) zm_X11_skill 0 [some (zr ((52, 11, 0) : zF)), some (zi a1)] [] h _
  refine zwp.go (m := 2) (j := 2) (ls' := [some (zr ((52, 11, 0) : zF)), some (zi a1)]) (st' := [zi (0 : Int32), zr ((52, 11, 0) : zF)]) (h' := h) rfl ?_
  refine zc_w e rfl hR (fun h1 hR1 e => ?_)
  refine zwp.go (m := 4) (j := 7) (ls' := [some (zr ((52, 11, 0) : zF)), some (zi a1)]) (st' := [zl (1 : Int64), zl (0 : Int64), zl a1.toInt64]) (h' := h1) rfl ?_
  refine zc_cp (d := d + 0) e (fun q e => s_X11_isIn_ok (d + 0) ρ hρ a1.toInt64 (0 : Int64) (1 : Int64) h1 q hR1 e) rfl rfl (fun v2 e => ?_)
  refine zb_if (j := 14) (j2 := 9) e rfl (fun e => ?_) (fun e => ?_)
  · refine zwp.go (m := 2) (j := 16) (ls' := [some (zr ((52, 11, 0) : zF)), some (zi a1)]) (st' := [zi (1 : Int32), zr ((52, 11, 0) : zF)]) (h' := h1) rfl ?_
    refine zc_ci (d := d + 0) e (fun q e => s_X11_fail_ok (d + 0) ρ hρ (1 : Int32) h1 q hR1 e) rfl rfl (fun v4 h3 hR3 e => ?_)
    cases e
    exact zwp.ret rfl rfl ⟨⟨rfl, rfl⟩, hR3⟩
  · refine zwp.go (m := 1) (j := 10) (ls' := [some (zr ((52, 11, 0) : zF)), some (zi a1)]) (st' := [zr ((52, 11, 0) : zF)]) (h' := h1) rfl ?_
    refine zc_sr (r := ((65, 20, 2) : zF)) (zrf (a := 52) (y := 25) hR1 rfl (hρ 52 25 rfl)) rfl ?_
    refine zwp.go (m := 1) (j := 12) (ls' := [some (zr ((52, 11, 0) : zF)), some (zi a1)]) (st' := [zi a1, zr ((65, 20, 2) : zF)]) (h' := h1) rfl ?_
    refine zc_ai e (fun _ => rfl) (fun i5 e => ?_)
    refine zwp.go (m := 1) (j := 17) (ls' := [some (zr ((52, 11, 0) : zF)), some (zi a1)]) (st' := [zi (zI h1 65 i5)]) (h' := h1) rfl ?_
    cases e
    exact zwp.ret rfl rfl ⟨⟨rfl, rfl⟩, hR1⟩
def s_X10_refuse (pp : Nat) (a1 : Int32) (h : zH) : Option (Int32 × zH) := zix a1 3 fun i1 => zix a1 3 fun i3 => zlt (zwI h 28 i3 ((zI h 28 i1) + (1 : Int32))) fun h2 => some ((-1 : Int32), h2)
set_option maxRecDepth 100000 in
theorem s_X10_refuse_ok (d : Nat) (ρ : Nat → Nat → Option zF) (hρ : zSh ρ) (pp : Nat) (a1 : Int32) (hpp : ρ 0 3 = some (pp, 3, 0) ∧ zPlS ρ pp) (h : zH) (res : Int32 × zH) (hR : zRq h ρ) (e : s_X10_refuse pp a1 h = some res) : zcl d 130 [zr ((0, 10, 0) : zF), zi a1] h (zQi ρ res) := by
  rw [s_X10_refuse] at e
  refine ⟨zm_X10_refuse, rfl, ?_⟩
  show zwp d zm_X10_refuse 0 [some (zr ((0, 10, 0) : zF)), some (zi a1)] [] h _
  refine zwp.go (m := 1) (j := 1) (ls' := [some (zr ((0, 10, 0) : zF)), some (zi a1)]) (st' := [zr ((0, 10, 0) : zF)]) (h' := h) rfl ?_
  refine zc_sr (r := ((18, 2, 0) : zF)) (zrf (a := 0) (y := 6) hR rfl (hρ 0 6 rfl)) rfl ?_
  refine zc_sr (r := ((28, 20, 3) : zF)) (zrf (a := 18) (y := 4) hR rfl (zSh_ld18 hρ).2.2.2.2.2.1) rfl ?_
  refine zwp.go (m := 2) (j := 5) (ls' := [some (zr ((0, 10, 0) : zF)), some (zi a1)]) (st' := [zi a1, zr ((28, 20, 3) : zF), zi a1, zr ((28, 20, 3) : zF)]) (h' := h) rfl ?_
  refine zc_ai e (fun _ => rfl) (fun i1 e => ?_)
  refine zwp.go (m := 2) (j := 8) (ls' := [some (zr ((0, 10, 0) : zF)), some (zi a1)]) (st' := [zi ((zI h 28 i1) + (1 : Int32)), zi a1, zr ((28, 20, 3) : zF)]) (h' := h) rfl ?_
  refine zc_si e (fun _ => rfl) hR (fun h2 hR2 e => ?_)
  refine zwp.go (m := 1) (j := 10) (ls' := [some (zr ((0, 10, 0) : zF)), some (zi a1)]) (st' := [zi (-1 : Int32)]) (h' := h2) rfl ?_
  cases e
  exact zwp.ret rfl rfl ⟨⟨rfl, rfl⟩, hR2⟩
def s_X8_pack (a0 : Nat) (a1 n1 : Nat) (a2 : Int32) (h : zH) : Option (zH) := zcq (a0 + 1) 12 (0 : Int32) a1 n1 a2 (12 : Int32) h fun h1 => zcq (a0 + 4) 9 (0 : Int32) a1 n1 (a2 + (12 : Int32)) (9 : Int32) h1 fun h2 => zcq (a0 + 5) 9 (0 : Int32) a1 n1 ((a2 + (12 : Int32)) + (9 : Int32)) (9 : Int32) h2 fun h3 => zcq (a0 + 2) 2 (0 : Int32) a1 n1 ((a2 + (12 : Int32)) + (18 : Int32)) (2 : Int32) h3 fun h4 => zcq (a0 + 3) 2 (0 : Int32) a1 n1 (((a2 + (12 : Int32)) + (18 : Int32)) + (2 : Int32)) (2 : Int32) h4 fun h5 => zix (((a2 + (12 : Int32)) + (18 : Int32)) + (4 : Int32)) n1 fun i13 => zlt (zwI h5 a1 i13 (zI h5 a0 5)) fun h6 => zix (((a2 + (12 : Int32)) + (18 : Int32)) + (5 : Int32)) n1 fun i12 => zlt (zwI h6 a1 i12 (zI h6 a0 6)) fun h7 => zix (((a2 + (12 : Int32)) + (18 : Int32)) + (6 : Int32)) n1 fun i11 => zlt (zwI h7 a1 i11 (zI h7 a0 7)) fun h8 => zix (((a2 + (12 : Int32)) + (18 : Int32)) + (7 : Int32)) n1 fun i10 => zlt (zwI h8 a1 i10 (zI h8 a0 8)) fun h9 => some h9
set_option maxRecDepth 100000 in
theorem s_X8_pack_ok (d : Nat) (ρ : Nat → Nat → Option zF) (hρ : zSh ρ) (a0 : Nat) (a1 n1 : Nat) (a2 : Int32) (ha0 : zStS ρ a0) (h : zH) (res : zH) (hR : zRq h ρ) (e : s_X8_pack a0 a1 n1 a2 h = some res) : zcl d 131 [zr ((a0, 8, 0) : zF), zr ((a1, 20, n1) : zF), zi a2] h (zQv ρ res) := by
  rw [s_X8_pack] at e
  refine ⟨zm_X8_pack, rfl, ?_⟩
  show zwp d zm_X8_pack 0 [some (zr ((a0, 8, 0) : zF)), some (zr ((a1, 20, n1) : zF)), some (zi a2), none] [] h _
  refine zwp.go (m := 1) (j := 1) (ls' := [some (zr ((a0, 8, 0) : zF)), some (zr ((a1, 20, n1) : zF)), some (zi a2), none]) (st' := [zr ((a0, 8, 0) : zF)]) (h' := h) rfl ?_
  refine zc_sr (r := (((a0 + 1), 20, 12) : zF)) (zrf (a := a0) (y := 0) hR rfl ha0.2.1) rfl ?_
  refine zwp.go (m := 4) (j := 6) (ls' := [some (zr ((a0, 8, 0) : zF)), some (zr ((a1, 20, n1) : zF)), some (zi a2), none]) (st' := [zi (12 : Int32), zi a2, zr ((a1, 20, n1) : zF), zi (0 : Int32), zr (((a0 + 1), 20, 12) : zF)]) (h' := h) rfl ?_
  refine zc_cq e rfl rfl hR (fun h1 hR1 e => ?_)
  refine zwp.go (m := 1) (j := 8) (ls' := [some (zr ((a0, 8, 0) : zF)), some (zr ((a1, 20, n1) : zF)), some (zi a2), none]) (st' := [zr ((a0, 8, 0) : zF)]) (h' := h1) rfl ?_
  refine zc_sr (r := (((a0 + 4), 20, 9) : zF)) (zrf (a := a0) (y := 3) hR1 (zmu3 ha0.1) ha0.2.2.2.2.1) rfl ?_
  refine zwp.go (m := 6) (j := 15) (ls' := [some (zr ((a0, 8, 0) : zF)), some (zr ((a1, 20, n1) : zF)), some (zi a2), none]) (st' := [zi (9 : Int32), zi (a2 + (12 : Int32)), zr ((a1, 20, n1) : zF), zi (0 : Int32), zr (((a0 + 4), 20, 9) : zF)]) (h' := h1) rfl ?_
  refine zc_cq e rfl rfl hR1 (fun h2 hR2 e => ?_)
  refine zwp.go (m := 1) (j := 17) (ls' := [some (zr ((a0, 8, 0) : zF)), some (zr ((a1, 20, n1) : zF)), some (zi a2), none]) (st' := [zr ((a0, 8, 0) : zF)]) (h' := h2) rfl ?_
  refine zc_sr (r := (((a0 + 5), 20, 9) : zF)) (zrf (a := a0) (y := 4) hR2 rfl ha0.2.2.2.2.2) rfl ?_
  refine zwp.go (m := 8) (j := 26) (ls' := [some (zr ((a0, 8, 0) : zF)), some (zr ((a1, 20, n1) : zF)), some (zi a2), none]) (st' := [zi (9 : Int32), zi ((a2 + (12 : Int32)) + (9 : Int32)), zr ((a1, 20, n1) : zF), zi (0 : Int32), zr (((a0 + 5), 20, 9) : zF)]) (h' := h2) rfl ?_
  refine zc_cq e rfl rfl hR2 (fun h3 hR3 e => ?_)
  refine zwp.go (m := 7) (j := 34) (ls' := [some (zr ((a0, 8, 0) : zF)), some (zr ((a1, 20, n1) : zF)), some (zi a2), some (zi ((a2 + (12 : Int32)) + (18 : Int32)))]) (st' := [zr ((a0, 8, 0) : zF)]) (h' := h3) rfl ?_
  refine zc_sr (r := (((a0 + 2), 20, 2) : zF)) (zrf (a := a0) (y := 1) hR3 rfl ha0.2.2.1) rfl ?_
  refine zwp.go (m := 4) (j := 39) (ls' := [some (zr ((a0, 8, 0) : zF)), some (zr ((a1, 20, n1) : zF)), some (zi a2), some (zi ((a2 + (12 : Int32)) + (18 : Int32)))]) (st' := [zi (2 : Int32), zi ((a2 + (12 : Int32)) + (18 : Int32)), zr ((a1, 20, n1) : zF), zi (0 : Int32), zr (((a0 + 2), 20, 2) : zF)]) (h' := h3) rfl ?_
  refine zc_cq e rfl rfl hR3 (fun h4 hR4 e => ?_)
  refine zwp.go (m := 1) (j := 41) (ls' := [some (zr ((a0, 8, 0) : zF)), some (zr ((a1, 20, n1) : zF)), some (zi a2), some (zi ((a2 + (12 : Int32)) + (18 : Int32)))]) (st' := [zr ((a0, 8, 0) : zF)]) (h' := h4) rfl ?_
  refine zc_sr (r := (((a0 + 3), 20, 2) : zF)) (zrf (a := a0) (y := 2) hR4 rfl ha0.2.2.2.1) rfl ?_
  refine zwp.go (m := 6) (j := 48) (ls' := [some (zr ((a0, 8, 0) : zF)), some (zr ((a1, 20, n1) : zF)), some (zi a2), some (zi ((a2 + (12 : Int32)) + (18 : Int32)))]) (st' := [zi (2 : Int32), zi (((a2 + (12 : Int32)) + (18 : Int32)) + (2 : Int32)), zr ((a1, 20, n1) : zF), zi (0 : Int32), zr (((a0 + 3), 20, 2) : zF)]) (h' := h4) rfl ?_
  refine zc_cq e rfl rfl hR4 (fun h5 hR5 e => ?_)
  refine zwp.go (m := 6) (j := 55) (ls' := [some (zr ((a0, 8, 0) : zF)), some (zr ((a1, 20, n1) : zF)), some (zi a2), some (zi ((a2 + (12 : Int32)) + (18 : Int32)))]) (st' := [zi (zI h5 a0 5), zi (((a2 + (12 : Int32)) + (18 : Int32)) + (4 : Int32)), zr ((a1, 20, n1) : zF)]) (h' := h5) rfl ?_
  refine zc_si e (fun _ => rfl) hR5 (fun h6 hR6 e => ?_)
  refine zwp.go (m := 6) (j := 62) (ls' := [some (zr ((a0, 8, 0) : zF)), some (zr ((a1, 20, n1) : zF)), some (zi a2), some (zi ((a2 + (12 : Int32)) + (18 : Int32)))]) (st' := [zi (zI h6 a0 6), zi (((a2 + (12 : Int32)) + (18 : Int32)) + (5 : Int32)), zr ((a1, 20, n1) : zF)]) (h' := h6) rfl ?_
  refine zc_si e (fun _ => rfl) hR6 (fun h7 hR7 e => ?_)
  refine zwp.go (m := 6) (j := 69) (ls' := [some (zr ((a0, 8, 0) : zF)), some (zr ((a1, 20, n1) : zF)), some (zi a2), some (zi ((a2 + (12 : Int32)) + (18 : Int32)))]) (st' := [zi (zI h7 a0 7), zi (((a2 + (12 : Int32)) + (18 : Int32)) + (6 : Int32)), zr ((a1, 20, n1) : zF)]) (h' := h7) rfl ?_
  refine zc_si e (fun _ => rfl) hR7 (fun h8 hR8 e => ?_)
  refine zwp.go (m := 6) (j := 76) (ls' := [some (zr ((a0, 8, 0) : zF)), some (zr ((a1, 20, n1) : zF)), some (zi a2), some (zi ((a2 + (12 : Int32)) + (18 : Int32)))]) (st' := [zi (zI h8 a0 8), zi (((a2 + (12 : Int32)) + (18 : Int32)) + (7 : Int32)), zr ((a1, 20, n1) : zF)]) (h' := h8) rfl ?_
  refine zc_si e (fun _ => rfl) hR8 (fun h9 hR9 e => ?_)
  cases e
  exact zwp.rv rfl ⟨⟨rfl, rfl⟩, hR9⟩
def s_X2_keepAct_J15 (a0 : Nat) (h : zH) : Option (zH) := (s_X8_pack (a0 + 1) (a0 + 11) 1520 ((zI h a0 6) * (38 : Int32)) h).bind fun h1 => zlt (zwI h1 a0 6 ((zI h1 a0 6) + (1 : Int32))) fun h2 => some h2
set_option maxRecDepth 100000 in
theorem s_X2_keepAct_J15_ok (d : Nat) (ρ : Nat → Nat → Option zF) (hρ : zSh ρ) (a0 : Nat) (ha0 : zLdS ρ a0) (h : zH) (res : zH) (hR : zRq h ρ) (e : s_X2_keepAct_J15 a0  h = some res) : zwp (d + 1) zm_X2_keepAct 15 [some (zr ((a0, 2, 0) : zF))] [] h (zQv ρ res) := by
  rw [s_X2_keepAct_J15] at e
  refine zwp.go (m := 1) (j := 16) (ls' := [some (zr ((a0, 2, 0) : zF))]) (st' := [zr ((a0, 2, 0) : zF)]) (h' := h) rfl ?_
  refine zc_sr (r := (((a0 + 1), 8, 0) : zF)) (zrf (a := a0) (y := 0) hR rfl ha0.2.1) rfl ?_
  refine zwp.go (m := 1) (j := 18) (ls' := [some (zr ((a0, 2, 0) : zF))]) (st' := [zr ((a0, 2, 0) : zF), zr (((a0 + 1), 8, 0) : zF)]) (h' := h) rfl ?_
  refine zc_sr (r := (((a0 + 11), 20, 1520) : zF)) (zrf (a := a0) (y := 5) hR rfl ha0.2.2.2.2.2.2.1) rfl ?_
  refine zwp.go (m := 4) (j := 23) (ls' := [some (zr ((a0, 2, 0) : zF))]) (st' := [zi ((zI h a0 6) * (38 : Int32)), zr (((a0 + 11), 20, 1520) : zF), zr (((a0 + 1), 8, 0) : zF)]) (h' := h) rfl ?_
  refine zc_cv (d := d + 0) e (fun q e => s_X8_pack_ok (d + 0) ρ hρ (a0 + 1) (a0 + 11) 1520 ((zI h a0 6) * (38 : Int32)) ha0.2.2.2.2.2.2.2 h q hR e) rfl rfl (fun h1 hR1 e => ?_)
  refine zwp.go (m := 5) (j := 29) (ls' := [some (zr ((a0, 2, 0) : zF))]) (st' := [zi ((zI h1 a0 6) + (1 : Int32)), zr ((a0, 2, 0) : zF)]) (h' := h1) rfl ?_
  refine zc_w e rfl hR1 (fun h2 hR2 e => ?_)
  cases e
  exact zwp.rv rfl ⟨⟨rfl, rfl⟩, hR2⟩
def s_X2_keepAct (a0 : Nat) (h : zH) : Option (zH) := if (zI h a0 6) < (40 : Int32) then (s_X2_keepAct_J15 a0 h) else (zcq (a0 + 11) 1520 (38 : Int32) (a0 + 11) 1520 (0 : Int32) (1482 : Int32) h fun h1 => zlt (zwI h1 a0 6 (39 : Int32)) fun h2 => s_X2_keepAct_J15 a0 h2)
set_option maxRecDepth 100000 in
theorem s_X2_keepAct_ok (d : Nat) (ρ : Nat → Nat → Option zF) (hρ : zSh ρ) (a0 : Nat) (ha0 : zLdS ρ a0) (h : zH) (res : zH) (hR : zRq h ρ) (e : s_X2_keepAct a0 h = some res) : zcl (d + 1) 132 [zr ((a0, 2, 0) : zF)] h (zQv ρ res) := by
  rw [s_X2_keepAct] at e
  refine ⟨zm_X2_keepAct, rfl, ?_⟩
  show zwp (d + 1) zm_X2_keepAct 0 [some (zr ((a0, 2, 0) : zF))] [] h _
  refine zwp.go (m := 3) (j := 3) (ls' := [some (zr ((a0, 2, 0) : zF))]) (st' := [zi (40 : Int32), zi (zI h a0 6)]) (h' := h) rfl ?_
  refine zb_if (j := 15) (j2 := 4) e rfl (fun e => ?_) (fun e => ?_)
  · exact s_X2_keepAct_J15_ok d ρ hρ a0 ha0 h _ hR e
  · refine zwp.go (m := 1) (j := 5) (ls' := [some (zr ((a0, 2, 0) : zF))]) (st' := [zr ((a0, 2, 0) : zF)]) (h' := h) rfl ?_
    refine zc_sr (r := (((a0 + 11), 20, 1520) : zF)) (zrf (a := a0) (y := 5) hR rfl ha0.2.2.2.2.2.2.1) rfl ?_
    refine zwp.go (m := 2) (j := 8) (ls' := [some (zr ((a0, 2, 0) : zF))]) (st' := [zr ((a0, 2, 0) : zF), zi (38 : Int32), zr (((a0 + 11), 20, 1520) : zF)]) (h' := h) rfl ?_
    refine zc_sr (r := (((a0 + 11), 20, 1520) : zF)) (zrf (a := a0) (y := 5) hR rfl ha0.2.2.2.2.2.2.1) rfl ?_
    refine zwp.go (m := 2) (j := 11) (ls' := [some (zr ((a0, 2, 0) : zF))]) (st' := [zi (1482 : Int32), zi (0 : Int32), zr (((a0 + 11), 20, 1520) : zF), zi (38 : Int32), zr (((a0 + 11), 20, 1520) : zF)]) (h' := h) rfl ?_
    refine zc_cq e rfl rfl hR (fun h1 hR1 e => ?_)
    refine zwp.go (m := 2) (j := 14) (ls' := [some (zr ((a0, 2, 0) : zF))]) (st' := [zi (39 : Int32), zr ((a0, 2, 0) : zF)]) (h' := h1) rfl ?_
    refine zc_w e rfl hR1 (fun h2 hR2 e => ?_)
    exact s_X2_keepAct_J15_ok d ρ hρ a0 ha0 h2 _ hR2 e
def s_X10_keepAct (pp : Nat) (h : zH) : Option (zH) := (s_X2_keepAct 18 h).bind fun h1 => (s_X10_noteChange pp h1).bind fun h2 => some h2
set_option maxRecDepth 100000 in
theorem s_X10_keepAct_ok (d : Nat) (ρ : Nat → Nat → Option zF) (hρ : zSh ρ) (pp : Nat) (hpp : ρ 0 3 = some (pp, 3, 0) ∧ zPlS ρ pp) (h : zH) (res : zH) (hR : zRq h ρ) (e : s_X10_keepAct pp h = some res) : zcl (d + 2) 133 [zr ((0, 10, 0) : zF)] h (zQv ρ res) := by
  rw [s_X10_keepAct] at e
  refine ⟨zm_X10_keepAct, rfl, ?_⟩
  show zwp (d + 2) zm_X10_keepAct 0 [some (zr ((0, 10, 0) : zF))] [] h _
  refine zwp.go (m := 1) (j := 1) (ls' := [some (zr ((0, 10, 0) : zF))]) (st' := [zr ((0, 10, 0) : zF)]) (h' := h) rfl ?_
  refine zc_sr (r := ((18, 2, 0) : zF)) (zrf (a := 0) (y := 6) hR rfl (hρ 0 6 rfl)) rfl ?_
  refine zc_cv (d := d + 1) e (fun q e => s_X2_keepAct_ok (d + 0) ρ hρ 18 (zSh_ld18 hρ) h q hR e) rfl rfl (fun h1 hR1 e => ?_)
  refine zwp.go (m := 1) (j := 4) (ls' := [some (zr ((0, 10, 0) : zF))]) (st' := [zr ((0, 10, 0) : zF)]) (h' := h1) rfl ?_
  refine zc_cv (d := d + 1) e (fun q e => s_X10_noteChange_ok (d + 1) ρ hρ pp hpp h1 q hR1 e) rfl rfl (fun h2 hR2 e => ?_)
  cases e
  exact zwp.rv rfl ⟨⟨rfl, rfl⟩, hR2⟩
def s_X9_operate (a1 : Int32) (a2 : Int32) (a3 : Int32) (h : zH) : Option (Int32) := if a1 = 1 then (if ¬ a2 = 0 then (some (1 : Int32)) else (if a3 = 0 then (some (0 : Int32)) else (some (1 : Int32)))) else if a1 = 2 then (if a2 = 0 then (some (0 : Int32)) else (if a3 = 0 then (some (0 : Int32)) else (some (1 : Int32)))) else if a1 = 3 then (if ¬ a3 = 0 then ((zdv a2 a3).bind fun v1 => some v1) else (some (0 : Int32))) else if a1 = 4 then (if a3 ≤ a2 then (some (0 : Int32)) else (some (1 : Int32))) else if a1 = 5 then (if ¬ a2 = a3 then (some (0 : Int32)) else (some (1 : Int32))) else if a1 = 6 then (some (a2 + a3)) else if a1 = 7 then (some (a2 - a3)) else if a1 = 8 then (some (a2 * a3)) else (if ¬ a3 = 0 then ((zdv a2 a3).bind fun v2 => some v2) else (some (0 : Int32)))
set_option maxRecDepth 100000 in
theorem s_X9_operate_ok (d : Nat) (ρ : Nat → Nat → Option zF) (hρ : zSh ρ) (a1 : Int32) (a2 : Int32) (a3 : Int32) (h : zH) (res : Int32) (hR : zRq h ρ) (e : s_X9_operate a1 a2 a3 h = some res) : zcl d 134 [zr ((36, 9, 0) : zF), zi a1, zi a2, zi a3] h (zQp h res) := by
  rw [s_X9_operate] at e
  refine ⟨zm_X9_operate, rfl, ?_⟩
  show zwp d zm_X9_operate 0 [some (zr ((36, 9, 0) : zF)), some (zi a1), some (zi a2), some (zi a3)] [] h _
  refine zwp.go (m := 1) (j := 1) (ls' := [some (zr ((36, 9, 0) : zF)), some (zi a1), some (zi a2), some (zi a3)]) (st' := [zi a1]) (h' := h) rfl ?_
  refine zwp.nx (j := zsw [(1, 2), (2, 10), (3, 44), (4, 18), (5, 25), (6, 32), (7, 36), (8, 40)] 44 a1) (ls' := [some (zr ((36, 9, 0) : zF)), some (zi a1), some (zi a2), some (zi a3)]) (st' := []) (h' := h) rfl ?_
  refine zb_sw e (fun e => ?_) (fun e => ?_)
  · refine zwp.go (m := 1) (j := 3) (ls' := [some (zr ((36, 9, 0) : zF)), some (zi a1), some (zi a2), some (zi a3)]) (st' := [zi a2]) (h' := h) rfl ?_
    refine zb_if (j := 6) (j2 := 4) e rfl (fun e => ?_) (fun e => ?_)
    · refine zwp.go (m := 2) (j := 9) (ls' := [some (zr ((36, 9, 0) : zF)), some (zi a1), some (zi a2), some (zi a3)]) (st' := [zi (1 : Int32)]) (h' := h) rfl ?_
      cases e
      exact zwp.ret rfl rfl ⟨rfl, rfl⟩
    · refine zwp.go (m := 1) (j := 5) (ls' := [some (zr ((36, 9, 0) : zF)), some (zi a1), some (zi a2), some (zi a3)]) (st' := [zi a3]) (h' := h) rfl ?_
      refine zb_if (j := 8) (j2 := 6) e rfl (fun e => ?_) (fun e => ?_)
      · refine zwp.go (m := 1) (j := 9) (ls' := [some (zr ((36, 9, 0) : zF)), some (zi a1), some (zi a2), some (zi a3)]) (st' := [zi (0 : Int32)]) (h' := h) rfl ?_
        cases e
        exact zwp.ret rfl rfl ⟨rfl, rfl⟩
      · refine zwp.go (m := 2) (j := 9) (ls' := [some (zr ((36, 9, 0) : zF)), some (zi a1), some (zi a2), some (zi a3)]) (st' := [zi (1 : Int32)]) (h' := h) rfl ?_
        cases e
        exact zwp.ret rfl rfl ⟨rfl, rfl⟩
  refine zb_sw e (fun e => ?_) (fun e => ?_)
  · refine zwp.go (m := 1) (j := 11) (ls' := [some (zr ((36, 9, 0) : zF)), some (zi a1), some (zi a2), some (zi a3)]) (st' := [zi a2]) (h' := h) rfl ?_
    refine zb_if (j := 16) (j2 := 12) e rfl (fun e => ?_) (fun e => ?_)
    · refine zwp.go (m := 1) (j := 17) (ls' := [some (zr ((36, 9, 0) : zF)), some (zi a1), some (zi a2), some (zi a3)]) (st' := [zi (0 : Int32)]) (h' := h) rfl ?_
      cases e
      exact zwp.ret rfl rfl ⟨rfl, rfl⟩
    · refine zwp.go (m := 1) (j := 13) (ls' := [some (zr ((36, 9, 0) : zF)), some (zi a1), some (zi a2), some (zi a3)]) (st' := [zi a3]) (h' := h) rfl ?_
      refine zb_if (j := 16) (j2 := 14) e rfl (fun e => ?_) (fun e => ?_)
      · refine zwp.go (m := 1) (j := 17) (ls' := [some (zr ((36, 9, 0) : zF)), some (zi a1), some (zi a2), some (zi a3)]) (st' := [zi (0 : Int32)]) (h' := h) rfl ?_
        cases e
        exact zwp.ret rfl rfl ⟨rfl, rfl⟩
      · refine zwp.go (m := 2) (j := 17) (ls' := [some (zr ((36, 9, 0) : zF)), some (zi a1), some (zi a2), some (zi a3)]) (st' := [zi (1 : Int32)]) (h' := h) rfl ?_
        cases e
        exact zwp.ret rfl rfl ⟨rfl, rfl⟩
  refine zb_sw e (fun e => ?_) (fun e => ?_)
  · refine zwp.go (m := 1) (j := 45) (ls' := [some (zr ((36, 9, 0) : zF)), some (zi a1), some (zi a2), some (zi a3)]) (st' := [zi a3]) (h' := h) rfl ?_
    refine zb_if (j := 48) (j2 := 46) e rfl (fun e => ?_) (fun e => ?_)
    · refine zwp.go (m := 2) (j := 50) (ls' := [some (zr ((36, 9, 0) : zF)), some (zi a1), some (zi a2), some (zi a3)]) (st' := [zi a3, zi a2]) (h' := h) rfl ?_
      refine zb_dv e rfl (fun v1 e => ?_)
      cases e
      exact zwp.ret rfl rfl ⟨rfl, rfl⟩
    · refine zwp.go (m := 2) (j := 51) (ls' := [some (zr ((36, 9, 0) : zF)), some (zi a1), some (zi a2), some (zi a3)]) (st' := [zi (0 : Int32)]) (h' := h) rfl ?_
      cases e
      exact zwp.ret rfl rfl ⟨rfl, rfl⟩
  refine zb_sw e (fun e => ?_) (fun e => ?_)
  · refine zwp.go (m := 2) (j := 20) (ls' := [some (zr ((36, 9, 0) : zF)), some (zi a1), some (zi a2), some (zi a3)]) (st' := [zi a3, zi a2]) (h' := h) rfl ?_
    refine zb_if (j := 23) (j2 := 21) e rfl (fun e => ?_) (fun e => ?_)
    · refine zwp.go (m := 1) (j := 24) (ls' := [some (zr ((36, 9, 0) : zF)), some (zi a1), some (zi a2), some (zi a3)]) (st' := [zi (0 : Int32)]) (h' := h) rfl ?_
      cases e
      exact zwp.ret rfl rfl ⟨rfl, rfl⟩
    · refine zwp.go (m := 2) (j := 24) (ls' := [some (zr ((36, 9, 0) : zF)), some (zi a1), some (zi a2), some (zi a3)]) (st' := [zi (1 : Int32)]) (h' := h) rfl ?_
      cases e
      exact zwp.ret rfl rfl ⟨rfl, rfl⟩
  refine zb_sw e (fun e => ?_) (fun e => ?_)
  · refine zwp.go (m := 2) (j := 27) (ls' := [some (zr ((36, 9, 0) : zF)), some (zi a1), some (zi a2), some (zi a3)]) (st' := [zi a3, zi a2]) (h' := h) rfl ?_
    refine zb_if (j := 30) (j2 := 28) e rfl (fun e => ?_) (fun e => ?_)
    · refine zwp.go (m := 1) (j := 31) (ls' := [some (zr ((36, 9, 0) : zF)), some (zi a1), some (zi a2), some (zi a3)]) (st' := [zi (0 : Int32)]) (h' := h) rfl ?_
      cases e
      exact zwp.ret rfl rfl ⟨rfl, rfl⟩
    · refine zwp.go (m := 2) (j := 31) (ls' := [some (zr ((36, 9, 0) : zF)), some (zi a1), some (zi a2), some (zi a3)]) (st' := [zi (1 : Int32)]) (h' := h) rfl ?_
      cases e
      exact zwp.ret rfl rfl ⟨rfl, rfl⟩
  refine zb_sw e (fun e => ?_) (fun e => ?_)
  · refine zwp.go (m := 3) (j := 35) (ls' := [some (zr ((36, 9, 0) : zF)), some (zi a1), some (zi a2), some (zi a3)]) (st' := [zi (a2 + a3)]) (h' := h) rfl ?_
    cases e
    exact zwp.ret rfl rfl ⟨rfl, rfl⟩
  refine zb_sw e (fun e => ?_) (fun e => ?_)
  · refine zwp.go (m := 3) (j := 39) (ls' := [some (zr ((36, 9, 0) : zF)), some (zi a1), some (zi a2), some (zi a3)]) (st' := [zi (a2 - a3)]) (h' := h) rfl ?_
    cases e
    exact zwp.ret rfl rfl ⟨rfl, rfl⟩
  refine zb_sw e (fun e => ?_) (fun e => ?_)
  · refine zwp.go (m := 3) (j := 43) (ls' := [some (zr ((36, 9, 0) : zF)), some (zi a1), some (zi a2), some (zi a3)]) (st' := [zi (a2 * a3)]) (h' := h) rfl ?_
    cases e
    exact zwp.ret rfl rfl ⟨rfl, rfl⟩
  refine zwp.go (m := 1) (j := 45) (ls' := [some (zr ((36, 9, 0) : zF)), some (zi a1), some (zi a2), some (zi a3)]) (st' := [zi a3]) (h' := h) rfl ?_
  refine zb_if (j := 48) (j2 := 46) e rfl (fun e => ?_) (fun e => ?_)
  · refine zwp.go (m := 2) (j := 50) (ls' := [some (zr ((36, 9, 0) : zF)), some (zi a1), some (zi a2), some (zi a3)]) (st' := [zi a3, zi a2]) (h' := h) rfl ?_
    refine zb_dv e rfl (fun v2 e => ?_)
    cases e
    exact zwp.ret rfl rfl ⟨rfl, rfl⟩
  · refine zwp.go (m := 2) (j := 51) (ls' := [some (zr ((36, 9, 0) : zF)), some (zi a1), some (zi a2), some (zi a3)]) (st' := [zi (0 : Int32)]) (h' := h) rfl ?_
    cases e
    exact zwp.ret rfl rfl ⟨rfl, rfl⟩
def s_X9_evaluate_L5 (a1 : Nat) (a2 : Nat) : Nat → Int32 → Int32 → zH → Option (Int32 × zH)
  | 0, _, _, _ => none
  | n + 1, l3, l4, h => if (zI h a2 2) ≤ l4 then (if l3 ≤ 0 then (some ((0 : Int32), h)) else (some ((zI h 38 0), h))) else (zix l4 700 fun i1 => if (20000 : Int32) ≤ (zI h (a1 + 4) i1) then (if ¬ (zI h (a1 + 4) i1) = (20003 : Int32) then (if l3 ≤ (1 : Int32) then (s_X9_evaluate_L5 a1 a2 n l3 (l4 + (1 : Int32)) h) else (zix ((l3 + (-1 : Int32)) - (1 : Int32)) 50 fun i2 => zix (l3 + (-1 : Int32)) 50 fun i3 => (s_X9_operate ((zI h (a1 + 4) i1) - (20000 : Int32)) (zI h 38 i2) (zI h 38 i3) h).bind fun v4 => zix ((l3 + (-1 : Int32)) - (1 : Int32)) 50 fun i6 => zlt (zwI h 38 i6 v4) fun h5 => s_X9_evaluate_L5 a1 a2 n (l3 + (-1 : Int32)) (l4 + (1 : Int32)) h5)) else (if l3 ≤ 0 then (s_X9_evaluate_L5 a1 a2 n l3 (l4 + (1 : Int32)) h) else (zix (l3 - (1 : Int32)) 50 fun i7 => if ¬ (zI h 38 i7) = 0 then (zix (l3 - (1 : Int32)) 50 fun i9 => zlt (zwI h 38 i9 (0 : Int32)) fun h8 => s_X9_evaluate_L5 a1 a2 n l3 (l4 + (1 : Int32)) h8) else (zix (l3 - (1 : Int32)) 50 fun i11 => zlt (zwI h 38 i11 (1 : Int32)) fun h10 => s_X9_evaluate_L5 a1 a2 n l3 (l4 + (1 : Int32)) h10)))) else (if (Int32.ofNat 50) ≤ l3 then (s_X9_evaluate_L5 a1 a2 n l3 (l4 + (1 : Int32)) h) else (if (10000 : Int32) ≤ (zI h (a1 + 4) i1) then (zix ((zI h (a1 + 4) i1) - (10000 : Int32)) 5 fun i12 => zix l3 50 fun i14 => zlt (zwI h 38 i14 (zI h 37 i12)) fun h13 => s_X9_evaluate_L5 a1 a2 n (l3 + (1 : Int32)) (l4 + (1 : Int32)) h13) else (zix l3 50 fun i16 => zlt (zwI h 38 i16 (zI h (a1 + 4) i1)) fun h15 => s_X9_evaluate_L5 a1 a2 n (l3 + (1 : Int32)) (l4 + (1 : Int32)) h15))))
set_option maxRecDepth 100000 in
theorem s_X9_evaluate_L5_ok (d : Nat) (ρ : Nat → Nat → Option zF) (hρ : zSh ρ) (a1 : Nat) (a2 : Nat) (ha1 : zPlS ρ a1) : ∀ (n : Nat) (l3 : Int32) (l4 : Int32) (h : zH) (res : Int32 × zH) (hR : zRq h ρ) (e : s_X9_evaluate_L5 a1 a2 n l3 l4 h = some res), zwp (d + 1) zm_X9_evaluate 5 [some (zr ((36, 9, 0) : zF)), some (zr ((a1, 3, 0) : zF)), some (zr ((a2, 5, 0) : zF)), some (zi l3), some (zi l4), none] [] h (zQi ρ res) := by
  intro n
  induction n with
  | zero => intro l3 l4 h res hR e; cases e
  | succ n ih =>
    intro l3 l4 h res hR e
    rw [s_X9_evaluate_L5] at e
    refine zwp.go (m := 3) (j := 8) (ls' := [some (zr ((36, 9, 0) : zF)), some (zr ((a1, 3, 0) : zF)), some (zr ((a2, 5, 0) : zF)), some (zi l3), some (zi l4), none]) (st' := [zi (zI h a2 2), zi l4]) (h' := h) rfl ?_
    refine zb_if (j := 88) (j2 := 9) e rfl (fun e => ?_) (fun e => ?_)
    · refine zwp.go (m := 1) (j := 89) (ls' := [some (zr ((36, 9, 0) : zF)), some (zr ((a1, 3, 0) : zF)), some (zr ((a2, 5, 0) : zF)), some (zi l3), some (zi l4), none]) (st' := [zi l3]) (h' := h) rfl ?_
      refine zb_if (j := 95) (j2 := 90) e rfl (fun e => ?_) (fun e => ?_)
      · refine zwp.go (m := 1) (j := 96) (ls' := [some (zr ((36, 9, 0) : zF)), some (zr ((a1, 3, 0) : zF)), some (zr ((a2, 5, 0) : zF)), some (zi l3), some (zi l4), none]) (st' := [zi (0 : Int32)]) (h' := h) rfl ?_
        cases e
        exact zwp.ret rfl rfl ⟨⟨rfl, rfl⟩, hR⟩
      · refine zwp.go (m := 1) (j := 91) (ls' := [some (zr ((36, 9, 0) : zF)), some (zr ((a1, 3, 0) : zF)), some (zr ((a2, 5, 0) : zF)), some (zi l3), some (zi l4), none]) (st' := [zr ((36, 9, 0) : zF)]) (h' := h) rfl ?_
        refine zc_sr (r := ((38, 20, 50) : zF)) (zrf (a := 36) (y := 1) hR rfl (hρ 36 1 rfl)) rfl ?_
        refine zwp.go (m := 3) (j := 96) (ls' := [some (zr ((36, 9, 0) : zF)), some (zr ((a1, 3, 0) : zF)), some (zr ((a2, 5, 0) : zF)), some (zi l3), some (zi l4), none]) (st' := [zi (zI h 38 0)]) (h' := h) rfl ?_
        cases e
        exact zwp.ret rfl rfl ⟨⟨rfl, rfl⟩, hR⟩
    · refine zwp.go (m := 1) (j := 10) (ls' := [some (zr ((36, 9, 0) : zF)), some (zr ((a1, 3, 0) : zF)), some (zr ((a2, 5, 0) : zF)), some (zi l3), some (zi l4), none]) (st' := [zr ((a1, 3, 0) : zF)]) (h' := h) rfl ?_
      refine zc_sr (r := (((a1 + 4), 20, 700) : zF)) (zrf (a := a1) (y := 3) hR (zmu3 ha1.1) ha1.2.2.2.2.1) rfl ?_
      refine zwp.go (m := 1) (j := 12) (ls' := [some (zr ((36, 9, 0) : zF)), some (zr ((a1, 3, 0) : zF)), some (zr ((a2, 5, 0) : zF)), some (zi l3), some (zi l4), none]) (st' := [zi l4, zr (((a1 + 4), 20, 700) : zF)]) (h' := h) rfl ?_
      refine zc_ai e (fun _ => rfl) (fun i1 e => ?_)
      refine zwp.go (m := 3) (j := 16) (ls' := [some (zr ((36, 9, 0) : zF)), some (zr ((a1, 3, 0) : zF)), some (zr ((a2, 5, 0) : zF)), some (zi l3), some (zi l4), some (zi (zI h (a1 + 4) i1))]) (st' := [zi (20000 : Int32), zi (zI h (a1 + 4) i1)]) (h' := h) rfl ?_
      refine zb_if (j := 39) (j2 := 17) e rfl (fun e => ?_) (fun e => ?_)
      · refine zwp.go (m := 2) (j := 41) (ls' := [some (zr ((36, 9, 0) : zF)), some (zr ((a1, 3, 0) : zF)), some (zr ((a2, 5, 0) : zF)), some (zi l3), some (zi l4), some (zi (zI h (a1 + 4) i1))]) (st' := [zi (20003 : Int32), zi (zI h (a1 + 4) i1)]) (h' := h) rfl ?_
        refine zb_if (j := 61) (j2 := 42) e rfl (fun e => ?_) (fun e => ?_)
        · refine zwp.go (m := 2) (j := 63) (ls' := [some (zr ((36, 9, 0) : zF)), some (zr ((a1, 3, 0) : zF)), some (zr ((a2, 5, 0) : zF)), some (zi l3), some (zi l4), some (zi (zI h (a1 + 4) i1))]) (st' := [zi (1 : Int32), zi l3]) (h' := h) rfl ?_
          refine zb_if (j := 86) (j2 := 64) e rfl (fun e => ?_) (fun e => ?_)
          · refine zwp.go (m := 2) (j := 5) (ls' := [some (zr ((36, 9, 0) : zF)), some (zr ((a1, 3, 0) : zF)), some (zr ((a2, 5, 0) : zF)), some (zi l3), some (zi (l4 + (1 : Int32))), some (zi (zI h (a1 + 4) i1))]) (st' := []) (h' := h) rfl ?_
            refine zwp.fg (a := [some (zr ((36, 9, 0) : zF)), some (zr ((a1, 3, 0) : zF)), some (zr ((a2, 5, 0) : zF)), some (zi l3), some (zi (l4 + (1 : Int32))), none]) (And.intro rfl (And.intro rfl (And.intro rfl (And.intro rfl (And.intro rfl trivial))))) ?_
            exact ih l3 (l4 + (1 : Int32)) h _ hR e
          · refine zwp.go (m := 2) (j := 66) (ls' := [some (zr ((36, 9, 0) : zF)), some (zr ((a1, 3, 0) : zF)), some (zr ((a2, 5, 0) : zF)), some (zi (l3 + (-1 : Int32))), some (zi l4), some (zi (zI h (a1 + 4) i1))]) (st' := [zr ((36, 9, 0) : zF)]) (h' := h) rfl ?_
            refine zc_sr (r := ((38, 20, 50) : zF)) (zrf (a := 36) (y := 1) hR rfl (hρ 36 1 rfl)) rfl ?_
            refine zwp.go (m := 8) (j := 75) (ls' := [some (zr ((36, 9, 0) : zF)), some (zr ((a1, 3, 0) : zF)), some (zr ((a2, 5, 0) : zF)), some (zi (l3 + (-1 : Int32))), some (zi l4), some (zi (zI h (a1 + 4) i1))]) (st' := [zr ((36, 9, 0) : zF), zi ((zI h (a1 + 4) i1) - (20000 : Int32)), zr ((36, 9, 0) : zF), zi ((l3 + (-1 : Int32)) - (1 : Int32)), zr ((38, 20, 50) : zF)]) (h' := h) rfl ?_
            refine zc_sr (r := ((38, 20, 50) : zF)) (zrf (a := 36) (y := 1) hR rfl (hρ 36 1 rfl)) rfl ?_
            refine zwp.go (m := 3) (j := 79) (ls' := [some (zr ((36, 9, 0) : zF)), some (zr ((a1, 3, 0) : zF)), some (zr ((a2, 5, 0) : zF)), some (zi (l3 + (-1 : Int32))), some (zi l4), some (zi (zI h (a1 + 4) i1))]) (st' := [zi ((l3 + (-1 : Int32)) - (1 : Int32)), zr ((38, 20, 50) : zF), zi ((zI h (a1 + 4) i1) - (20000 : Int32)), zr ((36, 9, 0) : zF), zi ((l3 + (-1 : Int32)) - (1 : Int32)), zr ((38, 20, 50) : zF)]) (h' := h) rfl ?_
            refine zc_ai e (fun _ => rfl) (fun i2 e => ?_)
            refine zwp.go (m := 1) (j := 81) (ls' := [some (zr ((36, 9, 0) : zF)), some (zr ((a1, 3, 0) : zF)), some (zr ((a2, 5, 0) : zF)), some (zi (l3 + (-1 : Int32))), some (zi l4), some (zi (zI h (a1 + 4) i1))]) (st' := [zr ((36, 9, 0) : zF), zi (zI h 38 i2), zi ((zI h (a1 + 4) i1) - (20000 : Int32)), zr ((36, 9, 0) : zF), zi ((l3 + (-1 : Int32)) - (1 : Int32)), zr ((38, 20, 50) : zF)]) (h' := h) rfl ?_
            refine zc_sr (r := ((38, 20, 50) : zF)) (zrf (a := 36) (y := 1) hR rfl (hρ 36 1 rfl)) rfl ?_
            refine zwp.go (m := 1) (j := 83) (ls' := [some (zr ((36, 9, 0) : zF)), some (zr ((a1, 3, 0) : zF)), some (zr ((a2, 5, 0) : zF)), some (zi (l3 + (-1 : Int32))), some (zi l4), some (zi (zI h (a1 + 4) i1))]) (st' := [zi (l3 + (-1 : Int32)), zr ((38, 20, 50) : zF), zi (zI h 38 i2), zi ((zI h (a1 + 4) i1) - (20000 : Int32)), zr ((36, 9, 0) : zF), zi ((l3 + (-1 : Int32)) - (1 : Int32)), zr ((38, 20, 50) : zF)]) (h' := h) rfl ?_
            refine zc_ai e (fun _ => rfl) (fun i3 e => ?_)
            refine zc_cp (d := d + 0) e (fun q e => s_X9_operate_ok (d + 0) ρ hρ ((zI h (a1 + 4) i1) - (20000 : Int32)) (zI h 38 i2) (zI h 38 i3) h q hR e) rfl rfl (fun v4 e => ?_)
            refine zc_si e (fun _ => rfl) hR (fun h5 hR5 e => ?_)
            refine zwp.go (m := 2) (j := 5) (ls' := [some (zr ((36, 9, 0) : zF)), some (zr ((a1, 3, 0) : zF)), some (zr ((a2, 5, 0) : zF)), some (zi (l3 + (-1 : Int32))), some (zi (l4 + (1 : Int32))), some (zi (zI h (a1 + 4) i1))]) (st' := []) (h' := h5) rfl ?_
            refine zwp.fg (a := [some (zr ((36, 9, 0) : zF)), some (zr ((a1, 3, 0) : zF)), some (zr ((a2, 5, 0) : zF)), some (zi (l3 + (-1 : Int32))), some (zi (l4 + (1 : Int32))), none]) (And.intro rfl (And.intro rfl (And.intro rfl (And.intro rfl (And.intro rfl trivial))))) ?_
            exact ih (l3 + (-1 : Int32)) (l4 + (1 : Int32)) h5 _ hR5 e
        · refine zwp.go (m := 1) (j := 43) (ls' := [some (zr ((36, 9, 0) : zF)), some (zr ((a1, 3, 0) : zF)), some (zr ((a2, 5, 0) : zF)), some (zi l3), some (zi l4), some (zi (zI h (a1 + 4) i1))]) (st' := [zi l3]) (h' := h) rfl ?_
          refine zb_if (j := 86) (j2 := 44) e rfl (fun e => ?_) (fun e => ?_)
          · refine zwp.go (m := 2) (j := 5) (ls' := [some (zr ((36, 9, 0) : zF)), some (zr ((a1, 3, 0) : zF)), some (zr ((a2, 5, 0) : zF)), some (zi l3), some (zi (l4 + (1 : Int32))), some (zi (zI h (a1 + 4) i1))]) (st' := []) (h' := h) rfl ?_
            refine zwp.fg (a := [some (zr ((36, 9, 0) : zF)), some (zr ((a1, 3, 0) : zF)), some (zr ((a2, 5, 0) : zF)), some (zi l3), some (zi (l4 + (1 : Int32))), none]) (And.intro rfl (And.intro rfl (And.intro rfl (And.intro rfl (And.intro rfl trivial))))) ?_
            exact ih l3 (l4 + (1 : Int32)) h _ hR e
          · refine zwp.go (m := 1) (j := 45) (ls' := [some (zr ((36, 9, 0) : zF)), some (zr ((a1, 3, 0) : zF)), some (zr ((a2, 5, 0) : zF)), some (zi l3), some (zi l4), some (zi (zI h (a1 + 4) i1))]) (st' := [zr ((36, 9, 0) : zF)]) (h' := h) rfl ?_
            refine zc_sr (r := ((38, 20, 50) : zF)) (zrf (a := 36) (y := 1) hR rfl (hρ 36 1 rfl)) rfl ?_
            refine zwp.go (m := 4) (j := 50) (ls' := [some (zr ((36, 9, 0) : zF)), some (zr ((a1, 3, 0) : zF)), some (zr ((a2, 5, 0) : zF)), some (zi l3), some (zi l4), some (zi (zI h (a1 + 4) i1))]) (st' := [zr ((36, 9, 0) : zF), zi (l3 - (1 : Int32)), zr ((38, 20, 50) : zF)]) (h' := h) rfl ?_
            refine zc_sr (r := ((38, 20, 50) : zF)) (zrf (a := 36) (y := 1) hR rfl (hρ 36 1 rfl)) rfl ?_
            refine zwp.go (m := 3) (j := 54) (ls' := [some (zr ((36, 9, 0) : zF)), some (zr ((a1, 3, 0) : zF)), some (zr ((a2, 5, 0) : zF)), some (zi l3), some (zi l4), some (zi (zI h (a1 + 4) i1))]) (st' := [zi (l3 - (1 : Int32)), zr ((38, 20, 50) : zF), zi (l3 - (1 : Int32)), zr ((38, 20, 50) : zF)]) (h' := h) rfl ?_
            refine zc_ai e (fun _ => rfl) (fun i7 e => ?_)
            refine zb_if (j := 58) (j2 := 56) e rfl (fun e => ?_) (fun e => ?_)
            · refine zwp.go (m := 1) (j := 59) (ls' := [some (zr ((36, 9, 0) : zF)), some (zr ((a1, 3, 0) : zF)), some (zr ((a2, 5, 0) : zF)), some (zi l3), some (zi l4), some (zi (zI h (a1 + 4) i1))]) (st' := [zi (0 : Int32), zi (l3 - (1 : Int32)), zr ((38, 20, 50) : zF)]) (h' := h) rfl ?_
              refine zc_si e (fun _ => rfl) hR (fun h8 hR8 e => ?_)
              refine zwp.go (m := 3) (j := 5) (ls' := [some (zr ((36, 9, 0) : zF)), some (zr ((a1, 3, 0) : zF)), some (zr ((a2, 5, 0) : zF)), some (zi l3), some (zi (l4 + (1 : Int32))), some (zi (zI h (a1 + 4) i1))]) (st' := []) (h' := h8) rfl ?_
              refine zwp.fg (a := [some (zr ((36, 9, 0) : zF)), some (zr ((a1, 3, 0) : zF)), some (zr ((a2, 5, 0) : zF)), some (zi l3), some (zi (l4 + (1 : Int32))), none]) (And.intro rfl (And.intro rfl (And.intro rfl (And.intro rfl (And.intro rfl trivial))))) ?_
              exact ih l3 (l4 + (1 : Int32)) h8 _ hR8 e
            · refine zwp.go (m := 2) (j := 59) (ls' := [some (zr ((36, 9, 0) : zF)), some (zr ((a1, 3, 0) : zF)), some (zr ((a2, 5, 0) : zF)), some (zi l3), some (zi l4), some (zi (zI h (a1 + 4) i1))]) (st' := [zi (1 : Int32), zi (l3 - (1 : Int32)), zr ((38, 20, 50) : zF)]) (h' := h) rfl ?_
              refine zc_si e (fun _ => rfl) hR (fun h10 hR10 e => ?_)
              refine zwp.go (m := 3) (j := 5) (ls' := [some (zr ((36, 9, 0) : zF)), some (zr ((a1, 3, 0) : zF)), some (zr ((a2, 5, 0) : zF)), some (zi l3), some (zi (l4 + (1 : Int32))), some (zi (zI h (a1 + 4) i1))]) (st' := []) (h' := h10) rfl ?_
              refine zwp.fg (a := [some (zr ((36, 9, 0) : zF)), some (zr ((a1, 3, 0) : zF)), some (zr ((a2, 5, 0) : zF)), some (zi l3), some (zi (l4 + (1 : Int32))), none]) (And.intro rfl (And.intro rfl (And.intro rfl (And.intro rfl (And.intro rfl trivial))))) ?_
              exact ih l3 (l4 + (1 : Int32)) h10 _ hR10 e
      · refine zwp.go (m := 2) (j := 19) (ls' := [some (zr ((36, 9, 0) : zF)), some (zr ((a1, 3, 0) : zF)), some (zr ((a2, 5, 0) : zF)), some (zi l3), some (zi l4), some (zi (zI h (a1 + 4) i1))]) (st' := [zr ((36, 9, 0) : zF), zi l3]) (h' := h) rfl ?_
        refine zc_sr (r := ((38, 20, 50) : zF)) (zrf (a := 36) (y := 1) hR rfl (hρ 36 1 rfl)) rfl ?_
        refine zwp.go (m := 1) (j := 21) (ls' := [some (zr ((36, 9, 0) : zF)), some (zr ((a1, 3, 0) : zF)), some (zr ((a2, 5, 0) : zF)), some (zi l3), some (zi l4), some (zi (zI h (a1 + 4) i1))]) (st' := [zi (Int32.ofNat 50), zi l3]) (h' := h) rfl ?_
        refine zb_if (j := 86) (j2 := 22) e rfl (fun e => ?_) (fun e => ?_)
        · refine zwp.go (m := 2) (j := 5) (ls' := [some (zr ((36, 9, 0) : zF)), some (zr ((a1, 3, 0) : zF)), some (zr ((a2, 5, 0) : zF)), some (zi l3), some (zi (l4 + (1 : Int32))), some (zi (zI h (a1 + 4) i1))]) (st' := []) (h' := h) rfl ?_
          refine zwp.fg (a := [some (zr ((36, 9, 0) : zF)), some (zr ((a1, 3, 0) : zF)), some (zr ((a2, 5, 0) : zF)), some (zi l3), some (zi (l4 + (1 : Int32))), none]) (And.intro rfl (And.intro rfl (And.intro rfl (And.intro rfl (And.intro rfl trivial))))) ?_
          exact ih l3 (l4 + (1 : Int32)) h _ hR e
        · refine zwp.go (m := 1) (j := 23) (ls' := [some (zr ((36, 9, 0) : zF)), some (zr ((a1, 3, 0) : zF)), some (zr ((a2, 5, 0) : zF)), some (zi l3), some (zi l4), some (zi (zI h (a1 + 4) i1))]) (st' := [zr ((36, 9, 0) : zF)]) (h' := h) rfl ?_
          refine zc_sr (r := ((38, 20, 50) : zF)) (zrf (a := 36) (y := 1) hR rfl (hρ 36 1 rfl)) rfl ?_
          refine zwp.go (m := 3) (j := 27) (ls' := [some (zr ((36, 9, 0) : zF)), some (zr ((a1, 3, 0) : zF)), some (zr ((a2, 5, 0) : zF)), some (zi l3), some (zi l4), some (zi (zI h (a1 + 4) i1))]) (st' := [zi (10000 : Int32), zi (zI h (a1 + 4) i1), zi l3, zr ((38, 20, 50) : zF)]) (h' := h) rfl ?_
          refine zb_if (j := 30) (j2 := 28) e rfl (fun e => ?_) (fun e => ?_)
          · refine zwp.go (m := 1) (j := 31) (ls' := [some (zr ((36, 9, 0) : zF)), some (zr ((a1, 3, 0) : zF)), some (zr ((a2, 5, 0) : zF)), some (zi l3), some (zi l4), some (zi (zI h (a1 + 4) i1))]) (st' := [zr ((36, 9, 0) : zF), zi l3, zr ((38, 20, 50) : zF)]) (h' := h) rfl ?_
            refine zc_sr (r := ((37, 20, 5) : zF)) (zrf (a := 36) (y := 0) hR rfl (hρ 36 0 rfl)) rfl ?_
            refine zwp.go (m := 3) (j := 35) (ls' := [some (zr ((36, 9, 0) : zF)), some (zr ((a1, 3, 0) : zF)), some (zr ((a2, 5, 0) : zF)), some (zi l3), some (zi l4), some (zi (zI h (a1 + 4) i1))]) (st' := [zi ((zI h (a1 + 4) i1) - (10000 : Int32)), zr ((37, 20, 5) : zF), zi l3, zr ((38, 20, 50) : zF)]) (h' := h) rfl ?_
            refine zc_ai e (fun _ => rfl) (fun i12 e => ?_)
            refine zc_si e (fun _ => rfl) hR (fun h13 hR13 e => ?_)
            refine zwp.go (m := 4) (j := 5) (ls' := [some (zr ((36, 9, 0) : zF)), some (zr ((a1, 3, 0) : zF)), some (zr ((a2, 5, 0) : zF)), some (zi (l3 + (1 : Int32))), some (zi (l4 + (1 : Int32))), some (zi (zI h (a1 + 4) i1))]) (st' := []) (h' := h13) rfl ?_
            refine zwp.fg (a := [some (zr ((36, 9, 0) : zF)), some (zr ((a1, 3, 0) : zF)), some (zr ((a2, 5, 0) : zF)), some (zi (l3 + (1 : Int32))), some (zi (l4 + (1 : Int32))), none]) (And.intro rfl (And.intro rfl (And.intro rfl (And.intro rfl (And.intro rfl trivial))))) ?_
            exact ih (l3 + (1 : Int32)) (l4 + (1 : Int32)) h13 _ hR13 e
          · refine zwp.go (m := 2) (j := 36) (ls' := [some (zr ((36, 9, 0) : zF)), some (zr ((a1, 3, 0) : zF)), some (zr ((a2, 5, 0) : zF)), some (zi l3), some (zi l4), some (zi (zI h (a1 + 4) i1))]) (st' := [zi (zI h (a1 + 4) i1), zi l3, zr ((38, 20, 50) : zF)]) (h' := h) rfl ?_
            refine zc_si e (fun _ => rfl) hR (fun h15 hR15 e => ?_)
            refine zwp.go (m := 4) (j := 5) (ls' := [some (zr ((36, 9, 0) : zF)), some (zr ((a1, 3, 0) : zF)), some (zr ((a2, 5, 0) : zF)), some (zi (l3 + (1 : Int32))), some (zi (l4 + (1 : Int32))), some (zi (zI h (a1 + 4) i1))]) (st' := []) (h' := h15) rfl ?_
            refine zwp.fg (a := [some (zr ((36, 9, 0) : zF)), some (zr ((a1, 3, 0) : zF)), some (zr ((a2, 5, 0) : zF)), some (zi (l3 + (1 : Int32))), some (zi (l4 + (1 : Int32))), none]) (And.intro rfl (And.intro rfl (And.intro rfl (And.intro rfl (And.intro rfl trivial))))) ?_
            exact ih (l3 + (1 : Int32)) (l4 + (1 : Int32)) h15 _ hR15 e
def s_X9_evaluate (a1 : Nat) (a2 : Nat) (h : zH) : Option (Int32 × zH) := s_X9_evaluate_L5 a1 a2 zfu (0 : Int32) (zI h a2 1) h
set_option maxRecDepth 100000 in
theorem s_X9_evaluate_ok (d : Nat) (ρ : Nat → Nat → Option zF) (hρ : zSh ρ) (a1 : Nat) (a2 : Nat) (ha1 : zPlS ρ a1) (h : zH) (res : Int32 × zH) (hR : zRq h ρ) (e : s_X9_evaluate a1 a2 h = some res) : zcl (d + 1) 135 [zr ((36, 9, 0) : zF), zr ((a1, 3, 0) : zF), zr ((a2, 5, 0) : zF)] h (zQi ρ res) := by
  rw [s_X9_evaluate] at e
  refine ⟨zm_X9_evaluate, rfl, ?_⟩
  show zwp (d + 1) zm_X9_evaluate 0 [some (zr ((36, 9, 0) : zF)), some (zr ((a1, 3, 0) : zF)), some (zr ((a2, 5, 0) : zF)), none, none, none] [] h _
  refine zwp.go (m := 5) (j := 5) (ls' := [some (zr ((36, 9, 0) : zF)), some (zr ((a1, 3, 0) : zF)), some (zr ((a2, 5, 0) : zF)), some (zi (0 : Int32)), some (zi (zI h a2 1)), none]) (st' := []) (h' := h) rfl ?_
  exact s_X9_evaluate_L5_ok d ρ hρ a1 a2 ha1 zfu (0 : Int32) (zI h a2 1) h _ hR e
def s_X9_rotOf_J90 (a1 : Nat) (a2 : Nat) (s1 : Int32) (s2 : Int32) (h : zH) : Option (Int32 × zH) := zix s1 5 fun i6 => zlt (zwI h 37 i6 s2) fun h1 => zbd (s_X9_evaluate a1 (a1 + 5) h1) fun v3 h2 => (s_J9_min_7cf53 (20 : Int32) v3 h2).bind fun v4 => (s_J9_max_7cf53 (0 : Int32) v4 h2).bind fun v5 => some (v5, h2)
set_option maxRecDepth 100000 in
theorem s_X9_rotOf_J90_ok (d : Nat) (ρ : Nat → Nat → Option zF) (hρ : zSh ρ) (a1 : Nat) (a2 : Nat) (ha1 : zPlS ρ a1) (ha2 : zStS ρ a2) (s1 : Int32) (s2 : Int32) (h : zH) (res : Int32 × zH) (hR : zRq h ρ) (e : s_X9_rotOf_J90 a1 a2 s1 s2 h = some res) : zwp (d + 2) zm_X9_rotOf 90 [some (zr ((36, 9, 0) : zF)), some (zr ((a1, 3, 0) : zF)), none, none, none, none, none] [zi s2, zi s1, zr ((37, 20, 5) : zF)] h (zQi ρ res) := by
  rw [s_X9_rotOf_J90] at e
  refine zc_si e (fun _ => rfl) hR (fun h1 hR1 e => ?_)
  refine zwp.go (m := 5) (j := 96) (ls' := [some (zr ((36, 9, 0) : zF)), some (zr ((a1, 3, 0) : zF)), none, none, none, none, none]) (st' := [zr ((a1, 3, 0) : zF), zr ((a1, 3, 0) : zF), zr ((36, 9, 0) : zF), zi (20 : Int32), zi (0 : Int32)]) (h' := h1) rfl ?_
  refine zc_sr (r := (((a1 + 5), 5, 0) : zF)) (zrf (a := a1) (y := 4) hR1 rfl ha1.2.2.2.2.2.1) rfl ?_
  refine zc_ci (d := d + 1) e (fun q e => s_X9_evaluate_ok (d + 0) ρ hρ a1 (a1 + 5) ha1 h1 q hR1 e) rfl rfl (fun v3 h2 hR2 e => ?_)
  refine zc_cp (d := d + 1) e (fun q e => s_J9_min_7cf53_ok (d + 1) ρ hρ (20 : Int32) v3 h2 q hR2 e) rfl rfl (fun v4 e => ?_)
  refine zc_cp (d := d + 1) e (fun q e => s_J9_max_7cf53_ok (d + 1) ρ hρ (0 : Int32) v4 h2 q hR2 e) rfl rfl (fun v5 e => ?_)
  cases e
  exact zwp.ret rfl rfl ⟨⟨rfl, rfl⟩, hR2⟩
def s_X9_rotOf_J45 (a1 : Nat) (a2 : Nat) (s0 : Int32) (h : zH) : Option (Int32 × zH) := if s0 = 0 then (some ((1 : Int32), h)) else (some ((2 : Int32), h))
set_option maxRecDepth 100000 in
theorem s_X9_rotOf_J45_ok (d : Nat) (ρ : Nat → Nat → Option zF) (hρ : zSh ρ) (a1 : Nat) (a2 : Nat) (ha1 : zPlS ρ a1) (ha2 : zStS ρ a2) (s0 : Int32) (h : zH) (res : Int32 × zH) (hR : zRq h ρ) (e : s_X9_rotOf_J45 a1 a2 s0 h = some res) : zwp (d + 2) zm_X9_rotOf 45 [none, none, none, none, none, none, none] [zi s0] h (zQi ρ res) := by
  rw [s_X9_rotOf_J45] at e
  refine zwp.go (m := 2) (j := 47) (ls' := [none, none, none, none, none, none, some (zi s0)]) (st' := [zi s0]) (h' := h) rfl ?_
  refine zb_if (j := 50) (j2 := 48) e rfl (fun e => ?_) (fun e => ?_)
  · refine zwp.go (m := 1) (j := 51) (ls' := [none, none, none, none, none, none, some (zi s0)]) (st' := [zi (1 : Int32)]) (h' := h) rfl ?_
    cases e
    exact zwp.ret rfl rfl ⟨⟨rfl, rfl⟩, hR⟩
  · refine zwp.go (m := 2) (j := 51) (ls' := [none, none, none, none, none, none, some (zi s0)]) (st' := [zi (2 : Int32)]) (h' := h) rfl ?_
    cases e
    exact zwp.ret rfl rfl ⟨⟨rfl, rfl⟩, hR⟩
def s_X9_rotOf_J34 (a1 : Nat) (a2 : Nat) (l3 : Int32) (l5 : Int32) (h : zH) : Option (Int32 × zH) := if (zI h a1 6) ≤ (l3 + (1 : Int32)) then (s_X9_rotOf_J45 a1 a2 (0 : Int32) h) else (if ¬ l5 = 0 then (s_X9_rotOf_J45 a1 a2 (0 : Int32) h) else (s_X9_rotOf_J45 a1 a2 (1 : Int32) h))
set_option maxRecDepth 100000 in
theorem s_X9_rotOf_J34_ok (d : Nat) (ρ : Nat → Nat → Option zF) (hρ : zSh ρ) (a1 : Nat) (a2 : Nat) (ha1 : zPlS ρ a1) (ha2 : zStS ρ a2) (l3 : Int32) (l5 : Int32) (h : zH) (res : Int32 × zH) (hR : zRq h ρ) (e : s_X9_rotOf_J34 a1 a2 l3 l5 h = some res) : zwp (d + 2) zm_X9_rotOf 34 [none, some (zr ((a1, 3, 0) : zF)), none, some (zi l3), none, some (zi l5), none] [] h (zQi ρ res) := by
  rw [s_X9_rotOf_J34] at e
  refine zwp.go (m := 5) (j := 39) (ls' := [none, some (zr ((a1, 3, 0) : zF)), none, some (zi l3), none, some (zi l5), none]) (st' := [zi (zI h a1 6), zi (l3 + (1 : Int32))]) (h' := h) rfl ?_
  refine zb_if (j := 44) (j2 := 40) e rfl (fun e => ?_) (fun e => ?_)
  · refine zwp.go (m := 1) (j := 45) (ls' := [none, some (zr ((a1, 3, 0) : zF)), none, some (zi l3), none, some (zi l5), none]) (st' := [zi (0 : Int32)]) (h' := h) rfl ?_
    refine zwp.fg (a := [none, none, none, none, none, none, none]) trivial ?_
    exact s_X9_rotOf_J45_ok d ρ hρ a1 a2 ha1 ha2 (0 : Int32) h _ hR e
  · refine zwp.go (m := 1) (j := 41) (ls' := [none, some (zr ((a1, 3, 0) : zF)), none, some (zi l3), none, some (zi l5), none]) (st' := [zi l5]) (h' := h) rfl ?_
    refine zb_if (j := 44) (j2 := 42) e rfl (fun e => ?_) (fun e => ?_)
    · refine zwp.go (m := 1) (j := 45) (ls' := [none, some (zr ((a1, 3, 0) : zF)), none, some (zi l3), none, some (zi l5), none]) (st' := [zi (0 : Int32)]) (h' := h) rfl ?_
      refine zwp.fg (a := [none, none, none, none, none, none, none]) trivial ?_
      exact s_X9_rotOf_J45_ok d ρ hρ a1 a2 ha1 ha2 (0 : Int32) h _ hR e
    · refine zwp.go (m := 2) (j := 45) (ls' := [none, some (zr ((a1, 3, 0) : zF)), none, some (zi l3), none, some (zi l5), none]) (st' := [zi (1 : Int32)]) (h' := h) rfl ?_
      refine zwp.fg (a := [none, none, none, none, none, none, none]) trivial ?_
      exact s_X9_rotOf_J45_ok d ρ hρ a1 a2 ha1 ha2 (1 : Int32) h _ hR e
def s_X9_rotOf_J25 (a1 : Nat) (a2 : Nat) (l3 : Int32) (l4 : Int32) (s0 : Int32) (h : zH) : Option (Int32 × zH) := if ¬ (zI h (a1 + 5) 0) = 0 then (zix l3 12 fun i1 => zlt (zwI h 37 0 (zI h (a2 + 1) i1)) fun h2 => zlt (zwI h2 37 1 l3) fun h3 => zlt (zwI h3 37 2 (zI h3 a2 6)) fun h4 => zlt (zwI h4 37 3 (l4 + s0)) fun h5 => (s_X8_isPast a2 l3 (zI h5 a1 6) h5).bind fun v6 => if v6 = 0 then (s_X9_rotOf_J90 a1 a2 (4 : Int32) (0 : Int32) h5) else (s_X9_rotOf_J90 a1 a2 (4 : Int32) (1 : Int32) h5)) else (if l3 ≤ 0 then (s_X9_rotOf_J34 a1 a2 l3 s0 h) else (if l4 = 0 then (s_X9_rotOf_J45 a1 a2 (1 : Int32) h) else (s_X9_rotOf_J34 a1 a2 l3 s0 h)))
set_option maxRecDepth 100000 in
theorem s_X9_rotOf_J25_ok (d : Nat) (ρ : Nat → Nat → Option zF) (hρ : zSh ρ) (a1 : Nat) (a2 : Nat) (ha1 : zPlS ρ a1) (ha2 : zStS ρ a2) (l3 : Int32) (l4 : Int32) (s0 : Int32) (h : zH) (res : Int32 × zH) (hR : zRq h ρ) (e : s_X9_rotOf_J25 a1 a2 l3 l4 s0 h = some res) : zwp (d + 2) zm_X9_rotOf 25 [some (zr ((36, 9, 0) : zF)), some (zr ((a1, 3, 0) : zF)), some (zr ((a2, 8, 0) : zF)), some (zi l3), some (zi l4), none, none] [zi s0] h (zQi ρ res) := by
  rw [s_X9_rotOf_J25] at e
  refine zwp.go (m := 2) (j := 27) (ls' := [some (zr ((36, 9, 0) : zF)), some (zr ((a1, 3, 0) : zF)), some (zr ((a2, 8, 0) : zF)), some (zi l3), some (zi l4), some (zi s0), none]) (st' := [zr ((a1, 3, 0) : zF)]) (h' := h) rfl ?_
  refine zc_sr (r := (((a1 + 5), 5, 0) : zF)) (zrf (a := a1) (y := 4) hR rfl ha1.2.2.2.2.2.1) rfl ?_
  refine zwp.go (m := 1) (j := 29) (ls' := [some (zr ((36, 9, 0) : zF)), some (zr ((a1, 3, 0) : zF)), some (zr ((a2, 8, 0) : zF)), some (zi l3), some (zi l4), some (zi s0), none]) (st' := [zi (zI h (a1 + 5) 0)]) (h' := h) rfl ?_
  refine zb_if (j := 52) (j2 := 30) e rfl (fun e => ?_) (fun e => ?_)
  · refine zwp.go (m := 1) (j := 53) (ls' := [some (zr ((36, 9, 0) : zF)), some (zr ((a1, 3, 0) : zF)), some (zr ((a2, 8, 0) : zF)), some (zi l3), some (zi l4), some (zi s0), none]) (st' := [zr ((36, 9, 0) : zF)]) (h' := h) rfl ?_
    refine zc_sr (r := ((37, 20, 5) : zF)) (zrf (a := 36) (y := 0) hR rfl (hρ 36 0 rfl)) rfl ?_
    refine zwp.go (m := 2) (j := 56) (ls' := [some (zr ((36, 9, 0) : zF)), some (zr ((a1, 3, 0) : zF)), some (zr ((a2, 8, 0) : zF)), some (zi l3), some (zi l4), some (zi s0), none]) (st' := [zr ((a2, 8, 0) : zF), zi (0 : Int32), zr ((37, 20, 5) : zF)]) (h' := h) rfl ?_
    refine zc_sr (r := (((a2 + 1), 20, 12) : zF)) (zrf (a := a2) (y := 0) hR rfl ha2.2.1) rfl ?_
    refine zwp.go (m := 1) (j := 58) (ls' := [some (zr ((36, 9, 0) : zF)), some (zr ((a1, 3, 0) : zF)), some (zr ((a2, 8, 0) : zF)), some (zi l3), some (zi l4), some (zi s0), none]) (st' := [zi l3, zr (((a2 + 1), 20, 12) : zF), zi (0 : Int32), zr ((37, 20, 5) : zF)]) (h' := h) rfl ?_
    refine zc_ai e (fun _ => rfl) (fun i1 e => ?_)
    refine zc_w e rfl hR (fun h2 hR2 e => ?_)
    refine zwp.go (m := 1) (j := 61) (ls' := [some (zr ((36, 9, 0) : zF)), some (zr ((a1, 3, 0) : zF)), some (zr ((a2, 8, 0) : zF)), some (zi l3), some (zi l4), some (zi s0), none]) (st' := [zr ((36, 9, 0) : zF)]) (h' := h2) rfl ?_
    refine zc_sr (r := ((37, 20, 5) : zF)) (zrf (a := 36) (y := 0) hR2 rfl (hρ 36 0 rfl)) rfl ?_
    refine zwp.go (m := 2) (j := 64) (ls' := [some (zr ((36, 9, 0) : zF)), some (zr ((a1, 3, 0) : zF)), some (zr ((a2, 8, 0) : zF)), some (zi l3), some (zi l4), some (zi s0), none]) (st' := [zi l3, zi (1 : Int32), zr ((37, 20, 5) : zF)]) (h' := h2) rfl ?_
    refine zc_w e rfl hR2 (fun h3 hR3 e => ?_)
    refine zwp.go (m := 1) (j := 66) (ls' := [some (zr ((36, 9, 0) : zF)), some (zr ((a1, 3, 0) : zF)), some (zr ((a2, 8, 0) : zF)), some (zi l3), some (zi l4), some (zi s0), none]) (st' := [zr ((36, 9, 0) : zF)]) (h' := h3) rfl ?_
    refine zc_sr (r := ((37, 20, 5) : zF)) (zrf (a := 36) (y := 0) hR3 rfl (hρ 36 0 rfl)) rfl ?_
    refine zwp.go (m := 3) (j := 70) (ls' := [some (zr ((36, 9, 0) : zF)), some (zr ((a1, 3, 0) : zF)), some (zr ((a2, 8, 0) : zF)), some (zi l3), some (zi l4), some (zi s0), none]) (st' := [zi (zI h3 a2 6), zi (2 : Int32), zr ((37, 20, 5) : zF)]) (h' := h3) rfl ?_
    refine zc_w e rfl hR3 (fun h4 hR4 e => ?_)
    refine zwp.go (m := 1) (j := 72) (ls' := [some (zr ((36, 9, 0) : zF)), some (zr ((a1, 3, 0) : zF)), some (zr ((a2, 8, 0) : zF)), some (zi l3), some (zi l4), some (zi s0), none]) (st' := [zr ((36, 9, 0) : zF)]) (h' := h4) rfl ?_
    refine zc_sr (r := ((37, 20, 5) : zF)) (zrf (a := 36) (y := 0) hR4 rfl (hρ 36 0 rfl)) rfl ?_
    refine zwp.go (m := 4) (j := 77) (ls' := [some (zr ((36, 9, 0) : zF)), some (zr ((a1, 3, 0) : zF)), some (zr ((a2, 8, 0) : zF)), some (zi l3), some (zi l4), some (zi s0), none]) (st' := [zi (l4 + s0), zi (3 : Int32), zr ((37, 20, 5) : zF)]) (h' := h4) rfl ?_
    refine zc_w e rfl hR4 (fun h5 hR5 e => ?_)
    refine zwp.go (m := 1) (j := 79) (ls' := [some (zr ((36, 9, 0) : zF)), some (zr ((a1, 3, 0) : zF)), some (zr ((a2, 8, 0) : zF)), some (zi l3), some (zi l4), some (zi s0), none]) (st' := [zr ((36, 9, 0) : zF)]) (h' := h5) rfl ?_
    refine zc_sr (r := ((37, 20, 5) : zF)) (zrf (a := 36) (y := 0) hR5 rfl (hρ 36 0 rfl)) rfl ?_
    refine zwp.go (m := 5) (j := 85) (ls' := [some (zr ((36, 9, 0) : zF)), some (zr ((a1, 3, 0) : zF)), some (zr ((a2, 8, 0) : zF)), some (zi l3), some (zi l4), some (zi s0), none]) (st' := [zi (zI h5 a1 6), zi l3, zr ((a2, 8, 0) : zF), zi (4 : Int32), zr ((37, 20, 5) : zF)]) (h' := h5) rfl ?_
    refine zc_cp (d := d + 1) e (fun q e => s_X8_isPast_ok (d + 1) ρ hρ a2 l3 (zI h5 a1 6) ha2 h5 q hR5 e) rfl rfl (fun v6 e => ?_)
    refine zb_if (j := 89) (j2 := 87) e rfl (fun e => ?_) (fun e => ?_)
    · refine zwp.go (m := 1) (j := 90) (ls' := [some (zr ((36, 9, 0) : zF)), some (zr ((a1, 3, 0) : zF)), some (zr ((a2, 8, 0) : zF)), some (zi l3), some (zi l4), some (zi s0), none]) (st' := [zi (0 : Int32), zi (4 : Int32), zr ((37, 20, 5) : zF)]) (h' := h5) rfl ?_
      refine zwp.fg (a := [some (zr ((36, 9, 0) : zF)), some (zr ((a1, 3, 0) : zF)), none, none, none, none, none]) (And.intro rfl (And.intro rfl trivial)) ?_
      exact s_X9_rotOf_J90_ok d ρ hρ a1 a2 ha1 ha2 (4 : Int32) (0 : Int32) h5 _ hR5 e
    · refine zwp.go (m := 2) (j := 90) (ls' := [some (zr ((36, 9, 0) : zF)), some (zr ((a1, 3, 0) : zF)), some (zr ((a2, 8, 0) : zF)), some (zi l3), some (zi l4), some (zi s0), none]) (st' := [zi (1 : Int32), zi (4 : Int32), zr ((37, 20, 5) : zF)]) (h' := h5) rfl ?_
      refine zwp.fg (a := [some (zr ((36, 9, 0) : zF)), some (zr ((a1, 3, 0) : zF)), none, none, none, none, none]) (And.intro rfl (And.intro rfl trivial)) ?_
      exact s_X9_rotOf_J90_ok d ρ hρ a1 a2 ha1 ha2 (4 : Int32) (1 : Int32) h5 _ hR5 e
  · refine zwp.go (m := 1) (j := 31) (ls' := [some (zr ((36, 9, 0) : zF)), some (zr ((a1, 3, 0) : zF)), some (zr ((a2, 8, 0) : zF)), some (zi l3), some (zi l4), some (zi s0), none]) (st' := [zi l3]) (h' := h) rfl ?_
    refine zb_if (j := 34) (j2 := 32) e rfl (fun e => ?_) (fun e => ?_)
    · refine zwp.fg (a := [none, some (zr ((a1, 3, 0) : zF)), none, some (zi l3), none, some (zi s0), none]) (And.intro rfl (And.intro rfl (And.intro rfl trivial))) ?_
      exact s_X9_rotOf_J34_ok d ρ hρ a1 a2 ha1 ha2 l3 s0 h _ hR e
    · refine zwp.go (m := 1) (j := 33) (ls' := [some (zr ((36, 9, 0) : zF)), some (zr ((a1, 3, 0) : zF)), some (zr ((a2, 8, 0) : zF)), some (zi l3), some (zi l4), some (zi s0), none]) (st' := [zi l4]) (h' := h) rfl ?_
      refine zb_if (j := 42) (j2 := 34) e rfl (fun e => ?_) (fun e => ?_)
      · refine zwp.go (m := 2) (j := 45) (ls' := [some (zr ((36, 9, 0) : zF)), some (zr ((a1, 3, 0) : zF)), some (zr ((a2, 8, 0) : zF)), some (zi l3), some (zi l4), some (zi s0), none]) (st' := [zi (1 : Int32)]) (h' := h) rfl ?_
        refine zwp.fg (a := [none, none, none, none, none, none, none]) trivial ?_
        exact s_X9_rotOf_J45_ok d ρ hρ a1 a2 ha1 ha2 (1 : Int32) h _ hR e
      · refine zwp.fg (a := [none, some (zr ((a1, 3, 0) : zF)), none, some (zi l3), none, some (zi s0), none]) (And.intro rfl (And.intro rfl (And.intro rfl trivial))) ?_
        exact s_X9_rotOf_J34_ok d ρ hρ a1 a2 ha1 ha2 l3 s0 h _ hR e
def s_X9_rotOf_J10 (a1 : Nat) (a2 : Nat) (l3 : Int32) (s0 : Int32) (h : zH) : Option (Int32 × zH) := if (zI h a1 6) ≤ (l3 + (1 : Int32)) then (s_X9_rotOf_J25 a1 a2 l3 s0 (0 : Int32) h) else (zix (l3 + (1 : Int32)) 12 fun i1 => s_X9_rotOf_J25 a1 a2 l3 s0 (zI h (a2 + 1) i1) h)
set_option maxRecDepth 100000 in
theorem s_X9_rotOf_J10_ok (d : Nat) (ρ : Nat → Nat → Option zF) (hρ : zSh ρ) (a1 : Nat) (a2 : Nat) (ha1 : zPlS ρ a1) (ha2 : zStS ρ a2) (l3 : Int32) (s0 : Int32) (h : zH) (res : Int32 × zH) (hR : zRq h ρ) (e : s_X9_rotOf_J10 a1 a2 l3 s0 h = some res) : zwp (d + 2) zm_X9_rotOf 10 [some (zr ((36, 9, 0) : zF)), some (zr ((a1, 3, 0) : zF)), some (zr ((a2, 8, 0) : zF)), some (zi l3), none, none, none] [zi s0] h (zQi ρ res) := by
  rw [s_X9_rotOf_J10] at e
  refine zwp.go (m := 6) (j := 16) (ls' := [some (zr ((36, 9, 0) : zF)), some (zr ((a1, 3, 0) : zF)), some (zr ((a2, 8, 0) : zF)), some (zi l3), some (zi s0), none, none]) (st' := [zi (zI h a1 6), zi (l3 + (1 : Int32))]) (h' := h) rfl ?_
  refine zb_if (j := 24) (j2 := 17) e rfl (fun e => ?_) (fun e => ?_)
  · refine zwp.go (m := 1) (j := 25) (ls' := [some (zr ((36, 9, 0) : zF)), some (zr ((a1, 3, 0) : zF)), some (zr ((a2, 8, 0) : zF)), some (zi l3), some (zi s0), none, none]) (st' := [zi (0 : Int32)]) (h' := h) rfl ?_
    exact s_X9_rotOf_J25_ok d ρ hρ a1 a2 ha1 ha2 l3 s0 (0 : Int32) h _ hR e
  · refine zwp.go (m := 1) (j := 18) (ls' := [some (zr ((36, 9, 0) : zF)), some (zr ((a1, 3, 0) : zF)), some (zr ((a2, 8, 0) : zF)), some (zi l3), some (zi s0), none, none]) (st' := [zr ((a2, 8, 0) : zF)]) (h' := h) rfl ?_
    refine zc_sr (r := (((a2 + 1), 20, 12) : zF)) (zrf (a := a2) (y := 0) hR rfl ha2.2.1) rfl ?_
    refine zwp.go (m := 3) (j := 22) (ls' := [some (zr ((36, 9, 0) : zF)), some (zr ((a1, 3, 0) : zF)), some (zr ((a2, 8, 0) : zF)), some (zi l3), some (zi s0), none, none]) (st' := [zi (l3 + (1 : Int32)), zr (((a2 + 1), 20, 12) : zF)]) (h' := h) rfl ?_
    refine zc_ai e (fun _ => rfl) (fun i1 e => ?_)
    refine zwp.go (m := 1) (j := 25) (ls' := [some (zr ((36, 9, 0) : zF)), some (zr ((a1, 3, 0) : zF)), some (zr ((a2, 8, 0) : zF)), some (zi l3), some (zi s0), none, none]) (st' := [zi (zI h (a2 + 1) i1)]) (h' := h) rfl ?_
    exact s_X9_rotOf_J25_ok d ρ hρ a1 a2 ha1 ha2 l3 s0 (zI h (a2 + 1) i1) h _ hR e
def s_X9_rotOf (a1 : Nat) (a2 : Nat) (a3 : Int32) (h : zH) : Option (Int32 × zH) := if a3 ≤ 0 then (s_X9_rotOf_J10 a1 a2 a3 (0 : Int32) h) else (zix (a3 - (1 : Int32)) 12 fun i1 => s_X9_rotOf_J10 a1 a2 a3 (zI h (a2 + 1) i1) h)
set_option maxRecDepth 100000 in
theorem s_X9_rotOf_ok (d : Nat) (ρ : Nat → Nat → Option zF) (hρ : zSh ρ) (a1 : Nat) (a2 : Nat) (a3 : Int32) (ha1 : zPlS ρ a1) (ha2 : zStS ρ a2) (h : zH) (res : Int32 × zH) (hR : zRq h ρ) (e : s_X9_rotOf a1 a2 a3 h = some res) : zcl (d + 2) 136 [zr ((36, 9, 0) : zF), zr ((a1, 3, 0) : zF), zr ((a2, 8, 0) : zF), zi a3] h (zQi ρ res) := by
  rw [s_X9_rotOf] at e
  refine ⟨zm_X9_rotOf, rfl, ?_⟩
  show zwp (d + 2) zm_X9_rotOf 0 [some (zr ((36, 9, 0) : zF)), some (zr ((a1, 3, 0) : zF)), some (zr ((a2, 8, 0) : zF)), some (zi a3), none, none, none] [] h _
  refine zwp.go (m := 1) (j := 1) (ls' := [some (zr ((36, 9, 0) : zF)), some (zr ((a1, 3, 0) : zF)), some (zr ((a2, 8, 0) : zF)), some (zi a3), none, none, none]) (st' := [zi a3]) (h' := h) rfl ?_
  refine zb_if (j := 9) (j2 := 2) e rfl (fun e => ?_) (fun e => ?_)
  · refine zwp.go (m := 1) (j := 10) (ls' := [some (zr ((36, 9, 0) : zF)), some (zr ((a1, 3, 0) : zF)), some (zr ((a2, 8, 0) : zF)), some (zi a3), none, none, none]) (st' := [zi (0 : Int32)]) (h' := h) rfl ?_
    exact s_X9_rotOf_J10_ok d ρ hρ a1 a2 ha1 ha2 a3 (0 : Int32) h _ hR e
  · refine zwp.go (m := 1) (j := 3) (ls' := [some (zr ((36, 9, 0) : zF)), some (zr ((a1, 3, 0) : zF)), some (zr ((a2, 8, 0) : zF)), some (zi a3), none, none, none]) (st' := [zr ((a2, 8, 0) : zF)]) (h' := h) rfl ?_
    refine zc_sr (r := (((a2 + 1), 20, 12) : zF)) (zrf (a := a2) (y := 0) hR rfl ha2.2.1) rfl ?_
    refine zwp.go (m := 3) (j := 7) (ls' := [some (zr ((36, 9, 0) : zF)), some (zr ((a1, 3, 0) : zF)), some (zr ((a2, 8, 0) : zF)), some (zi a3), none, none, none]) (st' := [zi (a3 - (1 : Int32)), zr (((a2 + 1), 20, 12) : zF)]) (h' := h) rfl ?_
    refine zc_ai e (fun _ => rfl) (fun i1 e => ?_)
    refine zwp.go (m := 1) (j := 10) (ls' := [some (zr ((36, 9, 0) : zF)), some (zr ((a1, 3, 0) : zF)), some (zr ((a2, 8, 0) : zF)), some (zi a3), none, none, none]) (st' := [zi (zI h (a2 + 1) i1)]) (h' := h) rfl ?_
    exact s_X9_rotOf_J10_ok d ρ hρ a1 a2 ha1 ha2 a3 (zI h (a2 + 1) i1) h _ hR e
def s_X9_paceOf_J59 (a1 : Nat) (a2 : Nat) (l3 : Int32) (l4 : Int32) (s0 : Int32) (h : zH) : Option (Int32 × zH) := zix s0 12 fun i1 => zlt (zwI h 37 0 (zI h (a2 + 1) i1)) fun h2 => zlt (zwI h2 37 1 s0) fun h3 => zlt (zwI h3 37 2 (zI h3 a2 6)) fun h4 => zix l3 2 fun i5 => zlt (zwI h4 37 3 (zI h4 (a2 + 2) i5)) fun h6 => zlt (zwI h6 37 4 l4) fun h7 => zbd (s_X9_evaluate a1 (a1 + 6) h7) fun v9 h8 => (s_J9_min_7cf53 (5 : Int32) v9 h8).bind fun v10 => (s_J9_max_7cf53 (0 : Int32) v10 h8).bind fun v11 => some (v11, h8)
set_option maxRecDepth 100000 in
theorem s_X9_paceOf_J59_ok (d : Nat) (ρ : Nat → Nat → Option zF) (hρ : zSh ρ) (a1 : Nat) (a2 : Nat) (ha1 : zPlS ρ a1) (ha2 : zStS ρ a2) (l3 : Int32) (l4 : Int32) (s0 : Int32) (h : zH) (res : Int32 × zH) (hR : zRq h ρ) (e : s_X9_paceOf_J59 a1 a2 l3 l4 s0 h = some res) : zwp (d + 2) zm_X9_paceOf 59 [some (zr ((36, 9, 0) : zF)), some (zr ((a1, 3, 0) : zF)), some (zr ((a2, 8, 0) : zF)), some (zi l3), some (zi l4), none, none, none] [zi s0] h (zQi ρ res) := by
  rw [s_X9_paceOf_J59] at e
  refine zwp.go (m := 2) (j := 61) (ls' := [some (zr ((36, 9, 0) : zF)), some (zr ((a1, 3, 0) : zF)), some (zr ((a2, 8, 0) : zF)), some (zi l3), some (zi l4), none, none, some (zi s0)]) (st' := [zr ((36, 9, 0) : zF)]) (h' := h) rfl ?_
  refine zc_sr (r := ((37, 20, 5) : zF)) (zrf (a := 36) (y := 0) hR rfl (hρ 36 0 rfl)) rfl ?_
  refine zwp.go (m := 2) (j := 64) (ls' := [some (zr ((36, 9, 0) : zF)), some (zr ((a1, 3, 0) : zF)), some (zr ((a2, 8, 0) : zF)), some (zi l3), some (zi l4), none, none, some (zi s0)]) (st' := [zr ((a2, 8, 0) : zF), zi (0 : Int32), zr ((37, 20, 5) : zF)]) (h' := h) rfl ?_
  refine zc_sr (r := (((a2 + 1), 20, 12) : zF)) (zrf (a := a2) (y := 0) hR rfl ha2.2.1) rfl ?_
  refine zwp.go (m := 1) (j := 66) (ls' := [some (zr ((36, 9, 0) : zF)), some (zr ((a1, 3, 0) : zF)), some (zr ((a2, 8, 0) : zF)), some (zi l3), some (zi l4), none, none, some (zi s0)]) (st' := [zi s0, zr (((a2 + 1), 20, 12) : zF), zi (0 : Int32), zr ((37, 20, 5) : zF)]) (h' := h) rfl ?_
  refine zc_ai e (fun _ => rfl) (fun i1 e => ?_)
  refine zc_w e rfl hR (fun h2 hR2 e => ?_)
  refine zwp.go (m := 1) (j := 69) (ls' := [some (zr ((36, 9, 0) : zF)), some (zr ((a1, 3, 0) : zF)), some (zr ((a2, 8, 0) : zF)), some (zi l3), some (zi l4), none, none, some (zi s0)]) (st' := [zr ((36, 9, 0) : zF)]) (h' := h2) rfl ?_
  refine zc_sr (r := ((37, 20, 5) : zF)) (zrf (a := 36) (y := 0) hR2 rfl (hρ 36 0 rfl)) rfl ?_
  refine zwp.go (m := 2) (j := 72) (ls' := [some (zr ((36, 9, 0) : zF)), some (zr ((a1, 3, 0) : zF)), some (zr ((a2, 8, 0) : zF)), some (zi l3), some (zi l4), none, none, some (zi s0)]) (st' := [zi s0, zi (1 : Int32), zr ((37, 20, 5) : zF)]) (h' := h2) rfl ?_
  refine zc_w e rfl hR2 (fun h3 hR3 e => ?_)
  refine zwp.go (m := 1) (j := 74) (ls' := [some (zr ((36, 9, 0) : zF)), some (zr ((a1, 3, 0) : zF)), some (zr ((a2, 8, 0) : zF)), some (zi l3), some (zi l4), none, none, some (zi s0)]) (st' := [zr ((36, 9, 0) : zF)]) (h' := h3) rfl ?_
  refine zc_sr (r := ((37, 20, 5) : zF)) (zrf (a := 36) (y := 0) hR3 rfl (hρ 36 0 rfl)) rfl ?_
  refine zwp.go (m := 3) (j := 78) (ls' := [some (zr ((36, 9, 0) : zF)), some (zr ((a1, 3, 0) : zF)), some (zr ((a2, 8, 0) : zF)), some (zi l3), some (zi l4), none, none, some (zi s0)]) (st' := [zi (zI h3 a2 6), zi (2 : Int32), zr ((37, 20, 5) : zF)]) (h' := h3) rfl ?_
  refine zc_w e rfl hR3 (fun h4 hR4 e => ?_)
  refine zwp.go (m := 1) (j := 80) (ls' := [some (zr ((36, 9, 0) : zF)), some (zr ((a1, 3, 0) : zF)), some (zr ((a2, 8, 0) : zF)), some (zi l3), some (zi l4), none, none, some (zi s0)]) (st' := [zr ((36, 9, 0) : zF)]) (h' := h4) rfl ?_
  refine zc_sr (r := ((37, 20, 5) : zF)) (zrf (a := 36) (y := 0) hR4 rfl (hρ 36 0 rfl)) rfl ?_
  refine zwp.go (m := 2) (j := 83) (ls' := [some (zr ((36, 9, 0) : zF)), some (zr ((a1, 3, 0) : zF)), some (zr ((a2, 8, 0) : zF)), some (zi l3), some (zi l4), none, none, some (zi s0)]) (st' := [zr ((a2, 8, 0) : zF), zi (3 : Int32), zr ((37, 20, 5) : zF)]) (h' := h4) rfl ?_
  refine zc_sr (r := (((a2 + 2), 20, 2) : zF)) (zrf (a := a2) (y := 1) hR4 rfl ha2.2.2.1) rfl ?_
  refine zwp.go (m := 1) (j := 85) (ls' := [some (zr ((36, 9, 0) : zF)), some (zr ((a1, 3, 0) : zF)), some (zr ((a2, 8, 0) : zF)), some (zi l3), some (zi l4), none, none, some (zi s0)]) (st' := [zi l3, zr (((a2 + 2), 20, 2) : zF), zi (3 : Int32), zr ((37, 20, 5) : zF)]) (h' := h4) rfl ?_
  refine zc_ai e (fun _ => rfl) (fun i5 e => ?_)
  refine zc_w e rfl hR4 (fun h6 hR6 e => ?_)
  refine zwp.go (m := 1) (j := 88) (ls' := [some (zr ((36, 9, 0) : zF)), some (zr ((a1, 3, 0) : zF)), some (zr ((a2, 8, 0) : zF)), some (zi l3), some (zi l4), none, none, some (zi s0)]) (st' := [zr ((36, 9, 0) : zF)]) (h' := h6) rfl ?_
  refine zc_sr (r := ((37, 20, 5) : zF)) (zrf (a := 36) (y := 0) hR6 rfl (hρ 36 0 rfl)) rfl ?_
  refine zwp.go (m := 2) (j := 91) (ls' := [some (zr ((36, 9, 0) : zF)), some (zr ((a1, 3, 0) : zF)), some (zr ((a2, 8, 0) : zF)), some (zi l3), some (zi l4), none, none, some (zi s0)]) (st' := [zi l4, zi (4 : Int32), zr ((37, 20, 5) : zF)]) (h' := h6) rfl ?_
  refine zc_w e rfl hR6 (fun h7 hR7 e => ?_)
  refine zwp.go (m := 5) (j := 97) (ls' := [some (zr ((36, 9, 0) : zF)), some (zr ((a1, 3, 0) : zF)), some (zr ((a2, 8, 0) : zF)), some (zi l3), some (zi l4), none, none, some (zi s0)]) (st' := [zr ((a1, 3, 0) : zF), zr ((a1, 3, 0) : zF), zr ((36, 9, 0) : zF), zi (5 : Int32), zi (0 : Int32)]) (h' := h7) rfl ?_
  refine zc_sr (r := (((a1 + 6), 5, 0) : zF)) (zrf (a := a1) (y := 5) hR7 rfl ha1.2.2.2.2.2.2) rfl ?_
  refine zc_ci (d := d + 1) e (fun q e => s_X9_evaluate_ok (d + 0) ρ hρ a1 (a1 + 6) ha1 h7 q hR7 e) rfl rfl (fun v9 h8 hR8 e => ?_)
  refine zc_cp (d := d + 1) e (fun q e => s_J9_min_7cf53_ok (d + 1) ρ hρ (5 : Int32) v9 h8 q hR8 e) rfl rfl (fun v10 e => ?_)
  refine zc_cp (d := d + 1) e (fun q e => s_J9_max_7cf53_ok (d + 1) ρ hρ (0 : Int32) v10 h8 q hR8 e) rfl rfl (fun v11 e => ?_)
  cases e
  exact zwp.ret rfl rfl ⟨⟨rfl, rfl⟩, hR8⟩
def s_X9_paceOf_L11 (a1 : Nat) (a2 : Nat) : Nat → Int32 → Int32 → Int32 → Int32 → Int32 → zH → Option (Int32 × zH)
  | 0, _, _, _, _, _, _ => none
  | n + 1, l3, l4, l5, l6, l7, h => if ((zI h a1 6) - (zI h (a2 + 3) 1)) ≤ l7 then (if ¬ l4 = 0 then (if ¬ (zI h (a1 + 6) 0) = 0 then (if ¬ l3 = 0 then (s_X9_paceOf_J59 a1 a2 l3 l4 l6 h) else (s_X9_paceOf_J59 a1 a2 l3 l4 l5 h)) else (zix l3 2 fun i1 => (zdv (zI h (a2 + 2) i1) (4 : Int32)).bind fun v2 => some (((1 : Int32) + v2), h))) else (some ((0 : Int32), h))) else (zix l7 12 fun i3 => if (zI h (a2 + 1) i3) ≤ 0 then (s_X9_paceOf_L11 a1 a2 n l3 l4 l5 l6 (l7 + (1 : Int32)) h) else (if ¬ l5 = (-1 : Int32) then (s_X9_paceOf_L11 a1 a2 n l3 (l4 + (1 : Int32)) l5 l7 (l7 + (1 : Int32)) h) else (s_X9_paceOf_L11 a1 a2 n l3 (l4 + (1 : Int32)) l7 l7 (l7 + (1 : Int32)) h)))
set_option maxRecDepth 100000 in
theorem s_X9_paceOf_L11_ok (d : Nat) (ρ : Nat → Nat → Option zF) (hρ : zSh ρ) (a1 : Nat) (a2 : Nat) (ha1 : zPlS ρ a1) (ha2 : zStS ρ a2) : ∀ (n : Nat) (l3 : Int32) (l4 : Int32) (l5 : Int32) (l6 : Int32) (l7 : Int32) (h : zH) (res : Int32 × zH) (hR : zRq h ρ) (e : s_X9_paceOf_L11 a1 a2 n l3 l4 l5 l6 l7 h = some res), zwp (d + 2) zm_X9_paceOf 11 [some (zr ((36, 9, 0) : zF)), some (zr ((a1, 3, 0) : zF)), some (zr ((a2, 8, 0) : zF)), some (zi l3), some (zi l4), some (zi l5), some (zi l6), some (zi l7)] [] h (zQi ρ res) := by
  intro n
  induction n with
  | zero => intro l3 l4 l5 l6 l7 h res hR e; cases e
  | succ n ih =>
    intro l3 l4 l5 l6 l7 h res hR e
    rw [s_X9_paceOf_L11] at e
    refine zwp.go (m := 4) (j := 15) (ls' := [some (zr ((36, 9, 0) : zF)), some (zr ((a1, 3, 0) : zF)), some (zr ((a2, 8, 0) : zF)), some (zi l3), some (zi l4), some (zi l5), some (zi l6), some (zi l7)]) (st' := [zr ((a2, 8, 0) : zF), zi (zI h a1 6), zi l7]) (h' := h) rfl ?_
    refine zc_sr (r := (((a2 + 3), 20, 2) : zF)) (zrf (a := a2) (y := 2) hR rfl ha2.2.2.2.1) rfl ?_
    refine zwp.go (m := 3) (j := 19) (ls' := [some (zr ((36, 9, 0) : zF)), some (zr ((a1, 3, 0) : zF)), some (zr ((a2, 8, 0) : zF)), some (zi l3), some (zi l4), some (zi l5), some (zi l6), some (zi l7)]) (st' := [zi ((zI h a1 6) - (zI h (a2 + 3) 1)), zi l7]) (h' := h) rfl ?_
    refine zb_if (j := 37) (j2 := 20) e rfl (fun e => ?_) (fun e => ?_)
    · refine zwp.go (m := 1) (j := 38) (ls' := [some (zr ((36, 9, 0) : zF)), some (zr ((a1, 3, 0) : zF)), some (zr ((a2, 8, 0) : zF)), some (zi l3), some (zi l4), some (zi l5), some (zi l6), some (zi l7)]) (st' := [zi l4]) (h' := h) rfl ?_
      refine zb_if (j := 41) (j2 := 39) e rfl (fun e => ?_) (fun e => ?_)
      · refine zwp.go (m := 1) (j := 42) (ls' := [some (zr ((36, 9, 0) : zF)), some (zr ((a1, 3, 0) : zF)), some (zr ((a2, 8, 0) : zF)), some (zi l3), some (zi l4), some (zi l5), some (zi l6), some (zi l7)]) (st' := [zr ((a1, 3, 0) : zF)]) (h' := h) rfl ?_
        refine zc_sr (r := (((a1 + 6), 5, 0) : zF)) (zrf (a := a1) (y := 5) hR rfl ha1.2.2.2.2.2.2) rfl ?_
        refine zwp.go (m := 1) (j := 44) (ls' := [some (zr ((36, 9, 0) : zF)), some (zr ((a1, 3, 0) : zF)), some (zr ((a2, 8, 0) : zF)), some (zi l3), some (zi l4), some (zi l5), some (zi l6), some (zi l7)]) (st' := [zi (zI h (a1 + 6) 0)]) (h' := h) rfl ?_
        refine zb_if (j := 54) (j2 := 45) e rfl (fun e => ?_) (fun e => ?_)
        · refine zwp.go (m := 1) (j := 55) (ls' := [some (zr ((36, 9, 0) : zF)), some (zr ((a1, 3, 0) : zF)), some (zr ((a2, 8, 0) : zF)), some (zi l3), some (zi l4), some (zi l5), some (zi l6), some (zi l7)]) (st' := [zi l3]) (h' := h) rfl ?_
          refine zb_if (j := 58) (j2 := 56) e rfl (fun e => ?_) (fun e => ?_)
          · refine zwp.go (m := 1) (j := 59) (ls' := [some (zr ((36, 9, 0) : zF)), some (zr ((a1, 3, 0) : zF)), some (zr ((a2, 8, 0) : zF)), some (zi l3), some (zi l4), some (zi l5), some (zi l6), some (zi l7)]) (st' := [zi l6]) (h' := h) rfl ?_
            refine zwp.fg (a := [some (zr ((36, 9, 0) : zF)), some (zr ((a1, 3, 0) : zF)), some (zr ((a2, 8, 0) : zF)), some (zi l3), some (zi l4), none, none, none]) (And.intro rfl (And.intro rfl (And.intro rfl (And.intro rfl (And.intro rfl trivial))))) ?_
            exact s_X9_paceOf_J59_ok d ρ hρ a1 a2 ha1 ha2 l3 l4 l6 h _ hR e
          · refine zwp.go (m := 2) (j := 59) (ls' := [some (zr ((36, 9, 0) : zF)), some (zr ((a1, 3, 0) : zF)), some (zr ((a2, 8, 0) : zF)), some (zi l3), some (zi l4), some (zi l5), some (zi l6), some (zi l7)]) (st' := [zi l5]) (h' := h) rfl ?_
            refine zwp.fg (a := [some (zr ((36, 9, 0) : zF)), some (zr ((a1, 3, 0) : zF)), some (zr ((a2, 8, 0) : zF)), some (zi l3), some (zi l4), none, none, none]) (And.intro rfl (And.intro rfl (And.intro rfl (And.intro rfl (And.intro rfl trivial))))) ?_
            exact s_X9_paceOf_J59_ok d ρ hρ a1 a2 ha1 ha2 l3 l4 l5 h _ hR e
        · refine zwp.go (m := 2) (j := 47) (ls' := [some (zr ((36, 9, 0) : zF)), some (zr ((a1, 3, 0) : zF)), some (zr ((a2, 8, 0) : zF)), some (zi l3), some (zi l4), some (zi l5), some (zi l6), some (zi l7)]) (st' := [zr ((a2, 8, 0) : zF), zi (1 : Int32)]) (h' := h) rfl ?_
          refine zc_sr (r := (((a2 + 2), 20, 2) : zF)) (zrf (a := a2) (y := 1) hR rfl ha2.2.2.1) rfl ?_
          refine zwp.go (m := 1) (j := 49) (ls' := [some (zr ((36, 9, 0) : zF)), some (zr ((a1, 3, 0) : zF)), some (zr ((a2, 8, 0) : zF)), some (zi l3), some (zi l4), some (zi l5), some (zi l6), some (zi l7)]) (st' := [zi l3, zr (((a2 + 2), 20, 2) : zF), zi (1 : Int32)]) (h' := h) rfl ?_
          refine zc_ai e (fun _ => rfl) (fun i1 e => ?_)
          refine zwp.go (m := 1) (j := 51) (ls' := [some (zr ((36, 9, 0) : zF)), some (zr ((a1, 3, 0) : zF)), some (zr ((a2, 8, 0) : zF)), some (zi l3), some (zi l4), some (zi l5), some (zi l6), some (zi l7)]) (st' := [zi (4 : Int32), zi (zI h (a2 + 2) i1), zi (1 : Int32)]) (h' := h) rfl ?_
          refine zb_dv e rfl (fun v2 e => ?_)
          refine zwp.go (m := 1) (j := 53) (ls' := [some (zr ((36, 9, 0) : zF)), some (zr ((a1, 3, 0) : zF)), some (zr ((a2, 8, 0) : zF)), some (zi l3), some (zi l4), some (zi l5), some (zi l6), some (zi l7)]) (st' := [zi ((1 : Int32) + v2)]) (h' := h) rfl ?_
          cases e
          exact zwp.ret rfl rfl ⟨⟨rfl, rfl⟩, hR⟩
      · refine zwp.go (m := 1) (j := 40) (ls' := [some (zr ((36, 9, 0) : zF)), some (zr ((a1, 3, 0) : zF)), some (zr ((a2, 8, 0) : zF)), some (zi l3), some (zi l4), some (zi l5), some (zi l6), some (zi l7)]) (st' := [zi (0 : Int32)]) (h' := h) rfl ?_
        cases e
        exact zwp.ret rfl rfl ⟨⟨rfl, rfl⟩, hR⟩
    · refine zwp.go (m := 1) (j := 21) (ls' := [some (zr ((36, 9, 0) : zF)), some (zr ((a1, 3, 0) : zF)), some (zr ((a2, 8, 0) : zF)), some (zi l3), some (zi l4), some (zi l5), some (zi l6), some (zi l7)]) (st' := [zr ((a2, 8, 0) : zF)]) (h' := h) rfl ?_
      refine zc_sr (r := (((a2 + 1), 20, 12) : zF)) (zrf (a := a2) (y := 0) hR rfl ha2.2.1) rfl ?_
      refine zwp.go (m := 1) (j := 23) (ls' := [some (zr ((36, 9, 0) : zF)), some (zr ((a1, 3, 0) : zF)), some (zr ((a2, 8, 0) : zF)), some (zi l3), some (zi l4), some (zi l5), some (zi l6), some (zi l7)]) (st' := [zi l7, zr (((a2 + 1), 20, 12) : zF)]) (h' := h) rfl ?_
      refine zc_ai e (fun _ => rfl) (fun i3 e => ?_)
      refine zb_if (j := 35) (j2 := 25) e rfl (fun e => ?_) (fun e => ?_)
      · refine zwp.go (m := 2) (j := 11) (ls' := [some (zr ((36, 9, 0) : zF)), some (zr ((a1, 3, 0) : zF)), some (zr ((a2, 8, 0) : zF)), some (zi l3), some (zi l4), some (zi l5), some (zi l6), some (zi (l7 + (1 : Int32)))]) (st' := []) (h' := h) rfl ?_
        exact ih l3 l4 l5 l6 (l7 + (1 : Int32)) h _ hR e
      · refine zwp.go (m := 3) (j := 28) (ls' := [some (zr ((36, 9, 0) : zF)), some (zr ((a1, 3, 0) : zF)), some (zr ((a2, 8, 0) : zF)), some (zi l3), some (zi (l4 + (1 : Int32))), some (zi l5), some (zi l6), some (zi l7)]) (st' := [zi (-1 : Int32), zi l5]) (h' := h) rfl ?_
        refine zb_if (j := 31) (j2 := 29) e rfl (fun e => ?_) (fun e => ?_)
        · refine zwp.go (m := 6) (j := 11) (ls' := [some (zr ((36, 9, 0) : zF)), some (zr ((a1, 3, 0) : zF)), some (zr ((a2, 8, 0) : zF)), some (zi l3), some (zi (l4 + (1 : Int32))), some (zi l5), some (zi l7), some (zi (l7 + (1 : Int32)))]) (st' := []) (h' := h) rfl ?_
          exact ih l3 (l4 + (1 : Int32)) l5 l7 (l7 + (1 : Int32)) h _ hR e
        · refine zwp.go (m := 7) (j := 11) (ls' := [some (zr ((36, 9, 0) : zF)), some (zr ((a1, 3, 0) : zF)), some (zr ((a2, 8, 0) : zF)), some (zi l3), some (zi (l4 + (1 : Int32))), some (zi l7), some (zi l7), some (zi (l7 + (1 : Int32)))]) (st' := []) (h' := h) rfl ?_
          exact ih l3 (l4 + (1 : Int32)) l7 l7 (l7 + (1 : Int32)) h _ hR e
def s_X9_paceOf (a1 : Nat) (a2 : Nat) (a3 : Int32) (h : zH) : Option (Int32 × zH) := s_X9_paceOf_L11 a1 a2 zfu a3 (0 : Int32) (-1 : Int32) (-1 : Int32) (zI h (a2 + 3) 0) h
set_option maxRecDepth 100000 in
theorem s_X9_paceOf_ok (d : Nat) (ρ : Nat → Nat → Option zF) (hρ : zSh ρ) (a1 : Nat) (a2 : Nat) (a3 : Int32) (ha1 : zPlS ρ a1) (ha2 : zStS ρ a2) (h : zH) (res : Int32 × zH) (hR : zRq h ρ) (e : s_X9_paceOf a1 a2 a3 h = some res) : zcl (d + 2) 137 [zr ((36, 9, 0) : zF), zr ((a1, 3, 0) : zF), zr ((a2, 8, 0) : zF), zi a3] h (zQi ρ res) := by
  rw [s_X9_paceOf] at e
  refine ⟨zm_X9_paceOf, rfl, ?_⟩
  show zwp (d + 2) zm_X9_paceOf 0 [some (zr ((36, 9, 0) : zF)), some (zr ((a1, 3, 0) : zF)), some (zr ((a2, 8, 0) : zF)), some (zi a3), none, none, none, none] [] h _
  refine zwp.go (m := 7) (j := 7) (ls' := [some (zr ((36, 9, 0) : zF)), some (zr ((a1, 3, 0) : zF)), some (zr ((a2, 8, 0) : zF)), some (zi a3), some (zi (0 : Int32)), some (zi (-1 : Int32)), some (zi (-1 : Int32)), none]) (st' := [zr ((a2, 8, 0) : zF)]) (h' := h) rfl ?_
  refine zc_sr (r := (((a2 + 3), 20, 2) : zF)) (zrf (a := a2) (y := 2) hR rfl ha2.2.2.2.1) rfl ?_
  refine zwp.go (m := 3) (j := 11) (ls' := [some (zr ((36, 9, 0) : zF)), some (zr ((a1, 3, 0) : zF)), some (zr ((a2, 8, 0) : zF)), some (zi a3), some (zi (0 : Int32)), some (zi (-1 : Int32)), some (zi (-1 : Int32)), some (zi (zI h (a2 + 3) 0))]) (st' := []) (h' := h) rfl ?_
  exact s_X9_paceOf_L11_ok d ρ hρ a1 a2 ha1 ha2 zfu a3 (0 : Int32) (-1 : Int32) (-1 : Int32) (zI h (a2 + 3) 0) h _ hR e
def s_X9_someBetween (a1 : Nat) (a2 : Nat) (h : zH) : Option (Int32) := if (zI h a1 6) ≤ ((zI h (a2 + 3) 0) + (zI h (a2 + 3) 1)) then (some (0 : Int32)) else (some (1 : Int32))
set_option maxRecDepth 100000 in
theorem s_X9_someBetween_ok (d : Nat) (ρ : Nat → Nat → Option zF) (hρ : zSh ρ) (a1 : Nat) (a2 : Nat) (ha1 : zPlS ρ a1) (ha2 : zStS ρ a2) (h : zH) (res : Int32) (hR : zRq h ρ) (e : s_X9_someBetween a1 a2 h = some res) : zcl d 138 [zr ((36, 9, 0) : zF), zr ((a1, 3, 0) : zF), zr ((a2, 8, 0) : zF)] h (zQp h res) := by
  rw [s_X9_someBetween] at e
  refine ⟨zm_X9_someBetween, rfl, ?_⟩
  show zwp d zm_X9_someBetween 0 [some (zr ((36, 9, 0) : zF)), some (zr ((a1, 3, 0) : zF)), some (zr ((a2, 8, 0) : zF))] [] h _
  refine zwp.go (m := 1) (j := 1) (ls' := [some (zr ((36, 9, 0) : zF)), some (zr ((a1, 3, 0) : zF)), some (zr ((a2, 8, 0) : zF))]) (st' := [zr ((a2, 8, 0) : zF)]) (h' := h) rfl ?_
  refine zc_sr (r := (((a2 + 3), 20, 2) : zF)) (zrf (a := a2) (y := 2) hR rfl ha2.2.2.2.1) rfl ?_
  refine zwp.go (m := 3) (j := 5) (ls' := [some (zr ((36, 9, 0) : zF)), some (zr ((a1, 3, 0) : zF)), some (zr ((a2, 8, 0) : zF))]) (st' := [zr ((a2, 8, 0) : zF), zi (zI h (a2 + 3) 0)]) (h' := h) rfl ?_
  refine zc_sr (r := (((a2 + 3), 20, 2) : zF)) (zrf (a := a2) (y := 2) hR rfl ha2.2.2.2.1) rfl ?_
  refine zwp.go (m := 5) (j := 11) (ls' := [some (zr ((36, 9, 0) : zF)), some (zr ((a1, 3, 0) : zF)), some (zr ((a2, 8, 0) : zF))]) (st' := [zi (zI h a1 6), zi ((zI h (a2 + 3) 0) + (zI h (a2 + 3) 1))]) (h' := h) rfl ?_
  refine zb_if (j := 14) (j2 := 12) e rfl (fun e => ?_) (fun e => ?_)
  · refine zwp.go (m := 1) (j := 15) (ls' := [some (zr ((36, 9, 0) : zF)), some (zr ((a1, 3, 0) : zF)), some (zr ((a2, 8, 0) : zF))]) (st' := [zi (0 : Int32)]) (h' := h) rfl ?_
    cases e
    exact zwp.ret rfl rfl ⟨rfl, rfl⟩
  · refine zwp.go (m := 2) (j := 15) (ls' := [some (zr ((36, 9, 0) : zF)), some (zr ((a1, 3, 0) : zF)), some (zr ((a2, 8, 0) : zF))]) (st' := [zi (1 : Int32)]) (h' := h) rfl ?_
    cases e
    exact zwp.ret rfl rfl ⟨rfl, rfl⟩
def s_X9_placeOf (a1 : Nat) (a2 : Nat) (a3 : Int32) (h : zH) : Option (Int32) := if ¬ a3 = 0 then (some (((zI h a1 6) - (1 : Int32)) - (zI h (a2 + 3) 1))) else (some (zI h (a2 + 3) 0))
set_option maxRecDepth 100000 in
theorem s_X9_placeOf_ok (d : Nat) (ρ : Nat → Nat → Option zF) (hρ : zSh ρ) (a1 : Nat) (a2 : Nat) (a3 : Int32) (ha1 : zPlS ρ a1) (ha2 : zStS ρ a2) (h : zH) (res : Int32) (hR : zRq h ρ) (e : s_X9_placeOf a1 a2 a3 h = some res) : zcl d 139 [zr ((36, 9, 0) : zF), zr ((a1, 3, 0) : zF), zr ((a2, 8, 0) : zF), zi a3] h (zQp h res) := by
  rw [s_X9_placeOf] at e
  refine ⟨zm_X9_placeOf, rfl, ?_⟩
  show zwp d zm_X9_placeOf 0 [some (zr ((36, 9, 0) : zF)), some (zr ((a1, 3, 0) : zF)), some (zr ((a2, 8, 0) : zF)), some (zi a3)] [] h _
  refine zwp.go (m := 1) (j := 1) (ls' := [some (zr ((36, 9, 0) : zF)), some (zr ((a1, 3, 0) : zF)), some (zr ((a2, 8, 0) : zF)), some (zi a3)]) (st' := [zi a3]) (h' := h) rfl ?_
  refine zb_if (j := 7) (j2 := 2) e rfl (fun e => ?_) (fun e => ?_)
  · refine zwp.go (m := 5) (j := 12) (ls' := [some (zr ((36, 9, 0) : zF)), some (zr ((a1, 3, 0) : zF)), some (zr ((a2, 8, 0) : zF)), some (zi a3)]) (st' := [zr ((a2, 8, 0) : zF), zi ((zI h a1 6) - (1 : Int32))]) (h' := h) rfl ?_
    refine zc_sr (r := (((a2 + 3), 20, 2) : zF)) (zrf (a := a2) (y := 2) hR rfl ha2.2.2.2.1) rfl ?_
    refine zwp.go (m := 3) (j := 16) (ls' := [some (zr ((36, 9, 0) : zF)), some (zr ((a1, 3, 0) : zF)), some (zr ((a2, 8, 0) : zF)), some (zi a3)]) (st' := [zi (((zI h a1 6) - (1 : Int32)) - (zI h (a2 + 3) 1))]) (h' := h) rfl ?_
    cases e
    exact zwp.ret rfl rfl ⟨rfl, rfl⟩
  · refine zwp.go (m := 1) (j := 3) (ls' := [some (zr ((36, 9, 0) : zF)), some (zr ((a1, 3, 0) : zF)), some (zr ((a2, 8, 0) : zF)), some (zi a3)]) (st' := [zr ((a2, 8, 0) : zF)]) (h' := h) rfl ?_
    refine zc_sr (r := (((a2 + 3), 20, 2) : zF)) (zrf (a := a2) (y := 2) hR rfl ha2.2.2.2.1) rfl ?_
    refine zwp.go (m := 3) (j := 16) (ls' := [some (zr ((36, 9, 0) : zF)), some (zr ((a1, 3, 0) : zF)), some (zr ((a2, 8, 0) : zF)), some (zi a3)]) (st' := [zi (zI h (a2 + 3) 0)]) (h' := h) rfl ?_
    cases e
    exact zwp.ret rfl rfl ⟨rfl, rfl⟩
def s_X9_isGone (a1 : Nat) (a2 : Nat) (a3 : Int32) (h : zH) : Option (Int32) := (s_X9_placeOf a1 a2 a3 h).bind fun v1 => zix v1 12 fun i2 => if ¬ (zI h (a2 + 1) i2) = 0 then (some (0 : Int32)) else (some (1 : Int32))
set_option maxRecDepth 100000 in
theorem s_X9_isGone_ok (d : Nat) (ρ : Nat → Nat → Option zF) (hρ : zSh ρ) (a1 : Nat) (a2 : Nat) (a3 : Int32) (ha1 : zPlS ρ a1) (ha2 : zStS ρ a2) (h : zH) (res : Int32) (hR : zRq h ρ) (e : s_X9_isGone a1 a2 a3 h = some res) : zcl (d + 1) 140 [zr ((36, 9, 0) : zF), zr ((a1, 3, 0) : zF), zr ((a2, 8, 0) : zF), zi a3] h (zQp h res) := by
  rw [s_X9_isGone] at e
  refine ⟨zm_X9_isGone, rfl, ?_⟩
  show zwp (d + 1) zm_X9_isGone 0 [some (zr ((36, 9, 0) : zF)), some (zr ((a1, 3, 0) : zF)), some (zr ((a2, 8, 0) : zF)), some (zi a3)] [] h _
  refine zwp.go (m := 1) (j := 1) (ls' := [some (zr ((36, 9, 0) : zF)), some (zr ((a1, 3, 0) : zF)), some (zr ((a2, 8, 0) : zF)), some (zi a3)]) (st' := [zr ((a2, 8, 0) : zF)]) (h' := h) rfl ?_
  refine zc_sr (r := (((a2 + 1), 20, 12) : zF)) (zrf (a := a2) (y := 0) hR rfl ha2.2.1) rfl ?_
  refine zwp.go (m := 4) (j := 6) (ls' := [some (zr ((36, 9, 0) : zF)), some (zr ((a1, 3, 0) : zF)), some (zr ((a2, 8, 0) : zF)), some (zi a3)]) (st' := [zi a3, zr ((a2, 8, 0) : zF), zr ((a1, 3, 0) : zF), zr ((36, 9, 0) : zF), zr (((a2 + 1), 20, 12) : zF)]) (h' := h) rfl ?_
  refine zc_cp (d := d + 0) e (fun q e => s_X9_placeOf_ok (d + 0) ρ hρ a1 a2 a3 ha1 ha2 h q hR e) rfl rfl (fun v1 e => ?_)
  refine zc_ai e (fun _ => rfl) (fun i2 e => ?_)
  refine zb_if (j := 11) (j2 := 9) e rfl (fun e => ?_) (fun e => ?_)
  · refine zwp.go (m := 1) (j := 12) (ls' := [some (zr ((36, 9, 0) : zF)), some (zr ((a1, 3, 0) : zF)), some (zr ((a2, 8, 0) : zF)), some (zi a3)]) (st' := [zi (0 : Int32)]) (h' := h) rfl ?_
    cases e
    exact zwp.ret rfl rfl ⟨rfl, rfl⟩
  · refine zwp.go (m := 2) (j := 12) (ls' := [some (zr ((36, 9, 0) : zF)), some (zr ((a1, 3, 0) : zF)), some (zr ((a2, 8, 0) : zF)), some (zi a3)]) (st' := [zi (1 : Int32)]) (h' := h) rfl ?_
    cases e
    exact zwp.ret rfl rfl ⟨rfl, rfl⟩
def s_X9_goPast_J19 (a1 : Nat) (a2 : Nat) (l3 : Int32) (s1 : Int32) (s2 : Int32) (h : zH) : Option (zH) := zlt (zwI h a2 5 (s1 ||| s2)) fun h1 => zix l3 2 fun i2 => zix l3 2 fun i4 => zlt (zwI h1 (a2 + 3) i4 ((zI h1 (a2 + 3) i2) + (1 : Int32))) fun h3 => some h3
set_option maxRecDepth 100000 in
theorem s_X9_goPast_J19_ok (d : Nat) (ρ : Nat → Nat → Option zF) (hρ : zSh ρ) (a1 : Nat) (a2 : Nat) (ha1 : zPlS ρ a1) (ha2 : zStS ρ a2) (l3 : Int32) (s1 : Int32) (s2 : Int32) (h : zH) (res : zH) (hR : zRq h ρ) (e : s_X9_goPast_J19 a1 a2 l3 s1 s2 h = some res) : zwp (d + 1) zm_X9_goPast 19 [none, none, some (zr ((a2, 8, 0) : zF)), some (zi l3), none] [zi s2, zi s1, zr ((a2, 8, 0) : zF)] h (zQv ρ res) := by
  rw [s_X9_goPast_J19] at e
  refine zwp.go (m := 1) (j := 20) (ls' := [none, none, some (zr ((a2, 8, 0) : zF)), some (zi l3), none]) (st' := [zi (s1 ||| s2), zr ((a2, 8, 0) : zF)]) (h' := h) rfl ?_
  refine zc_w e rfl hR (fun h1 hR1 e => ?_)
  refine zwp.go (m := 1) (j := 22) (ls' := [none, none, some (zr ((a2, 8, 0) : zF)), some (zi l3), none]) (st' := [zr ((a2, 8, 0) : zF)]) (h' := h1) rfl ?_
  refine zc_sr (r := (((a2 + 3), 20, 2) : zF)) (zrf (a := a2) (y := 2) hR1 rfl ha2.2.2.2.1) rfl ?_
  refine zwp.go (m := 2) (j := 25) (ls' := [none, none, some (zr ((a2, 8, 0) : zF)), some (zi l3), none]) (st' := [zi l3, zr (((a2 + 3), 20, 2) : zF), zi l3, zr (((a2 + 3), 20, 2) : zF)]) (h' := h1) rfl ?_
  refine zc_ai e (fun _ => rfl) (fun i2 e => ?_)
  refine zwp.go (m := 2) (j := 28) (ls' := [none, none, some (zr ((a2, 8, 0) : zF)), some (zi l3), none]) (st' := [zi ((zI h1 (a2 + 3) i2) + (1 : Int32)), zi l3, zr (((a2 + 3), 20, 2) : zF)]) (h' := h1) rfl ?_
  refine zc_si e (fun _ => rfl) hR1 (fun h3 hR3 e => ?_)
  cases e
  exact zwp.rv rfl ⟨⟨rfl, rfl⟩, hR3⟩
def s_X9_goPast (a1 : Nat) (a2 : Nat) (a3 : Int32) (h : zH) : Option (zH) := (s_X9_placeOf a1 a2 a3 h).bind fun v1 => zix v1 12 fun i2 => if ¬ (zI h (a2 + 1) i2) = 0 then (s_X9_goPast_J19 a1 a2 a3 (zI h a2 5) (0 : Int32) h) else (s_X9_goPast_J19 a1 a2 a3 (zI h a2 5) ((1 : Int32) <<< (v1 &&& 31)) h)
set_option maxRecDepth 100000 in
theorem s_X9_goPast_ok (d : Nat) (ρ : Nat → Nat → Option zF) (hρ : zSh ρ) (a1 : Nat) (a2 : Nat) (a3 : Int32) (ha1 : zPlS ρ a1) (ha2 : zStS ρ a2) (h : zH) (res : zH) (hR : zRq h ρ) (e : s_X9_goPast a1 a2 a3 h = some res) : zcl (d + 1) 141 [zr ((36, 9, 0) : zF), zr ((a1, 3, 0) : zF), zr ((a2, 8, 0) : zF), zi a3] h (zQv ρ res) := by
  rw [s_X9_goPast] at e
  refine ⟨zm_X9_goPast, rfl, ?_⟩
  show zwp (d + 1) zm_X9_goPast 0 [some (zr ((36, 9, 0) : zF)), some (zr ((a1, 3, 0) : zF)), some (zr ((a2, 8, 0) : zF)), some (zi a3), none] [] h _
  refine zwp.go (m := 4) (j := 4) (ls' := [some (zr ((36, 9, 0) : zF)), some (zr ((a1, 3, 0) : zF)), some (zr ((a2, 8, 0) : zF)), some (zi a3), none]) (st' := [zi a3, zr ((a2, 8, 0) : zF), zr ((a1, 3, 0) : zF), zr ((36, 9, 0) : zF)]) (h' := h) rfl ?_
  refine zc_cp (d := d + 0) e (fun q e => s_X9_placeOf_ok (d + 0) ρ hρ a1 a2 a3 ha1 ha2 h q hR e) rfl rfl (fun v1 e => ?_)
  refine zwp.go (m := 5) (j := 10) (ls' := [some (zr ((36, 9, 0) : zF)), some (zr ((a1, 3, 0) : zF)), some (zr ((a2, 8, 0) : zF)), some (zi a3), some (zi v1)]) (st' := [zr ((a2, 8, 0) : zF), zi (zI h a2 5), zr ((a2, 8, 0) : zF)]) (h' := h) rfl ?_
  refine zc_sr (r := (((a2 + 1), 20, 12) : zF)) (zrf (a := a2) (y := 0) hR rfl ha2.2.1) rfl ?_
  refine zwp.go (m := 1) (j := 12) (ls' := [some (zr ((36, 9, 0) : zF)), some (zr ((a1, 3, 0) : zF)), some (zr ((a2, 8, 0) : zF)), some (zi a3), some (zi v1)]) (st' := [zi v1, zr (((a2 + 1), 20, 12) : zF), zi (zI h a2 5), zr ((a2, 8, 0) : zF)]) (h' := h) rfl ?_
  refine zc_ai e (fun _ => rfl) (fun i2 e => ?_)
  refine zb_if (j := 18) (j2 := 14) e rfl (fun e => ?_) (fun e => ?_)
  · refine zwp.go (m := 1) (j := 19) (ls' := [some (zr ((36, 9, 0) : zF)), some (zr ((a1, 3, 0) : zF)), some (zr ((a2, 8, 0) : zF)), some (zi a3), some (zi v1)]) (st' := [zi (0 : Int32), zi (zI h a2 5), zr ((a2, 8, 0) : zF)]) (h' := h) rfl ?_
    refine zwp.fg (a := [none, none, some (zr ((a2, 8, 0) : zF)), some (zi a3), none]) (And.intro rfl (And.intro rfl trivial)) ?_
    exact s_X9_goPast_J19_ok d ρ hρ a1 a2 ha1 ha2 a3 (zI h a2 5) (0 : Int32) h _ hR e
  · refine zwp.go (m := 4) (j := 19) (ls' := [some (zr ((36, 9, 0) : zF)), some (zr ((a1, 3, 0) : zF)), some (zr ((a2, 8, 0) : zF)), some (zi a3), some (zi v1)]) (st' := [zi ((1 : Int32) <<< (v1 &&& 31)), zi (zI h a2 5), zr ((a2, 8, 0) : zF)]) (h' := h) rfl ?_
    refine zwp.fg (a := [none, none, some (zr ((a2, 8, 0) : zF)), some (zi a3), none]) (And.intro rfl (And.intro rfl trivial)) ?_
    exact s_X9_goPast_J19_ok d ρ hρ a1 a2 ha1 ha2 a3 (zI h a2 5) ((1 : Int32) <<< (v1 &&& 31)) h _ hR e
def s_X9_weave_J53 (a1 : Nat) (a2 : Nat) (k32 : (Int32 → Int32 → Int32 → zH → Option (zH))) (l3 : Int32) (l5 : Int32) (s0 : Int32) (s1 : Int32) (h : zH) : Option (zH) := (s_X9_goPast a1 a2 l3 h).bind fun h1 => k32 l3 (s0 - s1) (l5 + (1 : Int32)) h1
set_option maxRecDepth 100000 in
theorem s_X9_weave_J53_ok (d : Nat) (ρ : Nat → Nat → Option zF) (hρ : zSh ρ) (a1 : Nat) (a2 : Nat) (ha1 : zPlS ρ a1) (ha2 : zStS ρ a2) (k32 : (Int32 → Int32 → Int32 → zH → Option (zH))) (hk32 : ∀ l3 l4 l5 h res, zRq h ρ → k32 l3 l4 l5 h = some res → zwp (d + 3) zm_X9_weave 32 [some (zr ((36, 9, 0) : zF)), some (zr ((a1, 3, 0) : zF)), some (zr ((a2, 8, 0) : zF)), some (zi l3), some (zi l4), some (zi l5)] [] h (zQv ρ res)) (l3 : Int32) (l5 : Int32) (s0 : Int32) (s1 : Int32) (h : zH) (res : zH) (hR : zRq h ρ) (e : s_X9_weave_J53 a1 a2 k32 l3 l5 s0 s1 h = some res) : zwp (d + 3) zm_X9_weave 53 [some (zr ((36, 9, 0) : zF)), some (zr ((a1, 3, 0) : zF)), some (zr ((a2, 8, 0) : zF)), some (zi l3), none, some (zi l5)] [zi s1, zi s0] h (zQv ρ res) := by
  rw [s_X9_weave_J53] at e
  refine zwp.go (m := 6) (j := 59) (ls' := [some (zr ((36, 9, 0) : zF)), some (zr ((a1, 3, 0) : zF)), some (zr ((a2, 8, 0) : zF)), some (zi l3), some (zi (s0 - s1)), some (zi l5)]) (st' := [zi l3, zr ((a2, 8, 0) : zF), zr ((a1, 3, 0) : zF), zr ((36, 9, 0) : zF)]) (h' := h) rfl ?_
  refine zc_cv (d := d + 2) e (fun q e => s_X9_goPast_ok (d + 1) ρ hρ a1 a2 l3 ha1 ha2 h q hR e) rfl rfl (fun h1 hR1 e => ?_)
  refine zwp.go (m := 2) (j := 32) (ls' := [some (zr ((36, 9, 0) : zF)), some (zr ((a1, 3, 0) : zF)), some (zr ((a2, 8, 0) : zF)), some (zi l3), some (zi (s0 - s1)), some (zi (l5 + (1 : Int32)))]) (st' := []) (h' := h1) rfl ?_
  exact hk32 l3 (s0 - s1) (l5 + (1 : Int32)) h1 _ hR1 e
def s_X9_weave_L32 (a1 : Nat) (a2 : Nat) : Nat → Int32 → Int32 → Int32 → zH → Option (zH)
  | 0, _, _, _, _ => none
  | n + 1, l3, l4, l5, h => if (zI h a1 6) ≤ l5 then (some h) else (if l4 ≤ 0 then (some h) else ((s_X9_someBetween a1 a2 h).bind fun v1 => if v1 = 0 then (some h) else ((s_X9_isGone a1 a2 l3 h).bind fun v2 => if v2 = 0 then (s_X9_weave_J53 a1 a2 (s_X9_weave_L32 a1 a2 n) l3 l5 l4 (1 : Int32) h) else (s_X9_weave_J53 a1 a2 (s_X9_weave_L32 a1 a2 n) l3 l5 l4 (0 : Int32) h))))
set_option maxRecDepth 100000 in
theorem s_X9_weave_L32_ok (d : Nat) (ρ : Nat → Nat → Option zF) (hρ : zSh ρ) (a1 : Nat) (a2 : Nat) (ha1 : zPlS ρ a1) (ha2 : zStS ρ a2) : ∀ (n : Nat) (l3 : Int32) (l4 : Int32) (l5 : Int32) (h : zH) (res : zH) (hR : zRq h ρ) (e : s_X9_weave_L32 a1 a2 n l3 l4 l5 h = some res), zwp (d + 3) zm_X9_weave 32 [some (zr ((36, 9, 0) : zF)), some (zr ((a1, 3, 0) : zF)), some (zr ((a2, 8, 0) : zF)), some (zi l3), some (zi l4), some (zi l5)] [] h (zQv ρ res) := by
  intro n
  induction n with
  | zero => intro l3 l4 l5 h res hR e; cases e
  | succ n ih =>
    intro l3 l4 l5 h res hR e
    rw [s_X9_weave_L32] at e
    refine zwp.go (m := 3) (j := 35) (ls' := [some (zr ((36, 9, 0) : zF)), some (zr ((a1, 3, 0) : zF)), some (zr ((a2, 8, 0) : zF)), some (zi l3), some (zi l4), some (zi l5)]) (st' := [zi (zI h a1 6), zi l5]) (h' := h) rfl ?_
    refine zb_if (j := 62) (j2 := 36) e rfl (fun e => ?_) (fun e => ?_)
    · cases e
      exact zwp.rv rfl ⟨⟨rfl, rfl⟩, hR⟩
    · refine zwp.go (m := 1) (j := 37) (ls' := [some (zr ((36, 9, 0) : zF)), some (zr ((a1, 3, 0) : zF)), some (zr ((a2, 8, 0) : zF)), some (zi l3), some (zi l4), some (zi l5)]) (st' := [zi l4]) (h' := h) rfl ?_
      refine zb_if (j := 62) (j2 := 38) e rfl (fun e => ?_) (fun e => ?_)
      · cases e
        exact zwp.rv rfl ⟨⟨rfl, rfl⟩, hR⟩
      · refine zwp.go (m := 3) (j := 41) (ls' := [some (zr ((36, 9, 0) : zF)), some (zr ((a1, 3, 0) : zF)), some (zr ((a2, 8, 0) : zF)), some (zi l3), some (zi l4), some (zi l5)]) (st' := [zr ((a2, 8, 0) : zF), zr ((a1, 3, 0) : zF), zr ((36, 9, 0) : zF)]) (h' := h) rfl ?_
        refine zc_cp (d := d + 2) e (fun q e => s_X9_someBetween_ok (d + 2) ρ hρ a1 a2 ha1 ha2 h q hR e) rfl rfl (fun v1 e => ?_)
        refine zb_if (j := 62) (j2 := 43) e rfl (fun e => ?_) (fun e => ?_)
        · cases e
          exact zwp.rv rfl ⟨⟨rfl, rfl⟩, hR⟩
        · refine zwp.go (m := 5) (j := 48) (ls' := [some (zr ((36, 9, 0) : zF)), some (zr ((a1, 3, 0) : zF)), some (zr ((a2, 8, 0) : zF)), some (zi l3), some (zi l4), some (zi l5)]) (st' := [zi l3, zr ((a2, 8, 0) : zF), zr ((a1, 3, 0) : zF), zr ((36, 9, 0) : zF), zi l4]) (h' := h) rfl ?_
          refine zc_cp (d := d + 2) e (fun q e => s_X9_isGone_ok (d + 1) ρ hρ a1 a2 l3 ha1 ha2 h q hR e) rfl rfl (fun v2 e => ?_)
          refine zb_if (j := 52) (j2 := 50) e rfl (fun e => ?_) (fun e => ?_)
          · refine zwp.go (m := 1) (j := 53) (ls' := [some (zr ((36, 9, 0) : zF)), some (zr ((a1, 3, 0) : zF)), some (zr ((a2, 8, 0) : zF)), some (zi l3), some (zi l4), some (zi l5)]) (st' := [zi (1 : Int32), zi l4]) (h' := h) rfl ?_
            refine zwp.fg (a := [some (zr ((36, 9, 0) : zF)), some (zr ((a1, 3, 0) : zF)), some (zr ((a2, 8, 0) : zF)), some (zi l3), none, some (zi l5)]) (And.intro rfl (And.intro rfl (And.intro rfl (And.intro rfl (And.intro rfl trivial))))) ?_
            exact s_X9_weave_J53_ok d ρ hρ a1 a2 ha1 ha2 (s_X9_weave_L32 a1 a2 n) ih l3 l5 l4 (1 : Int32) h _ hR e
          · refine zwp.go (m := 2) (j := 53) (ls' := [some (zr ((36, 9, 0) : zF)), some (zr ((a1, 3, 0) : zF)), some (zr ((a2, 8, 0) : zF)), some (zi l3), some (zi l4), some (zi l5)]) (st' := [zi (0 : Int32), zi l4]) (h' := h) rfl ?_
            refine zwp.fg (a := [some (zr ((36, 9, 0) : zF)), some (zr ((a1, 3, 0) : zF)), some (zr ((a2, 8, 0) : zF)), some (zi l3), none, some (zi l5)]) (And.intro rfl (And.intro rfl (And.intro rfl (And.intro rfl (And.intro rfl trivial))))) ?_
            exact s_X9_weave_J53_ok d ρ hρ a1 a2 ha1 ha2 (s_X9_weave_L32 a1 a2 n) ih l3 l5 l4 (0 : Int32) h _ hR e
def s_X9_weave_L8 (a1 : Nat) (a2 : Nat) : Nat → Int32 → Int32 → Int32 → zH → Option (zH)
  | 0, _, _, _, _ => none
  | n + 1, l3, l4, l5, h => if (zI h a1 6) ≤ l5 then (s_X9_weave_L32 a1 a2 zfu l3 l4 (0 : Int32) h) else ((s_X9_someBetween a1 a2 h).bind fun v1 => if v1 = 0 then (s_X9_weave_L32 a1 a2 zfu l3 l4 (0 : Int32) h) else ((s_X9_isGone a1 a2 l3 h).bind fun v2 => if v2 = 0 then (s_X9_weave_L32 a1 a2 zfu l3 l4 (0 : Int32) h) else ((s_X9_goPast a1 a2 l3 h).bind fun h3 => s_X9_weave_L8 a1 a2 n l3 l4 (l5 + (1 : Int32)) h3)))
set_option maxRecDepth 100000 in
theorem s_X9_weave_L8_ok (d : Nat) (ρ : Nat → Nat → Option zF) (hρ : zSh ρ) (a1 : Nat) (a2 : Nat) (ha1 : zPlS ρ a1) (ha2 : zStS ρ a2) : ∀ (n : Nat) (l3 : Int32) (l4 : Int32) (l5 : Int32) (h : zH) (res : zH) (hR : zRq h ρ) (e : s_X9_weave_L8 a1 a2 n l3 l4 l5 h = some res), zwp (d + 3) zm_X9_weave 8 [some (zr ((36, 9, 0) : zF)), some (zr ((a1, 3, 0) : zF)), some (zr ((a2, 8, 0) : zF)), some (zi l3), some (zi l4), some (zi l5)] [] h (zQv ρ res) := by
  intro n
  induction n with
  | zero => intro l3 l4 l5 h res hR e; cases e
  | succ n ih =>
    intro l3 l4 l5 h res hR e
    rw [s_X9_weave_L8] at e
    refine zwp.go (m := 3) (j := 11) (ls' := [some (zr ((36, 9, 0) : zF)), some (zr ((a1, 3, 0) : zF)), some (zr ((a2, 8, 0) : zF)), some (zi l3), some (zi l4), some (zi l5)]) (st' := [zi (zI h a1 6), zi l5]) (h' := h) rfl ?_
    refine zb_if (j := 30) (j2 := 12) e rfl (fun e => ?_) (fun e => ?_)
    · refine zwp.go (m := 2) (j := 32) (ls' := [some (zr ((36, 9, 0) : zF)), some (zr ((a1, 3, 0) : zF)), some (zr ((a2, 8, 0) : zF)), some (zi l3), some (zi l4), some (zi (0 : Int32))]) (st' := []) (h' := h) rfl ?_
      exact s_X9_weave_L32_ok d ρ hρ a1 a2 ha1 ha2 zfu l3 l4 (0 : Int32) h _ hR e
    · refine zwp.go (m := 3) (j := 15) (ls' := [some (zr ((36, 9, 0) : zF)), some (zr ((a1, 3, 0) : zF)), some (zr ((a2, 8, 0) : zF)), some (zi l3), some (zi l4), some (zi l5)]) (st' := [zr ((a2, 8, 0) : zF), zr ((a1, 3, 0) : zF), zr ((36, 9, 0) : zF)]) (h' := h) rfl ?_
      refine zc_cp (d := d + 2) e (fun q e => s_X9_someBetween_ok (d + 2) ρ hρ a1 a2 ha1 ha2 h q hR e) rfl rfl (fun v1 e => ?_)
      refine zb_if (j := 30) (j2 := 17) e rfl (fun e => ?_) (fun e => ?_)
      · refine zwp.go (m := 2) (j := 32) (ls' := [some (zr ((36, 9, 0) : zF)), some (zr ((a1, 3, 0) : zF)), some (zr ((a2, 8, 0) : zF)), some (zi l3), some (zi l4), some (zi (0 : Int32))]) (st' := []) (h' := h) rfl ?_
        exact s_X9_weave_L32_ok d ρ hρ a1 a2 ha1 ha2 zfu l3 l4 (0 : Int32) h _ hR e
      · refine zwp.go (m := 4) (j := 21) (ls' := [some (zr ((36, 9, 0) : zF)), some (zr ((a1, 3, 0) : zF)), some (zr ((a2, 8, 0) : zF)), some (zi l3), some (zi l4), some (zi l5)]) (st' := [zi l3, zr ((a2, 8, 0) : zF), zr ((a1, 3, 0) : zF), zr ((36, 9, 0) : zF)]) (h' := h) rfl ?_
        refine zc_cp (d := d + 2) e (fun q e => s_X9_isGone_ok (d + 1) ρ hρ a1 a2 l3 ha1 ha2 h q hR e) rfl rfl (fun v2 e => ?_)
        refine zb_if (j := 30) (j2 := 23) e rfl (fun e => ?_) (fun e => ?_)
        · refine zwp.go (m := 2) (j := 32) (ls' := [some (zr ((36, 9, 0) : zF)), some (zr ((a1, 3, 0) : zF)), some (zr ((a2, 8, 0) : zF)), some (zi l3), some (zi l4), some (zi (0 : Int32))]) (st' := []) (h' := h) rfl ?_
          exact s_X9_weave_L32_ok d ρ hρ a1 a2 ha1 ha2 zfu l3 l4 (0 : Int32) h _ hR e
        · refine zwp.go (m := 4) (j := 27) (ls' := [some (zr ((36, 9, 0) : zF)), some (zr ((a1, 3, 0) : zF)), some (zr ((a2, 8, 0) : zF)), some (zi l3), some (zi l4), some (zi l5)]) (st' := [zi l3, zr ((a2, 8, 0) : zF), zr ((a1, 3, 0) : zF), zr ((36, 9, 0) : zF)]) (h' := h) rfl ?_
          refine zc_cv (d := d + 2) e (fun q e => s_X9_goPast_ok (d + 1) ρ hρ a1 a2 l3 ha1 ha2 h q hR e) rfl rfl (fun h3 hR3 e => ?_)
          refine zwp.go (m := 2) (j := 8) (ls' := [some (zr ((36, 9, 0) : zF)), some (zr ((a1, 3, 0) : zF)), some (zr ((a2, 8, 0) : zF)), some (zi l3), some (zi l4), some (zi (l5 + (1 : Int32)))]) (st' := []) (h' := h3) rfl ?_
          exact ih l3 l4 (l5 + (1 : Int32)) h3 _ hR3 e
def s_X9_weave (a1 : Nat) (a2 : Nat) (a3 : Int32) (h : zH) : Option (zH) := zbd (s_X9_paceOf a1 a2 a3 h) fun v2 h1 => s_X9_weave_L8 a1 a2 zfu a3 v2 (0 : Int32) h1
set_option maxRecDepth 100000 in
theorem s_X9_weave_ok (d : Nat) (ρ : Nat → Nat → Option zF) (hρ : zSh ρ) (a1 : Nat) (a2 : Nat) (a3 : Int32) (ha1 : zPlS ρ a1) (ha2 : zStS ρ a2) (h : zH) (res : zH) (hR : zRq h ρ) (e : s_X9_weave a1 a2 a3 h = some res) : zcl (d + 3) 142 [zr ((36, 9, 0) : zF), zr ((a1, 3, 0) : zF), zr ((a2, 8, 0) : zF), zi a3] h (zQv ρ res) := by
  rw [s_X9_weave] at e
  refine ⟨zm_X9_weave, rfl, ?_⟩
  show zwp (d + 3) zm_X9_weave 0 [some (zr ((36, 9, 0) : zF)), some (zr ((a1, 3, 0) : zF)), some (zr ((a2, 8, 0) : zF)), some (zi a3), none, none] [] h _
  refine zwp.go (m := 4) (j := 4) (ls' := [some (zr ((36, 9, 0) : zF)), some (zr ((a1, 3, 0) : zF)), some (zr ((a2, 8, 0) : zF)), some (zi a3), none, none]) (st' := [zi a3, zr ((a2, 8, 0) : zF), zr ((a1, 3, 0) : zF), zr ((36, 9, 0) : zF)]) (h' := h) rfl ?_
  refine zc_ci (d := d + 2) e (fun q e => s_X9_paceOf_ok (d + 0) ρ hρ a1 a2 a3 ha1 ha2 h q hR e) rfl rfl (fun v2 h1 hR1 e => ?_)
  refine zwp.go (m := 3) (j := 8) (ls' := [some (zr ((36, 9, 0) : zF)), some (zr ((a1, 3, 0) : zF)), some (zr ((a2, 8, 0) : zF)), some (zi a3), some (zi v2), some (zi (0 : Int32))]) (st' := []) (h' := h1) rfl ?_
  exact s_X9_weave_L8_ok d ρ hρ a1 a2 ha1 ha2 zfu a3 v2 (0 : Int32) h1 _ hR1 e
def s_X8_keepSail_L2 (a0 : Nat) : Nat → Int32 → zH → Option (zH)
  | 0, _, _ => none
  | n + 1, l1, h => if l1 ≤ 0 then (zlt (zwI h (a0 + 4) 0 (zI h a0 5)) fun h1 => zlt (zwI h1 (a0 + 5) 0 (zI h1 a0 6)) fun h2 => (s_J9_min_7cf53 (9 : Int32) ((zI h2 a0 8) + (1 : Int32)) h2).bind fun v3 => zlt (zwI h2 a0 8 v3) fun h4 => zlt (zwI h4 a0 7 ((zI h4 a0 7) + (1 : Int32))) fun h5 => some h5) else (zix (l1 - (1 : Int32)) 9 fun i6 => zix l1 9 fun i11 => zlt (zwI h (a0 + 4) i11 (zI h (a0 + 4) i6)) fun h7 => zix (l1 - (1 : Int32)) 9 fun i8 => zix l1 9 fun i10 => zlt (zwI h7 (a0 + 5) i10 (zI h7 (a0 + 5) i8)) fun h9 => s_X8_keepSail_L2 a0 n (l1 + (-1 : Int32)) h9)
set_option maxRecDepth 100000 in
theorem s_X8_keepSail_L2_ok (d : Nat) (ρ : Nat → Nat → Option zF) (hρ : zSh ρ) (a0 : Nat) (ha0 : zStS ρ a0) : ∀ (n : Nat) (l1 : Int32) (h : zH) (res : zH) (hR : zRq h ρ) (e : s_X8_keepSail_L2 a0 n l1 h = some res), zwp (d + 1) zm_X8_keepSail 2 [some (zr ((a0, 8, 0) : zF)), some (zi l1)] [] h (zQv ρ res) := by
  intro n
  induction n with
  | zero => intro l1 h res hR e; cases e
  | succ n ih =>
    intro l1 h res hR e
    rw [s_X8_keepSail_L2] at e
    refine zwp.go (m := 1) (j := 3) (ls' := [some (zr ((a0, 8, 0) : zF)), some (zi l1)]) (st' := [zi l1]) (h' := h) rfl ?_
    refine zb_if (j := 26) (j2 := 4) e rfl (fun e => ?_) (fun e => ?_)
    · refine zwp.go (m := 1) (j := 27) (ls' := [some (zr ((a0, 8, 0) : zF)), some (zi l1)]) (st' := [zr ((a0, 8, 0) : zF)]) (h' := h) rfl ?_
      refine zc_sr (r := (((a0 + 4), 20, 9) : zF)) (zrf (a := a0) (y := 3) hR (zmu3 ha0.1) ha0.2.2.2.2.1) rfl ?_
      refine zwp.go (m := 3) (j := 31) (ls' := [some (zr ((a0, 8, 0) : zF)), some (zi l1)]) (st' := [zi (zI h a0 5), zi (0 : Int32), zr (((a0 + 4), 20, 9) : zF)]) (h' := h) rfl ?_
      refine zc_w e rfl hR (fun h1 hR1 e => ?_)
      refine zwp.go (m := 1) (j := 33) (ls' := [some (zr ((a0, 8, 0) : zF)), some (zi l1)]) (st' := [zr ((a0, 8, 0) : zF)]) (h' := h1) rfl ?_
      refine zc_sr (r := (((a0 + 5), 20, 9) : zF)) (zrf (a := a0) (y := 4) hR1 rfl ha0.2.2.2.2.2) rfl ?_
      refine zwp.go (m := 3) (j := 37) (ls' := [some (zr ((a0, 8, 0) : zF)), some (zi l1)]) (st' := [zi (zI h1 a0 6), zi (0 : Int32), zr (((a0 + 5), 20, 9) : zF)]) (h' := h1) rfl ?_
      refine zc_w e rfl hR1 (fun h2 hR2 e => ?_)
      refine zwp.go (m := 6) (j := 44) (ls' := [some (zr ((a0, 8, 0) : zF)), some (zi l1)]) (st' := [zi ((zI h2 a0 8) + (1 : Int32)), zi (9 : Int32), zr ((a0, 8, 0) : zF)]) (h' := h2) rfl ?_
      refine zc_cp (d := d + 0) e (fun q e => s_J9_min_7cf53_ok (d + 0) ρ hρ (9 : Int32) ((zI h2 a0 8) + (1 : Int32)) h2 q hR2 e) rfl rfl (fun v3 e => ?_)
      refine zc_w e rfl hR2 (fun h4 hR4 e => ?_)
      refine zwp.go (m := 5) (j := 51) (ls' := [some (zr ((a0, 8, 0) : zF)), some (zi l1)]) (st' := [zi ((zI h4 a0 7) + (1 : Int32)), zr ((a0, 8, 0) : zF)]) (h' := h4) rfl ?_
      refine zc_w e rfl hR4 (fun h5 hR5 e => ?_)
      cases e
      exact zwp.rv rfl ⟨⟨rfl, rfl⟩, hR5⟩
    · refine zwp.go (m := 1) (j := 5) (ls' := [some (zr ((a0, 8, 0) : zF)), some (zi l1)]) (st' := [zr ((a0, 8, 0) : zF)]) (h' := h) rfl ?_
      refine zc_sr (r := (((a0 + 4), 20, 9) : zF)) (zrf (a := a0) (y := 3) hR (zmu3 ha0.1) ha0.2.2.2.2.1) rfl ?_
      refine zwp.go (m := 2) (j := 8) (ls' := [some (zr ((a0, 8, 0) : zF)), some (zi l1)]) (st' := [zr ((a0, 8, 0) : zF), zi l1, zr (((a0 + 4), 20, 9) : zF)]) (h' := h) rfl ?_
      refine zc_sr (r := (((a0 + 4), 20, 9) : zF)) (zrf (a := a0) (y := 3) hR (zmu3 ha0.1) ha0.2.2.2.2.1) rfl ?_
      refine zwp.go (m := 3) (j := 12) (ls' := [some (zr ((a0, 8, 0) : zF)), some (zi l1)]) (st' := [zi (l1 - (1 : Int32)), zr (((a0 + 4), 20, 9) : zF), zi l1, zr (((a0 + 4), 20, 9) : zF)]) (h' := h) rfl ?_
      refine zc_ai e (fun _ => rfl) (fun i6 e => ?_)
      refine zc_si e (fun _ => rfl) hR (fun h7 hR7 e => ?_)
      refine zwp.go (m := 1) (j := 15) (ls' := [some (zr ((a0, 8, 0) : zF)), some (zi l1)]) (st' := [zr ((a0, 8, 0) : zF)]) (h' := h7) rfl ?_
      refine zc_sr (r := (((a0 + 5), 20, 9) : zF)) (zrf (a := a0) (y := 4) hR7 rfl ha0.2.2.2.2.2) rfl ?_
      refine zwp.go (m := 2) (j := 18) (ls' := [some (zr ((a0, 8, 0) : zF)), some (zi l1)]) (st' := [zr ((a0, 8, 0) : zF), zi l1, zr (((a0 + 5), 20, 9) : zF)]) (h' := h7) rfl ?_
      refine zc_sr (r := (((a0 + 5), 20, 9) : zF)) (zrf (a := a0) (y := 4) hR7 rfl ha0.2.2.2.2.2) rfl ?_
      refine zwp.go (m := 3) (j := 22) (ls' := [some (zr ((a0, 8, 0) : zF)), some (zi l1)]) (st' := [zi (l1 - (1 : Int32)), zr (((a0 + 5), 20, 9) : zF), zi l1, zr (((a0 + 5), 20, 9) : zF)]) (h' := h7) rfl ?_
      refine zc_ai e (fun _ => rfl) (fun i8 e => ?_)
      refine zc_si e (fun _ => rfl) hR7 (fun h9 hR9 e => ?_)
      refine zwp.go (m := 2) (j := 2) (ls' := [some (zr ((a0, 8, 0) : zF)), some (zi (l1 + (-1 : Int32)))]) (st' := []) (h' := h9) rfl ?_
      exact ih (l1 + (-1 : Int32)) h9 _ hR9 e
def s_X8_keepSail (a0 : Nat) (h : zH) : Option (zH) := s_X8_keepSail_L2 a0 zfu (8 : Int32) h
set_option maxRecDepth 100000 in
theorem s_X8_keepSail_ok (d : Nat) (ρ : Nat → Nat → Option zF) (hρ : zSh ρ) (a0 : Nat) (ha0 : zStS ρ a0) (h : zH) (res : zH) (hR : zRq h ρ) (e : s_X8_keepSail a0 h = some res) : zcl (d + 1) 143 [zr ((a0, 8, 0) : zF)] h (zQv ρ res) := by
  rw [s_X8_keepSail] at e
  refine ⟨zm_X8_keepSail, rfl, ?_⟩
  show zwp (d + 1) zm_X8_keepSail 0 [some (zr ((a0, 8, 0) : zF)), none] [] h _
  refine zwp.go (m := 2) (j := 2) (ls' := [some (zr ((a0, 8, 0) : zF)), some (zi (8 : Int32))]) (st' := []) (h' := h) rfl ?_
  exact s_X8_keepSail_L2_ok d ρ hρ a0 ha0 zfu (8 : Int32) h _ hR e
def s_X9_pass_J71 (a1 : Nat) (a2 : Nat) (l3 : Int32) (h : zH) : Option (Int32 × zH) := zlt (zwI h a2 6 ((zI h a2 6) + (1 : Int32))) fun h1 => zrt 1 l3 h1
set_option maxRecDepth 100000 in
theorem s_X9_pass_J71_ok (d : Nat) (ρ : Nat → Nat → Option zF) (hρ : zSh ρ) (a1 : Nat) (a2 : Nat) (ha1 : zPlS ρ a1) (ha2 : zStS ρ a2) (l3 : Int32) (h : zH) (res : Int32 × zH) (hR : zRq h ρ) (e : s_X9_pass_J71 a1 a2 l3 h = some res) : zwp (d + 4) zm_X9_pass 71 [none, none, some (zr ((a2, 8, 0) : zF)), some (zi l3)] [] h (zQi ρ res) := by
  rw [s_X9_pass_J71] at e
  refine zwp.go (m := 5) (j := 76) (ls' := [none, none, some (zr ((a2, 8, 0) : zF)), some (zi l3)]) (st' := [zi ((zI h a2 6) + (1 : Int32)), zr ((a2, 8, 0) : zF)]) (h' := h) rfl ?_
  refine zc_w e rfl hR (fun h1 hR1 e => ?_)
  refine zwp.go (m := 1) (j := 78) (ls' := [none, none, some (zr ((a2, 8, 0) : zF)), some (zi l3)]) (st' := [zi l3]) (h' := h1) rfl ?_
  exact zc_rt e rfl hR1
def s_X9_pass_J54 (a1 : Nat) (a2 : Nat) (s0 : Int32) (h : zH) : Option (Int32 × zH) := if s0 = 0 then (s_X9_pass_J71 a1 a2 s0 h) else (zlt (zwI h 36 2 (zI h a2 5)) fun h1 => zlt (zwI h1 36 3 (zI h1 (a2 + 3) 0)) fun h2 => (s_X8_keepSail a2 h2).bind fun h3 => (s_X8_beginSail a2 h3).bind fun h4 => s_X9_pass_J71 a1 a2 s0 h4)
set_option maxRecDepth 100000 in
theorem s_X9_pass_J54_ok (d : Nat) (ρ : Nat → Nat → Option zF) (hρ : zSh ρ) (a1 : Nat) (a2 : Nat) (ha1 : zPlS ρ a1) (ha2 : zStS ρ a2) (s0 : Int32) (h : zH) (res : Int32 × zH) (hR : zRq h ρ) (e : s_X9_pass_J54 a1 a2 s0 h = some res) : zwp (d + 4) zm_X9_pass 54 [some (zr ((36, 9, 0) : zF)), none, some (zr ((a2, 8, 0) : zF)), none] [zi s0] h (zQi ρ res) := by
  rw [s_X9_pass_J54] at e
  refine zwp.go (m := 2) (j := 56) (ls' := [some (zr ((36, 9, 0) : zF)), none, some (zr ((a2, 8, 0) : zF)), some (zi s0)]) (st' := [zi s0]) (h' := h) rfl ?_
  refine zb_if (j := 71) (j2 := 57) e rfl (fun e => ?_) (fun e => ?_)
  · refine zwp.fg (a := [none, none, some (zr ((a2, 8, 0) : zF)), some (zi s0)]) (And.intro rfl (And.intro rfl trivial)) ?_
    exact s_X9_pass_J71_ok d ρ hρ a1 a2 ha1 ha2 s0 h _ hR e
  · refine zwp.go (m := 3) (j := 60) (ls' := [some (zr ((36, 9, 0) : zF)), none, some (zr ((a2, 8, 0) : zF)), some (zi s0)]) (st' := [zi (zI h a2 5), zr ((36, 9, 0) : zF)]) (h' := h) rfl ?_
    refine zc_w e rfl hR (fun h1 hR1 e => ?_)
    refine zwp.go (m := 2) (j := 63) (ls' := [some (zr ((36, 9, 0) : zF)), none, some (zr ((a2, 8, 0) : zF)), some (zi s0)]) (st' := [zr ((a2, 8, 0) : zF), zr ((36, 9, 0) : zF)]) (h' := h1) rfl ?_
    refine zc_sr (r := (((a2 + 3), 20, 2) : zF)) (zrf (a := a2) (y := 2) hR1 rfl ha2.2.2.2.1) rfl ?_
    refine zwp.go (m := 2) (j := 66) (ls' := [some (zr ((36, 9, 0) : zF)), none, some (zr ((a2, 8, 0) : zF)), some (zi s0)]) (st' := [zi (zI h1 (a2 + 3) 0), zr ((36, 9, 0) : zF)]) (h' := h1) rfl ?_
    refine zc_w e rfl hR1 (fun h2 hR2 e => ?_)
    refine zwp.go (m := 1) (j := 68) (ls' := [some (zr ((36, 9, 0) : zF)), none, some (zr ((a2, 8, 0) : zF)), some (zi s0)]) (st' := [zr ((a2, 8, 0) : zF)]) (h' := h2) rfl ?_
    refine zc_cv (d := d + 3) e (fun q e => s_X8_keepSail_ok (d + 2) ρ hρ a2 ha2 h2 q hR2 e) rfl rfl (fun h3 hR3 e => ?_)
    refine zwp.go (m := 1) (j := 70) (ls' := [some (zr ((36, 9, 0) : zF)), none, some (zr ((a2, 8, 0) : zF)), some (zi s0)]) (st' := [zr ((a2, 8, 0) : zF)]) (h' := h3) rfl ?_
    refine zc_cv (d := d + 3) e (fun q e => s_X8_beginSail_ok (d + 3) ρ hρ a2 ha2 h3 q hR3 e) rfl rfl (fun h4 hR4 e => ?_)
    refine zwp.fg (a := [none, none, some (zr ((a2, 8, 0) : zF)), some (zi s0)]) (And.intro rfl (And.intro rfl trivial)) ?_
    exact s_X9_pass_J71_ok d ρ hρ a1 a2 ha1 ha2 s0 h4 _ hR4 e
def s_X9_pass_L2 (a1 : Nat) (a2 : Nat) : Nat → Int32 → zH → Option (Int32 × zH)
  | 0, _, _ => none
  | n + 1, l3, h => if (zI h a1 6) ≤ l3 then ((s_X9_weave a1 a2 (0 : Int32) h).bind fun h1 => (s_X9_weave a1 a2 (1 : Int32) h1).bind fun h2 => if (zI h2 a1 6) ≤ 0 then (s_X9_pass_J54 a1 a2 (0 : Int32) h2) else ((s_X9_someBetween a1 a2 h2).bind fun v3 => if ¬ v3 = 0 then (s_X9_pass_J54 a1 a2 (0 : Int32) h2) else (s_X9_pass_J54 a1 a2 (1 : Int32) h2))) else (zix l3 12 fun i4 => if (zI h (a2 + 1) i4) ≤ 0 then (s_X9_pass_L2 a1 a2 n (l3 + (1 : Int32)) h) else ((s_X3_isJaw a1 l3 h).bind fun v5 => if ¬ v5 = 0 then (s_X9_pass_L2 a1 a2 n (l3 + (1 : Int32)) h) else (zix l3 12 fun i6 => zbd (s_X9_rotOf a1 a2 l3 h) fun v8 h7 => (s_J9_max_7cf53 (0 : Int32) ((zI h (a2 + 1) i6) - v8) h7).bind fun v9 => zix l3 12 fun i11 => zlt (zwI h7 (a2 + 1) i11 v9) fun h10 => s_X9_pass_L2 a1 a2 n (l3 + (1 : Int32)) h10)))
set_option maxRecDepth 100000 in
theorem s_X9_pass_L2_ok (d : Nat) (ρ : Nat → Nat → Option zF) (hρ : zSh ρ) (a1 : Nat) (a2 : Nat) (ha1 : zPlS ρ a1) (ha2 : zStS ρ a2) : ∀ (n : Nat) (l3 : Int32) (h : zH) (res : Int32 × zH) (hR : zRq h ρ) (e : s_X9_pass_L2 a1 a2 n l3 h = some res), zwp (d + 4) zm_X9_pass 2 [some (zr ((36, 9, 0) : zF)), some (zr ((a1, 3, 0) : zF)), some (zr ((a2, 8, 0) : zF)), some (zi l3)] [] h (zQi ρ res) := by
  intro n
  induction n with
  | zero => intro l3 h res hR e; cases e
  | succ n ih =>
    intro l3 h res hR e
    rw [s_X9_pass_L2] at e
    refine zwp.go (m := 3) (j := 5) (ls' := [some (zr ((36, 9, 0) : zF)), some (zr ((a1, 3, 0) : zF)), some (zr ((a2, 8, 0) : zF)), some (zi l3)]) (st' := [zi (zI h a1 6), zi l3]) (h' := h) rfl ?_
    refine zb_if (j := 33) (j2 := 6) e rfl (fun e => ?_) (fun e => ?_)
    · refine zwp.go (m := 4) (j := 37) (ls' := [some (zr ((36, 9, 0) : zF)), some (zr ((a1, 3, 0) : zF)), some (zr ((a2, 8, 0) : zF)), some (zi l3)]) (st' := [zi (0 : Int32), zr ((a2, 8, 0) : zF), zr ((a1, 3, 0) : zF), zr ((36, 9, 0) : zF)]) (h' := h) rfl ?_
      refine zc_cv (d := d + 3) e (fun q e => s_X9_weave_ok (d + 0) ρ hρ a1 a2 (0 : Int32) ha1 ha2 h q hR e) rfl rfl (fun h1 hR1 e => ?_)
      refine zwp.go (m := 4) (j := 42) (ls' := [some (zr ((36, 9, 0) : zF)), some (zr ((a1, 3, 0) : zF)), some (zr ((a2, 8, 0) : zF)), some (zi l3)]) (st' := [zi (1 : Int32), zr ((a2, 8, 0) : zF), zr ((a1, 3, 0) : zF), zr ((36, 9, 0) : zF)]) (h' := h1) rfl ?_
      refine zc_cv (d := d + 3) e (fun q e => s_X9_weave_ok (d + 0) ρ hρ a1 a2 (1 : Int32) ha1 ha2 h1 q hR1 e) rfl rfl (fun h2 hR2 e => ?_)
      refine zwp.go (m := 2) (j := 45) (ls' := [some (zr ((36, 9, 0) : zF)), some (zr ((a1, 3, 0) : zF)), some (zr ((a2, 8, 0) : zF)), some (zi l3)]) (st' := [zi (zI h2 a1 6)]) (h' := h2) rfl ?_
      refine zb_if (j := 53) (j2 := 46) e rfl (fun e => ?_) (fun e => ?_)
      · refine zwp.go (m := 1) (j := 54) (ls' := [some (zr ((36, 9, 0) : zF)), some (zr ((a1, 3, 0) : zF)), some (zr ((a2, 8, 0) : zF)), some (zi l3)]) (st' := [zi (0 : Int32)]) (h' := h2) rfl ?_
        refine zwp.fg (a := [some (zr ((36, 9, 0) : zF)), none, some (zr ((a2, 8, 0) : zF)), none]) (And.intro rfl (And.intro rfl trivial)) ?_
        exact s_X9_pass_J54_ok d ρ hρ a1 a2 ha1 ha2 (0 : Int32) h2 _ hR2 e
      · refine zwp.go (m := 3) (j := 49) (ls' := [some (zr ((36, 9, 0) : zF)), some (zr ((a1, 3, 0) : zF)), some (zr ((a2, 8, 0) : zF)), some (zi l3)]) (st' := [zr ((a2, 8, 0) : zF), zr ((a1, 3, 0) : zF), zr ((36, 9, 0) : zF)]) (h' := h2) rfl ?_
        refine zc_cp (d := d + 3) e (fun q e => s_X9_someBetween_ok (d + 3) ρ hρ a1 a2 ha1 ha2 h2 q hR2 e) rfl rfl (fun v3 e => ?_)
        refine zb_if (j := 53) (j2 := 51) e rfl (fun e => ?_) (fun e => ?_)
        · refine zwp.go (m := 1) (j := 54) (ls' := [some (zr ((36, 9, 0) : zF)), some (zr ((a1, 3, 0) : zF)), some (zr ((a2, 8, 0) : zF)), some (zi l3)]) (st' := [zi (0 : Int32)]) (h' := h2) rfl ?_
          refine zwp.fg (a := [some (zr ((36, 9, 0) : zF)), none, some (zr ((a2, 8, 0) : zF)), none]) (And.intro rfl (And.intro rfl trivial)) ?_
          exact s_X9_pass_J54_ok d ρ hρ a1 a2 ha1 ha2 (0 : Int32) h2 _ hR2 e
        · refine zwp.go (m := 2) (j := 54) (ls' := [some (zr ((36, 9, 0) : zF)), some (zr ((a1, 3, 0) : zF)), some (zr ((a2, 8, 0) : zF)), some (zi l3)]) (st' := [zi (1 : Int32)]) (h' := h2) rfl ?_
          refine zwp.fg (a := [some (zr ((36, 9, 0) : zF)), none, some (zr ((a2, 8, 0) : zF)), none]) (And.intro rfl (And.intro rfl trivial)) ?_
          exact s_X9_pass_J54_ok d ρ hρ a1 a2 ha1 ha2 (1 : Int32) h2 _ hR2 e
    · refine zwp.go (m := 1) (j := 7) (ls' := [some (zr ((36, 9, 0) : zF)), some (zr ((a1, 3, 0) : zF)), some (zr ((a2, 8, 0) : zF)), some (zi l3)]) (st' := [zr ((a2, 8, 0) : zF)]) (h' := h) rfl ?_
      refine zc_sr (r := (((a2 + 1), 20, 12) : zF)) (zrf (a := a2) (y := 0) hR rfl ha2.2.1) rfl ?_
      refine zwp.go (m := 1) (j := 9) (ls' := [some (zr ((36, 9, 0) : zF)), some (zr ((a1, 3, 0) : zF)), some (zr ((a2, 8, 0) : zF)), some (zi l3)]) (st' := [zi l3, zr (((a2 + 1), 20, 12) : zF)]) (h' := h) rfl ?_
      refine zc_ai e (fun _ => rfl) (fun i4 e => ?_)
      refine zb_if (j := 31) (j2 := 11) e rfl (fun e => ?_) (fun e => ?_)
      · refine zwp.go (m := 2) (j := 2) (ls' := [some (zr ((36, 9, 0) : zF)), some (zr ((a1, 3, 0) : zF)), some (zr ((a2, 8, 0) : zF)), some (zi (l3 + (1 : Int32)))]) (st' := []) (h' := h) rfl ?_
        exact ih (l3 + (1 : Int32)) h _ hR e
      · refine zwp.go (m := 2) (j := 13) (ls' := [some (zr ((36, 9, 0) : zF)), some (zr ((a1, 3, 0) : zF)), some (zr ((a2, 8, 0) : zF)), some (zi l3)]) (st' := [zi l3, zr ((a1, 3, 0) : zF)]) (h' := h) rfl ?_
        refine zc_cp (d := d + 3) e (fun q e => s_X3_isJaw_ok (d + 3) ρ hρ a1 l3 ha1 h q hR e) rfl rfl (fun v5 e => ?_)
        refine zb_if (j := 31) (j2 := 15) e rfl (fun e => ?_) (fun e => ?_)
        · refine zwp.go (m := 2) (j := 2) (ls' := [some (zr ((36, 9, 0) : zF)), some (zr ((a1, 3, 0) : zF)), some (zr ((a2, 8, 0) : zF)), some (zi (l3 + (1 : Int32)))]) (st' := []) (h' := h) rfl ?_
          exact ih (l3 + (1 : Int32)) h _ hR e
        · refine zwp.go (m := 1) (j := 16) (ls' := [some (zr ((36, 9, 0) : zF)), some (zr ((a1, 3, 0) : zF)), some (zr ((a2, 8, 0) : zF)), some (zi l3)]) (st' := [zr ((a2, 8, 0) : zF)]) (h' := h) rfl ?_
          refine zc_sr (r := (((a2 + 1), 20, 12) : zF)) (zrf (a := a2) (y := 0) hR rfl ha2.2.1) rfl ?_
          refine zwp.go (m := 3) (j := 20) (ls' := [some (zr ((36, 9, 0) : zF)), some (zr ((a1, 3, 0) : zF)), some (zr ((a2, 8, 0) : zF)), some (zi l3)]) (st' := [zr ((a2, 8, 0) : zF), zi (0 : Int32), zi l3, zr (((a2 + 1), 20, 12) : zF)]) (h' := h) rfl ?_
          refine zc_sr (r := (((a2 + 1), 20, 12) : zF)) (zrf (a := a2) (y := 0) hR rfl ha2.2.1) rfl ?_
          refine zwp.go (m := 1) (j := 22) (ls' := [some (zr ((36, 9, 0) : zF)), some (zr ((a1, 3, 0) : zF)), some (zr ((a2, 8, 0) : zF)), some (zi l3)]) (st' := [zi l3, zr (((a2 + 1), 20, 12) : zF), zi (0 : Int32), zi l3, zr (((a2 + 1), 20, 12) : zF)]) (h' := h) rfl ?_
          refine zc_ai e (fun _ => rfl) (fun i6 e => ?_)
          refine zwp.go (m := 4) (j := 27) (ls' := [some (zr ((36, 9, 0) : zF)), some (zr ((a1, 3, 0) : zF)), some (zr ((a2, 8, 0) : zF)), some (zi l3)]) (st' := [zi l3, zr ((a2, 8, 0) : zF), zr ((a1, 3, 0) : zF), zr ((36, 9, 0) : zF), zi (zI h (a2 + 1) i6), zi (0 : Int32), zi l3, zr (((a2 + 1), 20, 12) : zF)]) (h' := h) rfl ?_
          refine zc_ci (d := d + 3) e (fun q e => s_X9_rotOf_ok (d + 1) ρ hρ a1 a2 l3 ha1 ha2 h q hR e) rfl rfl (fun v8 h7 hR7 e => ?_)
          refine zwp.go (m := 1) (j := 29) (ls' := [some (zr ((36, 9, 0) : zF)), some (zr ((a1, 3, 0) : zF)), some (zr ((a2, 8, 0) : zF)), some (zi l3)]) (st' := [zi ((zI h (a2 + 1) i6) - v8), zi (0 : Int32), zi l3, zr (((a2 + 1), 20, 12) : zF)]) (h' := h7) rfl ?_
          refine zc_cp (d := d + 3) e (fun q e => s_J9_max_7cf53_ok (d + 3) ρ hρ (0 : Int32) ((zI h (a2 + 1) i6) - v8) h7 q hR7 e) rfl rfl (fun v9 e => ?_)
          refine zc_si e (fun _ => rfl) hR7 (fun h10 hR10 e => ?_)
          refine zwp.go (m := 2) (j := 2) (ls' := [some (zr ((36, 9, 0) : zF)), some (zr ((a1, 3, 0) : zF)), some (zr ((a2, 8, 0) : zF)), some (zi (l3 + (1 : Int32)))]) (st' := []) (h' := h10) rfl ?_
          exact ih (l3 + (1 : Int32)) h10 _ hR10 e
def s_X9_pass (a1 : Nat) (a2 : Nat) (h : zH) : Option (Int32 × zH) := s_X9_pass_L2 a1 a2 zfu (0 : Int32) h
set_option maxRecDepth 100000 in
theorem s_X9_pass_ok (d : Nat) (ρ : Nat → Nat → Option zF) (hρ : zSh ρ) (a1 : Nat) (a2 : Nat) (ha1 : zPlS ρ a1) (ha2 : zStS ρ a2) (h : zH) (res : Int32 × zH) (hR : zRq h ρ) (e : s_X9_pass a1 a2 h = some res) : zcl (d + 4) 144 [zr ((36, 9, 0) : zF), zr ((a1, 3, 0) : zF), zr ((a2, 8, 0) : zF)] h (zQi ρ res) := by
  rw [s_X9_pass] at e
  refine ⟨zm_X9_pass, rfl, ?_⟩
  show zwp (d + 4) zm_X9_pass 0 [some (zr ((36, 9, 0) : zF)), some (zr ((a1, 3, 0) : zF)), some (zr ((a2, 8, 0) : zF)), none] [] h _
  refine zwp.go (m := 2) (j := 2) (ls' := [some (zr ((36, 9, 0) : zF)), some (zr ((a1, 3, 0) : zF)), some (zr ((a2, 8, 0) : zF)), some (zi (0 : Int32))]) (st' := []) (h' := h) rfl ?_
  exact s_X9_pass_L2_ok d ρ hρ a1 a2 ha1 ha2 zfu (0 : Int32) h _ hR e
def s_X10_days_J14 (pp : Nat) (h : zH) : Option (Int32 × zH) := zbd (s_X10_refuse pp (1 : Int32) h) fun v2 h1 => some (v2, h1)
set_option maxRecDepth 100000 in
theorem s_X10_days_J14_ok (d : Nat) (ρ : Nat → Nat → Option zF) (hρ : zSh ρ) (pp : Nat) (hpp : ρ 0 3 = some (pp, 3, 0) ∧ zPlS ρ pp) (h : zH) (res : Int32 × zH) (hR : zRq h ρ) (e : s_X10_days_J14 pp  h = some res) : zwp (d + 5) zm_X10_days 14 [some (zr ((0, 10, 0) : zF)), none, none] [] h (zQi ρ res) := by
  rw [s_X10_days_J14] at e
  refine zwp.go (m := 2) (j := 16) (ls' := [some (zr ((0, 10, 0) : zF)), none, none]) (st' := [zi (1 : Int32), zr ((0, 10, 0) : zF)]) (h' := h) rfl ?_
  refine zc_ci (d := d + 4) e (fun q e => s_X10_refuse_ok (d + 4) ρ hρ pp (1 : Int32) hpp h q hR e) rfl rfl (fun v2 h1 hR1 e => ?_)
  cases e
  exact zwp.ret rfl rfl ⟨⟨rfl, rfl⟩, hR1⟩
def s_X10_days_L22 (pp : Nat) : Nat → Int32 → Int32 → zH → Option (Int32 × zH)
  | 0, _, _, _ => none
  | n + 1, l1, l2, h => if l1 ≤ l2 then (some ((zI h 19 6), h)) else (zbd (s_X9_pass pp 19 h) fun v2 h1 => s_X10_days_L22 pp n l1 (l2 + (1 : Int32)) h1)
set_option maxRecDepth 100000 in
theorem s_X10_days_L22_ok (d : Nat) (ρ : Nat → Nat → Option zF) (hρ : zSh ρ) (pp : Nat) (hpp : ρ 0 3 = some (pp, 3, 0) ∧ zPlS ρ pp) : ∀ (n : Nat) (l1 : Int32) (l2 : Int32) (h : zH) (res : Int32 × zH) (hR : zRq h ρ) (e : s_X10_days_L22 pp n l1 l2 h = some res), zwp (d + 5) zm_X10_days 22 [some (zr ((0, 10, 0) : zF)), some (zi l1), some (zi l2)] [] h (zQi ρ res) := by
  intro n
  induction n with
  | zero => intro l1 l2 h res hR e; cases e
  | succ n ih =>
    intro l1 l2 h res hR e
    rw [s_X10_days_L22] at e
    refine zwp.go (m := 2) (j := 24) (ls' := [some (zr ((0, 10, 0) : zF)), some (zi l1), some (zi l2)]) (st' := [zi l1, zi l2]) (h' := h) rfl ?_
    refine zb_if (j := 36) (j2 := 25) e rfl (fun e => ?_) (fun e => ?_)
    · refine zwp.go (m := 1) (j := 37) (ls' := [some (zr ((0, 10, 0) : zF)), some (zi l1), some (zi l2)]) (st' := [zr ((0, 10, 0) : zF)]) (h' := h) rfl ?_
      refine zc_sr (r := ((18, 2, 0) : zF)) (zrf (a := 0) (y := 6) hR rfl (hρ 0 6 rfl)) rfl ?_
      refine zc_sr (r := ((19, 8, 0) : zF)) (zrf (a := 18) (y := 0) hR rfl (zSh_ld18 hρ).2.1) rfl ?_
      refine zwp.go (m := 1) (j := 40) (ls' := [some (zr ((0, 10, 0) : zF)), some (zi l1), some (zi l2)]) (st' := [zi (zI h 19 6)]) (h' := h) rfl ?_
      cases e
      exact zwp.ret rfl rfl ⟨⟨rfl, rfl⟩, hR⟩
    · refine zwp.go (m := 1) (j := 26) (ls' := [some (zr ((0, 10, 0) : zF)), some (zi l1), some (zi l2)]) (st' := [zr ((0, 10, 0) : zF)]) (h' := h) rfl ?_
      refine zc_sr (r := ((36, 9, 0) : zF)) (zrf (a := 0) (y := 10) hR rfl (hρ 0 10 rfl)) rfl ?_
      refine zwp.go (m := 1) (j := 28) (ls' := [some (zr ((0, 10, 0) : zF)), some (zi l1), some (zi l2)]) (st' := [zr ((0, 10, 0) : zF), zr ((36, 9, 0) : zF)]) (h' := h) rfl ?_
      refine zc_sr (r := ((pp, 3, 0) : zF)) (zrf (a := 0) (y := 3) hR rfl hpp.1) rfl ?_
      refine zwp.go (m := 1) (j := 30) (ls' := [some (zr ((0, 10, 0) : zF)), some (zi l1), some (zi l2)]) (st' := [zr ((0, 10, 0) : zF), zr ((pp, 3, 0) : zF), zr ((36, 9, 0) : zF)]) (h' := h) rfl ?_
      refine zc_sr (r := ((18, 2, 0) : zF)) (zrf (a := 0) (y := 6) hR rfl (hρ 0 6 rfl)) rfl ?_
      refine zc_sr (r := ((19, 8, 0) : zF)) (zrf (a := 18) (y := 0) hR rfl (zSh_ld18 hρ).2.1) rfl ?_
      refine zc_ci (d := d + 4) e (fun q e => s_X9_pass_ok (d + 0) ρ hρ pp 19 hpp.2 (zSh_st19 hρ) h q hR e) rfl rfl (fun v2 h1 hR1 e => ?_)
      refine zwp.go (m := 3) (j := 22) (ls' := [some (zr ((0, 10, 0) : zF)), some (zi l1), some (zi (l2 + (1 : Int32)))]) (st' := []) (h' := h1) rfl ?_
      exact ih l1 (l2 + (1 : Int32)) h1 _ hR1 e
def s_X10_days (pp : Nat) (a1 : Int32) (h : zH) : Option (Int32 × zH) := if a1 < (1 : Int32) then (s_X10_days_J14 pp h) else (if (20 : Int32) < a1 then (s_X10_days_J14 pp h) else (if ((zI h 19 6) + a1) ≤ (999 : Int32) then ((s_X10_keepAct pp h).bind fun h1 => s_X10_days_L22 pp zfu a1 (0 : Int32) h1) else (s_X10_days_J14 pp h)))
set_option maxRecDepth 100000 in
theorem s_X10_days_ok (d : Nat) (ρ : Nat → Nat → Option zF) (hρ : zSh ρ) (pp : Nat) (a1 : Int32) (hpp : ρ 0 3 = some (pp, 3, 0) ∧ zPlS ρ pp) (h : zH) (res : Int32 × zH) (hR : zRq h ρ) (e : s_X10_days pp a1 h = some res) : zcl (d + 5) 145 [zr ((0, 10, 0) : zF), zi a1] h (zQi ρ res) := by
  rw [s_X10_days] at e
  refine ⟨zm_X10_days, rfl, ?_⟩
  show zwp (d + 5) zm_X10_days 0 [some (zr ((0, 10, 0) : zF)), some (zi a1), none] [] h _
  refine zwp.go (m := 2) (j := 2) (ls' := [some (zr ((0, 10, 0) : zF)), some (zi a1), none]) (st' := [zi (1 : Int32), zi a1]) (h' := h) rfl ?_
  refine zb_if (j := 14) (j2 := 3) e rfl (fun e => ?_) (fun e => ?_)
  · refine zwp.fg (a := [some (zr ((0, 10, 0) : zF)), none, none]) (And.intro rfl trivial) ?_
    exact s_X10_days_J14_ok d ρ hρ pp hpp h _ hR e
  · refine zwp.go (m := 2) (j := 5) (ls' := [some (zr ((0, 10, 0) : zF)), some (zi a1), none]) (st' := [zi (20 : Int32), zi a1]) (h' := h) rfl ?_
    refine zb_if (j := 14) (j2 := 6) e rfl (fun e => ?_) (fun e => ?_)
    · refine zwp.fg (a := [some (zr ((0, 10, 0) : zF)), none, none]) (And.intro rfl trivial) ?_
      exact s_X10_days_J14_ok d ρ hρ pp hpp h _ hR e
    · refine zwp.go (m := 1) (j := 7) (ls' := [some (zr ((0, 10, 0) : zF)), some (zi a1), none]) (st' := [zr ((0, 10, 0) : zF)]) (h' := h) rfl ?_
      refine zc_sr (r := ((18, 2, 0) : zF)) (zrf (a := 0) (y := 6) hR rfl (hρ 0 6 rfl)) rfl ?_
      refine zc_sr (r := ((19, 8, 0) : zF)) (zrf (a := 18) (y := 0) hR rfl (zSh_ld18 hρ).2.1) rfl ?_
      refine zwp.go (m := 4) (j := 13) (ls' := [some (zr ((0, 10, 0) : zF)), some (zi a1), none]) (st' := [zi (999 : Int32), zi ((zI h 19 6) + a1)]) (h' := h) rfl ?_
      refine zb_if (j := 18) (j2 := 14) e rfl (fun e => ?_) (fun e => ?_)
      · refine zwp.go (m := 1) (j := 19) (ls' := [some (zr ((0, 10, 0) : zF)), some (zi a1), none]) (st' := [zr ((0, 10, 0) : zF)]) (h' := h) rfl ?_
        refine zc_cv (d := d + 4) e (fun q e => s_X10_keepAct_ok (d + 2) ρ hρ pp hpp h q hR e) rfl rfl (fun h1 hR1 e => ?_)
        refine zwp.go (m := 2) (j := 22) (ls' := [some (zr ((0, 10, 0) : zF)), some (zi a1), some (zi (0 : Int32))]) (st' := []) (h' := h1) rfl ?_
        exact s_X10_days_L22_ok d ρ hρ pp hpp zfu a1 (0 : Int32) h1 _ hR1 e
      · refine zwp.fg (a := [some (zr ((0, 10, 0) : zF)), none, none]) (And.intro rfl trivial) ?_
        exact s_X10_days_J14_ok d ρ hρ pp hpp h _ hR e
def s_X11_refuse (a1 : Int32) (h : zH) : Option (Int32 × zH) := zix a1 3 fun i1 => zix a1 3 fun i3 => zlt (zwI h 62 i3 ((zI h 62 i1) + (1 : Int32))) fun h2 => some ((-1 : Int32), h2)
set_option maxRecDepth 100000 in
theorem s_X11_refuse_ok (d : Nat) (ρ : Nat → Nat → Option zF) (hρ : zSh ρ) (a1 : Int32) (h : zH) (res : Int32 × zH) (hR : zRq h ρ) (e : s_X11_refuse a1 h = some res) : zcl d 146 [zr ((52, 11, 0) : zF), zi a1] h (zQi ρ res) := by
  rw [s_X11_refuse] at e
  refine ⟨zm_X11_refuse, rfl, ?_⟩
  show zwp d zm_X11_refuse 0 [some (zr ((52, 11, 0) : zF)), some (zi a1)] [] h _
  refine zwp.go (m := 1) (j := 1) (ls' := [some (zr ((52, 11, 0) : zF)), some (zi a1)]) (st' := [zr ((52, 11, 0) : zF)]) (h' := h) rfl ?_
  refine zc_sr (r := ((62, 20, 3) : zF)) (zrf (a := 52) (y := 11) hR rfl (hρ 52 11 rfl)) rfl ?_
  refine zwp.go (m := 2) (j := 4) (ls' := [some (zr ((52, 11, 0) : zF)), some (zi a1)]) (st' := [zi a1, zr ((62, 20, 3) : zF), zi a1, zr ((62, 20, 3) : zF)]) (h' := h) rfl ?_
  refine zc_ai e (fun _ => rfl) (fun i1 e => ?_)
  refine zwp.go (m := 2) (j := 7) (ls' := [some (zr ((52, 11, 0) : zF)), some (zi a1)]) (st' := [zi ((zI h 62 i1) + (1 : Int32)), zi a1, zr ((62, 20, 3) : zF)]) (h' := h) rfl ?_
  refine zc_si e (fun _ => rfl) hR (fun h2 hR2 e => ?_)
  refine zwp.go (m := 1) (j := 9) (ls' := [some (zr ((52, 11, 0) : zF)), some (zi a1)]) (st' := [zi (-1 : Int32)]) (h' := h2) rfl ?_
  cases e
  exact zwp.ret rfl rfl ⟨⟨rfl, rfl⟩, hR2⟩
def s_X11_pack_L73 (a1 n1 : Nat) : Nat → Int32 → Int32 → zH → Option (zH)
  | 0, _, _, _ => none
  | n + 1, l2, l3, h => if (12 : Int32) ≤ l3 then (zix ((l2 + (38 : Int32)) - (2 : Int32)) n1 fun i4 => zlt (zwI h a1 i4 (zI h 65 0)) fun h1 => zix ((l2 + (38 : Int32)) - (1 : Int32)) n1 fun i3 => zlt (zwI h1 a1 i3 (zI h1 65 1)) fun h2 => some h2) else (zix l3 12 fun i5 => zix (((l2 + (6 : Int32)) + (18 : Int32)) + l3) n1 fun i7 => zlt (zwI h a1 i7 (zI h 64 i5)) fun h6 => s_X11_pack_L73 a1 n1 n l2 (l3 + (1 : Int32)) h6)
set_option maxRecDepth 100000 in
theorem s_X11_pack_L73_ok (d : Nat) (ρ : Nat → Nat → Option zF) (hρ : zSh ρ) (a1 n1 : Nat) : ∀ (n : Nat) (l2 : Int32) (l3 : Int32) (h : zH) (res : zH) (hR : zRq h ρ) (e : s_X11_pack_L73 a1 n1 n l2 l3 h = some res), zwp d zm_X11_pack 73 [some (zr ((52, 11, 0) : zF)), some (zr ((a1, 20, n1) : zF)), some (zi l2), some (zi l3)] [] h (zQv ρ res) := by
  intro n
  induction n with
  | zero => intro l2 l3 h res hR e; cases e
  | succ n ih =>
    intro l2 l3 h res hR e
    rw [s_X11_pack_L73] at e
    refine zwp.go (m := 2) (j := 75) (ls' := [some (zr ((52, 11, 0) : zF)), some (zr ((a1, 20, n1) : zF)), some (zi l2), some (zi l3)]) (st' := [zi (12 : Int32), zi l3]) (h' := h) rfl ?_
    refine zb_if (j := 91) (j2 := 76) e rfl (fun e => ?_) (fun e => ?_)
    · refine zwp.go (m := 7) (j := 98) (ls' := [some (zr ((52, 11, 0) : zF)), some (zr ((a1, 20, n1) : zF)), some (zi l2), some (zi l3)]) (st' := [zr ((52, 11, 0) : zF), zi ((l2 + (38 : Int32)) - (2 : Int32)), zr ((a1, 20, n1) : zF)]) (h' := h) rfl ?_
      refine zc_sr (r := ((65, 20, 2) : zF)) (zrf (a := 52) (y := 25) hR rfl (hρ 52 25 rfl)) rfl ?_
      refine zwp.go (m := 2) (j := 101) (ls' := [some (zr ((52, 11, 0) : zF)), some (zr ((a1, 20, n1) : zF)), some (zi l2), some (zi l3)]) (st' := [zi (zI h 65 0), zi ((l2 + (38 : Int32)) - (2 : Int32)), zr ((a1, 20, n1) : zF)]) (h' := h) rfl ?_
      refine zc_si e (fun _ => rfl) hR (fun h1 hR1 e => ?_)
      refine zwp.go (m := 7) (j := 109) (ls' := [some (zr ((52, 11, 0) : zF)), some (zr ((a1, 20, n1) : zF)), some (zi l2), some (zi l3)]) (st' := [zr ((52, 11, 0) : zF), zi ((l2 + (38 : Int32)) - (1 : Int32)), zr ((a1, 20, n1) : zF)]) (h' := h1) rfl ?_
      refine zc_sr (r := ((65, 20, 2) : zF)) (zrf (a := 52) (y := 25) hR1 rfl (hρ 52 25 rfl)) rfl ?_
      refine zwp.go (m := 2) (j := 112) (ls' := [some (zr ((52, 11, 0) : zF)), some (zr ((a1, 20, n1) : zF)), some (zi l2), some (zi l3)]) (st' := [zi (zI h1 65 1), zi ((l2 + (38 : Int32)) - (1 : Int32)), zr ((a1, 20, n1) : zF)]) (h' := h1) rfl ?_
      refine zc_si e (fun _ => rfl) hR1 (fun h2 hR2 e => ?_)
      cases e
      exact zwp.rv rfl ⟨⟨rfl, rfl⟩, hR2⟩
    · refine zwp.go (m := 9) (j := 85) (ls' := [some (zr ((52, 11, 0) : zF)), some (zr ((a1, 20, n1) : zF)), some (zi l2), some (zi l3)]) (st' := [zr ((52, 11, 0) : zF), zi (((l2 + (6 : Int32)) + (18 : Int32)) + l3), zr ((a1, 20, n1) : zF)]) (h' := h) rfl ?_
      refine zc_sr (r := ((64, 20, 12) : zF)) (zrf (a := 52) (y := 24) hR rfl (hρ 52 24 rfl)) rfl ?_
      refine zwp.go (m := 1) (j := 87) (ls' := [some (zr ((52, 11, 0) : zF)), some (zr ((a1, 20, n1) : zF)), some (zi l2), some (zi l3)]) (st' := [zi l3, zr ((64, 20, 12) : zF), zi (((l2 + (6 : Int32)) + (18 : Int32)) + l3), zr ((a1, 20, n1) : zF)]) (h' := h) rfl ?_
      refine zc_ai e (fun _ => rfl) (fun i5 e => ?_)
      refine zc_si e (fun _ => rfl) hR (fun h6 hR6 e => ?_)
      refine zwp.go (m := 2) (j := 73) (ls' := [some (zr ((52, 11, 0) : zF)), some (zr ((a1, 20, n1) : zF)), some (zi l2), some (zi (l3 + (1 : Int32)))]) (st' := []) (h' := h6) rfl ?_
      exact ih l2 (l3 + (1 : Int32)) h6 _ hR6 e
def s_X11_pack_L42 (a1 n1 : Nat) : Nat → Int32 → Int32 → zH → Option (zH)
  | 0, _, _, _ => none
  | n + 1, l2, l3, h => if (9 : Int32) ≤ l3 then (s_X11_pack_L73 a1 n1 zfu l2 (0 : Int32) h) else (zix l3 9 fun i1 => zix ((l2 + (6 : Int32)) + l3) n1 fun i6 => zlt (zwI h a1 i6 (zI h 66 i1)) fun h2 => zix l3 9 fun i3 => zix (((l2 + (6 : Int32)) + (9 : Int32)) + l3) n1 fun i5 => zlt (zwI h2 a1 i5 (zI h2 67 i3)) fun h4 => s_X11_pack_L42 a1 n1 n l2 (l3 + (1 : Int32)) h4)
set_option maxRecDepth 100000 in
theorem s_X11_pack_L42_ok (d : Nat) (ρ : Nat → Nat → Option zF) (hρ : zSh ρ) (a1 n1 : Nat) : ∀ (n : Nat) (l2 : Int32) (l3 : Int32) (h : zH) (res : zH) (hR : zRq h ρ) (e : s_X11_pack_L42 a1 n1 n l2 l3 h = some res), zwp d zm_X11_pack 42 [some (zr ((52, 11, 0) : zF)), some (zr ((a1, 20, n1) : zF)), some (zi l2), some (zi l3)] [] h (zQv ρ res) := by
  intro n
  induction n with
  | zero => intro l2 l3 h res hR e; cases e
  | succ n ih =>
    intro l2 l3 h res hR e
    rw [s_X11_pack_L42] at e
    refine zwp.go (m := 2) (j := 44) (ls' := [some (zr ((52, 11, 0) : zF)), some (zr ((a1, 20, n1) : zF)), some (zi l2), some (zi l3)]) (st' := [zi (9 : Int32), zi l3]) (h' := h) rfl ?_
    refine zb_if (j := 71) (j2 := 45) e rfl (fun e => ?_) (fun e => ?_)
    · refine zwp.go (m := 2) (j := 73) (ls' := [some (zr ((52, 11, 0) : zF)), some (zr ((a1, 20, n1) : zF)), some (zi l2), some (zi (0 : Int32))]) (st' := []) (h' := h) rfl ?_
      exact s_X11_pack_L73_ok d ρ hρ a1 n1 zfu l2 (0 : Int32) h _ hR e
    · refine zwp.go (m := 7) (j := 52) (ls' := [some (zr ((52, 11, 0) : zF)), some (zr ((a1, 20, n1) : zF)), some (zi l2), some (zi l3)]) (st' := [zr ((52, 11, 0) : zF), zi ((l2 + (6 : Int32)) + l3), zr ((a1, 20, n1) : zF)]) (h' := h) rfl ?_
      refine zc_sr (r := ((66, 20, 9) : zF)) (zrf (a := 52) (y := 26) hR rfl (hρ 52 26 rfl)) rfl ?_
      refine zwp.go (m := 1) (j := 54) (ls' := [some (zr ((52, 11, 0) : zF)), some (zr ((a1, 20, n1) : zF)), some (zi l2), some (zi l3)]) (st' := [zi l3, zr ((66, 20, 9) : zF), zi ((l2 + (6 : Int32)) + l3), zr ((a1, 20, n1) : zF)]) (h' := h) rfl ?_
      refine zc_ai e (fun _ => rfl) (fun i1 e => ?_)
      refine zc_si e (fun _ => rfl) hR (fun h2 hR2 e => ?_)
      refine zwp.go (m := 9) (j := 65) (ls' := [some (zr ((52, 11, 0) : zF)), some (zr ((a1, 20, n1) : zF)), some (zi l2), some (zi l3)]) (st' := [zr ((52, 11, 0) : zF), zi (((l2 + (6 : Int32)) + (9 : Int32)) + l3), zr ((a1, 20, n1) : zF)]) (h' := h2) rfl ?_
      refine zc_sr (r := ((67, 20, 9) : zF)) (zrf (a := 52) (y := 27) hR2 rfl (hρ 52 27 rfl)) rfl ?_
      refine zwp.go (m := 1) (j := 67) (ls' := [some (zr ((52, 11, 0) : zF)), some (zr ((a1, 20, n1) : zF)), some (zi l2), some (zi l3)]) (st' := [zi l3, zr ((67, 20, 9) : zF), zi (((l2 + (6 : Int32)) + (9 : Int32)) + l3), zr ((a1, 20, n1) : zF)]) (h' := h2) rfl ?_
      refine zc_ai e (fun _ => rfl) (fun i3 e => ?_)
      refine zc_si e (fun _ => rfl) hR2 (fun h4 hR4 e => ?_)
      refine zwp.go (m := 2) (j := 42) (ls' := [some (zr ((52, 11, 0) : zF)), some (zr ((a1, 20, n1) : zF)), some (zi l2), some (zi (l3 + (1 : Int32)))]) (st' := []) (h' := h4) rfl ?_
      exact ih l2 (l3 + (1 : Int32)) h4 _ hR4 e
def s_X11_pack (a1 n1 : Nat) (a2 : Int32) (h : zH) : Option (zH) := zix a2 n1 fun i12 => zlt (zwI h a1 i12 (zI h 52 29)) fun h1 => zix (a2 + (1 : Int32)) n1 fun i11 => zlt (zwI h1 a1 i11 (zI h1 52 30)) fun h2 => zix (a2 + (2 : Int32)) n1 fun i10 => zlt (zwI h2 a1 i10 (zI h2 52 31)) fun h3 => zix (a2 + (3 : Int32)) n1 fun i9 => zlt (zwI h3 a1 i9 (zI h3 52 32)) fun h4 => zix (a2 + (4 : Int32)) n1 fun i8 => zlt (zwI h4 a1 i8 (zI h4 52 33)) fun h5 => zix (a2 + (5 : Int32)) n1 fun i7 => zlt (zwI h5 a1 i7 (zI h5 52 34)) fun h6 => s_X11_pack_L42 a1 n1 zfu a2 (0 : Int32) h6
set_option maxRecDepth 100000 in
theorem s_X11_pack_ok (d : Nat) (ρ : Nat → Nat → Option zF) (hρ : zSh ρ) (a1 n1 : Nat) (a2 : Int32) (h : zH) (res : zH) (hR : zRq h ρ) (e : s_X11_pack a1 n1 a2 h = some res) : zcl d 147 [zr ((52, 11, 0) : zF), zr ((a1, 20, n1) : zF), zi a2] h (zQv ρ res) := by
  rw [s_X11_pack] at e
  refine ⟨zm_X11_pack, rfl, ?_⟩
  show zwp d zm_X11_pack 0 [some (zr ((52, 11, 0) : zF)), some (zr ((a1, 20, n1) : zF)), some (zi a2), none] [] h _
  refine zwp.go (m := 4) (j := 4) (ls' := [some (zr ((52, 11, 0) : zF)), some (zr ((a1, 20, n1) : zF)), some (zi a2), none]) (st' := [zi (zI h 52 29), zi a2, zr ((a1, 20, n1) : zF)]) (h' := h) rfl ?_
  refine zc_si e (fun _ => rfl) hR (fun h1 hR1 e => ?_)
  refine zwp.go (m := 6) (j := 11) (ls' := [some (zr ((52, 11, 0) : zF)), some (zr ((a1, 20, n1) : zF)), some (zi a2), none]) (st' := [zi (zI h1 52 30), zi (a2 + (1 : Int32)), zr ((a1, 20, n1) : zF)]) (h' := h1) rfl ?_
  refine zc_si e (fun _ => rfl) hR1 (fun h2 hR2 e => ?_)
  refine zwp.go (m := 6) (j := 18) (ls' := [some (zr ((52, 11, 0) : zF)), some (zr ((a1, 20, n1) : zF)), some (zi a2), none]) (st' := [zi (zI h2 52 31), zi (a2 + (2 : Int32)), zr ((a1, 20, n1) : zF)]) (h' := h2) rfl ?_
  refine zc_si e (fun _ => rfl) hR2 (fun h3 hR3 e => ?_)
  refine zwp.go (m := 6) (j := 25) (ls' := [some (zr ((52, 11, 0) : zF)), some (zr ((a1, 20, n1) : zF)), some (zi a2), none]) (st' := [zi (zI h3 52 32), zi (a2 + (3 : Int32)), zr ((a1, 20, n1) : zF)]) (h' := h3) rfl ?_
  refine zc_si e (fun _ => rfl) hR3 (fun h4 hR4 e => ?_)
  refine zwp.go (m := 6) (j := 32) (ls' := [some (zr ((52, 11, 0) : zF)), some (zr ((a1, 20, n1) : zF)), some (zi a2), none]) (st' := [zi (zI h4 52 33), zi (a2 + (4 : Int32)), zr ((a1, 20, n1) : zF)]) (h' := h4) rfl ?_
  refine zc_si e (fun _ => rfl) hR4 (fun h5 hR5 e => ?_)
  refine zwp.go (m := 6) (j := 39) (ls' := [some (zr ((52, 11, 0) : zF)), some (zr ((a1, 20, n1) : zF)), some (zi a2), none]) (st' := [zi (zI h5 52 34), zi (a2 + (5 : Int32)), zr ((a1, 20, n1) : zF)]) (h' := h5) rfl ?_
  refine zc_si e (fun _ => rfl) hR5 (fun h6 hR6 e => ?_)
  refine zwp.go (m := 2) (j := 42) (ls' := [some (zr ((52, 11, 0) : zF)), some (zr ((a1, 20, n1) : zF)), some (zi a2), some (zi (0 : Int32))]) (st' := []) (h' := h6) rfl ?_
  exact s_X11_pack_L42_ok d ρ hρ a1 n1 zfu a2 (0 : Int32) h6 _ hR6 e
