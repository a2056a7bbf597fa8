/-! ===== methods as functions, 2 ===== -/
def s_X4_readOperation_J77 (tp : Nat) (s1 : Int32) (h : zH) : Option (Int32 × zH) := (s_X4_expectPart tp s1 h).bind fun h1 => some ((0 : Int32), h1)
theorem s_X4_readOperation_J77_ok (d : Nat) (ρ : Nat → Nat → Option zF) (hρ : zSh ρ) (tp : Nat) (htp : ρ 16 2 = some (tp, 3, 0) ∧ zPlS ρ tp) (s1 : Int32) (h : zH) (res : Int32 × zH) (hR : zRq h ρ) (e : s_X4_readOperation_J77 tp s1 h = some res) : zwp (d + 6) zm_X4_readOperation 77 [none, none, none] [zi s1, zr ((16, 4, 0) : zF)] h (zQi ρ res) := by
  rw [s_X4_readOperation_J77] at e
  refine zc_cv (d := d + 5) e (fun q e => s_X4_expectPart_ok (d + 5) ρ hρ tp s1 htp h q hR e) rfl rfl (fun h1 hR1 e => ?_)
  refine zwp.go (m := 1) (j := 79) (ls' := [none, none, none]) (st' := [zi (0 : Int32)]) (h' := h1) rfl ?_
  cases e
  exact zwp.ret rfl rfl ⟨⟨rfl, rfl⟩, hR1⟩
def s_X4_readOperation_J67 (tp : Nat) (l1 : Int32) (l2 : Int32) (h : zH) : Option (Int32 × zH) := (s_X4_hold tp l1 h).bind fun h1 => if (2 : Int32) < l2 then (s_X4_readOperation_J77 tp (0 : Int32) h1) else (s_X4_readOperation_J77 tp (1 : Int32) h1)
theorem s_X4_readOperation_J67_ok (d : Nat) (ρ : Nat → Nat → Option zF) (hρ : zSh ρ) (tp : Nat) (htp : ρ 16 2 = some (tp, 3, 0) ∧ zPlS ρ tp) (l1 : Int32) (l2 : Int32) (h : zH) (res : Int32 × zH) (hR : zRq h ρ) (e : s_X4_readOperation_J67 tp l1 l2 h = some res) : zwp (d + 6) zm_X4_readOperation 67 [some (zr ((16, 4, 0) : zF)), some (zi l1), some (zi l2)] [] h (zQi ρ res) := by
  rw [s_X4_readOperation_J67] at e
  refine zwp.go (m := 2) (j := 69) (ls' := [some (zr ((16, 4, 0) : zF)), some (zi l1), some (zi l2)]) (st' := [zi l1, zr ((16, 4, 0) : zF)]) (h' := h) rfl ?_
  refine zc_cv (d := d + 5) e (fun q e => s_X4_hold_ok (d + 5) ρ hρ tp l1 htp h q hR e) rfl rfl (fun h1 hR1 e => ?_)
  refine zwp.go (m := 3) (j := 73) (ls' := [some (zr ((16, 4, 0) : zF)), some (zi l1), some (zi l2)]) (st' := [zi (2 : Int32), zi l2, zr ((16, 4, 0) : zF)]) (h' := h1) rfl ?_
  refine zb_if (j := 76) (j2 := 74) e rfl (fun e => ?_) (fun e => ?_)
  · refine zwp.go (m := 1) (j := 77) (ls' := [some (zr ((16, 4, 0) : zF)), some (zi l1), some (zi l2)]) (st' := [zi (0 : Int32), zr ((16, 4, 0) : zF)]) (h' := h1) rfl ?_
    refine zwp.fg (a := [none, none, none]) trivial ?_
    exact s_X4_readOperation_J77_ok d ρ hρ tp htp (0 : Int32) h1 _ hR1 e
  · refine zwp.go (m := 2) (j := 77) (ls' := [some (zr ((16, 4, 0) : zF)), some (zi l1), some (zi l2)]) (st' := [zi (1 : Int32), zr ((16, 4, 0) : zF)]) (h' := h1) rfl ?_
    refine zwp.fg (a := [none, none, none]) trivial ?_
    exact s_X4_readOperation_J77_ok d ρ hρ tp htp (1 : Int32) h1 _ hR1 e
def s_X4_readOperation_J47 (tp : Nat) (l1 : Int32) (l2 : Int32) (s1 : Int32) (h : zH) : Option (Int32 × zH) := (s_X4_workOut tp s1 h).bind fun h1 => if ¬ l2 = (4 : Int32) then (s_X4_readOperation_J67 tp l1 l2 h1) else (if (zI h1 16 8) ≤ 0 then (s_X4_readOperation_J67 tp l1 l2 h1) else (zix ((zI h1 16 8) - (1 : Int32)) 100 fun i2 => zix (zI h1 17 i2) 10 fun i3 => if ¬ (zrk i3) = l2 then (s_X4_readOperation_J67 tp l1 l2 h1) else (some ((1 : Int32), h1))))
theorem s_X4_readOperation_J47_ok (d : Nat) (ρ : Nat → Nat → Option zF) (hρ : zSh ρ) (tp : Nat) (htp : ρ 16 2 = some (tp, 3, 0) ∧ zPlS ρ tp) (l1 : Int32) (l2 : Int32) (s1 : Int32) (h : zH) (res : Int32 × zH) (hR : zRq h ρ) (e : s_X4_readOperation_J47 tp l1 l2 s1 h = some res) : zwp (d + 6) zm_X4_readOperation 47 [some (zr ((16, 4, 0) : zF)), some (zi l1), some (zi l2)] [zi s1, zr ((16, 4, 0) : zF)] h (zQi ρ res) := by
  rw [s_X4_readOperation_J47] at e
  refine zc_cv (d := d + 5) e (fun q e => s_X4_workOut_ok (d + 4) ρ hρ tp s1 htp h q hR e) rfl rfl (fun h1 hR1 e => ?_)
  refine zwp.go (m := 2) (j := 50) (ls' := [some (zr ((16, 4, 0) : zF)), some (zi l1), some (zi l2)]) (st' := [zi (4 : Int32), zi l2]) (h' := h1) rfl ?_
  refine zb_if (j := 67) (j2 := 51) e rfl (fun e => ?_) (fun e => ?_)
  · exact s_X4_readOperation_J67_ok d ρ hρ tp htp l1 l2 h1 _ hR1 e
  · refine zwp.go (m := 2) (j := 53) (ls' := [some (zr ((16, 4, 0) : zF)), some (zi l1), some (zi l2)]) (st' := [zi (zI h1 16 8)]) (h' := h1) rfl ?_
    refine zb_if (j := 67) (j2 := 54) e rfl (fun e => ?_) (fun e => ?_)
    · exact s_X4_readOperation_J67_ok d ρ hρ tp htp l1 l2 h1 _ hR1 e
    · refine zwp.go (m := 2) (j := 56) (ls' := [some (zr ((16, 4, 0) : zF)), some (zi l1), some (zi l2)]) (st' := [zr ((16, 4, 0) : zF), zr ((0, 31, 10) : zF)]) (h' := h1) rfl ?_
      refine zc_sr (r := ((17, 20, 100) : zF)) (zrf (a := 16) (y := 7) hR1 rfl (hρ 16 7 rfl)) rfl ?_
      refine zwp.go (m := 4) (j := 61) (ls' := [some (zr ((16, 4, 0) : zF)), some (zi l1), some (zi l2)]) (st' := [zi ((zI h1 16 8) - (1 : Int32)), zr ((17, 20, 100) : zF), zr ((0, 31, 10) : zF)]) (h' := h1) rfl ?_
      refine zc_ai e (fun _ => rfl) (fun i2 e => ?_)
      refine zc_ak e (fun _ => rfl) (fun i3 e => ?_)
      refine zwp.go (m := 1) (j := 64) (ls' := [some (zr ((16, 4, 0) : zF)), some (zi l1), some (zi l2)]) (st' := [zi l2, zi (zrk i3)]) (h' := h1) rfl ?_
      refine zb_if (j := 67) (j2 := 65) e rfl (fun e => ?_) (fun e => ?_)
      · exact s_X4_readOperation_J67_ok d ρ hρ tp htp l1 l2 h1 _ hR1 e
      · refine zwp.go (m := 1) (j := 66) (ls' := [some (zr ((16, 4, 0) : zF)), some (zi l1), some (zi l2)]) (st' := [zi (1 : Int32)]) (h' := h1) rfl ?_
        cases e
        exact zwp.ret rfl rfl ⟨⟨rfl, rfl⟩, hR1⟩
def s_X4_readOperation_J26 (tp : Nat) (h : zH) : Option (Int32 × zH) := (s_X4_operationNamed tp h).bind fun v1 => if ¬ v1 = (-1 : Int32) then (zix v1 10 fun i2 => if ¬ (zrk i2) = (4 : Int32) then (s_X4_readOperation_J47 tp v1 (zrk i2) (zrk i2) h) else (s_X4_readOperation_J47 tp v1 (zrk i2) ((zrk i2) + (1 : Int32)) h)) else (some ((1 : Int32), h))
theorem s_X4_readOperation_J26_ok (d : Nat) (ρ : Nat → Nat → Option zF) (hρ : zSh ρ) (tp : Nat) (htp : ρ 16 2 = some (tp, 3, 0) ∧ zPlS ρ tp) (h : zH) (res : Int32 × zH) (hR : zRq h ρ) (e : s_X4_readOperation_J26 tp  h = some res) : zwp (d + 6) zm_X4_readOperation 26 [some (zr ((16, 4, 0) : zF)), none, none] [] h (zQi ρ res) := by
  rw [s_X4_readOperation_J26] at e
  refine zwp.go (m := 1) (j := 27) (ls' := [some (zr ((16, 4, 0) : zF)), none, none]) (st' := [zr ((16, 4, 0) : zF)]) (h' := h) rfl ?_
  refine zc_cp (d := d + 5) e (fun q e => s_X4_operationNamed_ok (d + 0) ρ hρ tp htp h q hR e) rfl rfl (fun v1 e => ?_)
  refine zwp.go (m := 3) (j := 31) (ls' := [some (zr ((16, 4, 0) : zF)), some (zi v1), none]) (st' := [zi (-1 : Int32), zi v1]) (h' := h) rfl ?_
  refine zb_if (j := 34) (j2 := 32) e rfl (fun e => ?_) (fun e => ?_)
  · refine zwp.go (m := 2) (j := 36) (ls' := [some (zr ((16, 4, 0) : zF)), some (zi v1), none]) (st' := [zi v1, zr ((0, 31, 10) : zF)]) (h' := h) rfl ?_
    refine zc_ak e (fun _ => rfl) (fun i2 e => ?_)
    refine zwp.go (m := 4) (j := 41) (ls' := [some (zr ((16, 4, 0) : zF)), some (zi v1), some (zi (zrk i2))]) (st' := [zi (4 : Int32), zi (zrk i2), zr ((16, 4, 0) : zF)]) (h' := h) rfl ?_
    refine zb_if (j := 46) (j2 := 42) e rfl (fun e => ?_) (fun e => ?_)
    · refine zwp.go (m := 1) (j := 47) (ls' := [some (zr ((16, 4, 0) : zF)), some (zi v1), some (zi (zrk i2))]) (st' := [zi (zrk i2), zr ((16, 4, 0) : zF)]) (h' := h) rfl ?_
      exact s_X4_readOperation_J47_ok d ρ hρ tp htp v1 (zrk i2) (zrk i2) h _ hR e
    · refine zwp.go (m := 4) (j := 47) (ls' := [some (zr ((16, 4, 0) : zF)), some (zi v1), some (zi (zrk i2))]) (st' := [zi ((zrk i2) + (1 : Int32)), zr ((16, 4, 0) : zF)]) (h' := h) rfl ?_
      exact s_X4_readOperation_J47_ok d ρ hρ tp htp v1 (zrk i2) ((zrk i2) + (1 : Int32)) h _ hR e
  · refine zwp.go (m := 1) (j := 33) (ls' := [some (zr ((16, 4, 0) : zF)), some (zi v1), none]) (st' := [zi (1 : Int32)]) (h' := h) rfl ?_
    cases e
    exact zwp.ret rfl rfl ⟨⟨rfl, rfl⟩, hR⟩
def s_X4_readOperation (tp : Nat) (h : zH) : Option (Int32 × zH) := if (zI h 16 9) ≤ 0 then (s_X4_readOperation_J26 tp h) else ((s_X4_isSign tp (41 : Int32) h).bind fun v1 => if v1 = 0 then (s_X4_readOperation_J26 tp h) else ((s_X4_workOut tp (1 : Int32) h).bind fun h2 => (s_J9_max_7cf53 (0 : Int32) ((zI h2 16 8) - (1 : Int32)) h2).bind fun v3 => zlt (zwI h2 16 8 v3) fun h4 => zlt (zwI h4 16 9 ((zI h4 16 9) - (1 : Int32))) fun h5 => some ((0 : Int32), h5)))
theorem s_X4_readOperation_ok (d : Nat) (ρ : Nat → Nat → Option zF) (hρ : zSh ρ) (tp : Nat) (htp : ρ 16 2 = some (tp, 3, 0) ∧ zPlS ρ tp) (h : zH) (res : Int32 × zH) (hR : zRq h ρ) (e : s_X4_readOperation tp h = some res) : zcl (d + 6) 51 [zr ((16, 4, 0) : zF)] h (zQi ρ res) := by
  rw [s_X4_readOperation] at e
  refine ⟨zm_X4_readOperation, rfl, ?_⟩
  show zwp (d + 6) zm_X4_readOperation 0 [some (zr ((16, 4, 0) : zF)), none, none] [] h _
  refine zwp.go (m := 2) (j := 2) (ls' := [some (zr ((16, 4, 0) : zF)), none, none]) (st' := [zi (zI h 16 9)]) (h' := h) rfl ?_
  refine zb_if (j := 26) (j2 := 3) e rfl (fun e => ?_) (fun e => ?_)
  · exact s_X4_readOperation_J26_ok d ρ hρ tp htp h _ hR e
  · refine zwp.go (m := 2) (j := 5) (ls' := [some (zr ((16, 4, 0) : zF)), none, none]) (st' := [zi (41 : Int32), zr ((16, 4, 0) : zF)]) (h' := h) rfl ?_
    refine zc_cp (d := d + 5) e (fun q e => s_X4_isSign_ok (d + 5) ρ hρ tp (41 : Int32) htp h q hR e) rfl rfl (fun v1 e => ?_)
    refine zb_if (j := 26) (j2 := 7) e rfl (fun e => ?_) (fun e => ?_)
    · exact s_X4_readOperation_J26_ok d ρ hρ tp htp h _ hR e
    · refine zwp.go (m := 2) (j := 9) (ls' := [some (zr ((16, 4, 0) : zF)), none, none]) (st' := [zi (1 : Int32), zr ((16, 4, 0) : zF)]) (h' := h) rfl ?_
      refine zc_cv (d := d + 5) e (fun q e => s_X4_workOut_ok (d + 4) ρ hρ tp (1 : Int32) htp h q hR e) rfl rfl (fun h2 hR2 e => ?_)
      refine zwp.go (m := 6) (j := 16) (ls' := [some (zr ((16, 4, 0) : zF)), none, none]) (st' := [zi ((zI h2 16 8) - (1 : Int32)), zi (0 : Int32), zr ((16, 4, 0) : zF)]) (h' := h2) rfl ?_
      refine zc_cp (d := d + 5) e (fun q e => s_J9_max_7cf53_ok (d + 5) ρ hρ (0 : Int32) ((zI h2 16 8) - (1 : Int32)) h2 q hR2 e) rfl rfl (fun v3 e => ?_)
      refine zc_w e rfl hR2 (fun h4 hR4 e => ?_)
      refine zwp.go (m := 5) (j := 23) (ls' := [some (zr ((16, 4, 0) : zF)), none, none]) (st' := [zi ((zI h4 16 9) - (1 : Int32)), zr ((16, 4, 0) : zF)]) (h' := h4) rfl ?_
      refine zc_w e rfl hR4 (fun h5 hR5 e => ?_)
      refine zwp.go (m := 1) (j := 25) (ls' := [some (zr ((16, 4, 0) : zF)), none, none]) (st' := [zi (0 : Int32)]) (h' := h5) rfl ?_
      cases e
      exact zwp.ret rfl rfl ⟨⟨rfl, rfl⟩, hR5⟩
def s_X4_readRule_J65 (tp : Nat) (a1 : Nat) (k32 : (Int32 → zH → Option (Int32 × zH))) (l3 : Int32) (s0 : Int32) (h : zH) : Option (Int32 × zH) := if s0 = 0 then ((s_X4_advance tp h).bind fun h1 => k32 (l3 + (1 : Int32)) h1) else (some (s0, h))
theorem s_X4_readRule_J65_ok (d : Nat) (ρ : Nat → Nat → Option zF) (hρ : zSh ρ) (tp : Nat) (a1 : Nat) (htp : ρ 16 2 = some (tp, 3, 0) ∧ zPlS ρ tp) (k32 : (Int32 → zH → Option (Int32 × zH))) (hk32 : ∀ l3 h res, zRq h ρ → k32 l3 h = some res → zwp (d + 8) zm_X4_readRule 32 [some (zr ((16, 4, 0) : zF)), some (zr ((a1, 5, 0) : zF)), none, some (zi l3), none] [] h (zQi ρ res)) (l3 : Int32) (s0 : Int32) (h : zH) (res : Int32 × zH) (hR : zRq h ρ) (e : s_X4_readRule_J65 tp a1 k32 l3 s0 h = some res) : zwp (d + 8) zm_X4_readRule 65 [some (zr ((16, 4, 0) : zF)), some (zr ((a1, 5, 0) : zF)), none, some (zi l3), none] [zi s0] h (zQi ρ res) := by
  rw [s_X4_readRule_J65] at e
  refine zwp.go (m := 2) (j := 67) (ls' := [some (zr ((16, 4, 0) : zF)), some (zr ((a1, 5, 0) : zF)), none, some (zi l3), some (zi s0)]) (st' := [zi s0]) (h' := h) rfl ?_
  refine zb_if (j := 70) (j2 := 68) e rfl (fun e => ?_) (fun e => ?_)
  · refine zwp.go (m := 1) (j := 71) (ls' := [some (zr ((16, 4, 0) : zF)), some (zr ((a1, 5, 0) : zF)), none, some (zi l3), some (zi s0)]) (st' := [zr ((16, 4, 0) : zF)]) (h' := h) rfl ?_
    refine zc_cv (d := d + 7) e (fun q e => s_X4_advance_ok (d + 1) ρ hρ tp htp h q hR e) rfl rfl (fun h1 hR1 e => ?_)
    refine zwp.go (m := 2) (j := 32) (ls' := [some (zr ((16, 4, 0) : zF)), some (zr ((a1, 5, 0) : zF)), none, some (zi (l3 + (1 : Int32))), some (zi s0)]) (st' := []) (h' := h1) rfl ?_
    refine zwp.fg (a := [some (zr ((16, 4, 0) : zF)), some (zr ((a1, 5, 0) : zF)), none, some (zi (l3 + (1 : Int32))), none]) (And.intro rfl (And.intro rfl (And.intro rfl trivial))) ?_
    exact hk32 (l3 + (1 : Int32)) h1 _ hR1 e
  · refine zwp.go (m := 1) (j := 69) (ls' := [some (zr ((16, 4, 0) : zF)), some (zr ((a1, 5, 0) : zF)), none, some (zi l3), some (zi s0)]) (st' := [zi s0]) (h' := h) rfl ?_
    cases e
    exact zwp.ret rfl rfl ⟨⟨rfl, rfl⟩, hR⟩
def s_X4_readRule_J57 (tp : Nat) (a1 : Nat) (k32 : (Int32 → zH → Option (Int32 × zH))) (l3 : Int32) (h : zH) : Option (Int32 × zH) := if (zI h 16 12) = 0 then (zbd (s_X4_readOperation tp h) fun v2 h1 => s_X4_readRule_J65 tp a1 k32 l3 v2 h1) else (zbd (s_X4_readPart tp h) fun v4 h3 => s_X4_readRule_J65 tp a1 k32 l3 v4 h3)
theorem s_X4_readRule_J57_ok (d : Nat) (ρ : Nat → Nat → Option zF) (hρ : zSh ρ) (tp : Nat) (a1 : Nat) (htp : ρ 16 2 = some (tp, 3, 0) ∧ zPlS ρ tp) (k32 : (Int32 → zH → Option (Int32 × zH))) (hk32 : ∀ l3 h res, zRq h ρ → k32 l3 h = some res → zwp (d + 8) zm_X4_readRule 32 [some (zr ((16, 4, 0) : zF)), some (zr ((a1, 5, 0) : zF)), none, some (zi l3), none] [] h (zQi ρ res)) (l3 : Int32) (h : zH) (res : Int32 × zH) (hR : zRq h ρ) (e : s_X4_readRule_J57 tp a1 k32 l3 h = some res) : zwp (d + 8) zm_X4_readRule 57 [some (zr ((16, 4, 0) : zF)), some (zr ((a1, 5, 0) : zF)), none, some (zi l3), none] [] h (zQi ρ res) := by
  rw [s_X4_readRule_J57] at e
  refine zwp.go (m := 2) (j := 59) (ls' := [some (zr ((16, 4, 0) : zF)), some (zr ((a1, 5, 0) : zF)), none, some (zi l3), none]) (st' := [zi (zI h 16 12)]) (h' := h) rfl ?_
  refine zb_if (j := 63) (j2 := 60) e rfl (fun e => ?_) (fun e => ?_)
  · refine zwp.go (m := 1) (j := 64) (ls' := [some (zr ((16, 4, 0) : zF)), some (zr ((a1, 5, 0) : zF)), none, some (zi l3), none]) (st' := [zr ((16, 4, 0) : zF)]) (h' := h) rfl ?_
    refine zc_ci (d := d + 7) e (fun q e => s_X4_readOperation_ok (d + 1) ρ hρ tp htp h q hR e) rfl rfl (fun v2 h1 hR1 e => ?_)
    exact s_X4_readRule_J65_ok d ρ hρ tp a1 htp k32 hk32 l3 v2 h1 _ hR1 e
  · refine zwp.go (m := 1) (j := 61) (ls' := [some (zr ((16, 4, 0) : zF)), some (zr ((a1, 5, 0) : zF)), none, some (zi l3), none]) (st' := [zr ((16, 4, 0) : zF)]) (h' := h) rfl ?_
    refine zc_ci (d := d + 7) e (fun q e => s_X4_readPart_ok (d + 0) ρ hρ tp htp h q hR e) rfl rfl (fun v4 h3 hR3 e => ?_)
    refine zwp.go (m := 1) (j := 65) (ls' := [some (zr ((16, 4, 0) : zF)), some (zr ((a1, 5, 0) : zF)), none, some (zi l3), none]) (st' := [zi v4]) (h' := h3) rfl ?_
    exact s_X4_readRule_J65_ok d ρ hρ tp a1 htp k32 hk32 l3 v4 h3 _ hR3 e
def s_X4_readRule_L32 (tp : Nat) (a1 : Nat) : Nat → Int32 → zH → Option (Int32 × zH)
  | 0, _, _ => none
  | n + 1, l3, h => if (700 : Int32) ≤ l3 then (some ((1 : Int32), h)) else (if ¬ (zI h 16 12) = 0 then (s_X4_readRule_J57 tp a1 (s_X4_readRule_L32 tp a1 n) l3 h) else (if ¬ (zI h 16 9) = 0 then (s_X4_readRule_J57 tp a1 (s_X4_readRule_L32 tp a1 n) l3 h) else ((s_X4_isSign tp (59 : Int32) h).bind fun v1 => if v1 = 0 then (s_X4_readRule_J57 tp a1 (s_X4_readRule_L32 tp a1 n) l3 h) else ((s_X4_workOut tp (1 : Int32) h).bind fun h2 => zlt (zwI h2 a1 2 (zI h2 tp 9)) fun h3 => (s_X4_advance tp h3).bind fun h4 => some ((0 : Int32), h4)))))
theorem s_X4_readRule_L32_ok (d : Nat) (ρ : Nat → Nat → Option zF) (hρ : zSh ρ) (tp : Nat) (a1 : Nat) (htp : ρ 16 2 = some (tp, 3, 0) ∧ zPlS ρ tp) : ∀ (n : Nat) (l3 : Int32) (h : zH) (res : Int32 × zH) (hR : zRq h ρ) (e : s_X4_readRule_L32 tp a1 n l3 h = some res), zwp (d + 8) zm_X4_readRule 32 [some (zr ((16, 4, 0) : zF)), some (zr ((a1, 5, 0) : zF)), none, some (zi l3), none] [] h (zQi ρ res) := by
  intro n
  induction n with
  | zero => intro l3 h res hR e; cases e
  | succ n ih =>
    intro l3 h res hR e
    rw [s_X4_readRule_L32] at e
    refine zwp.go (m := 2) (j := 34) (ls' := [some (zr ((16, 4, 0) : zF)), some (zr ((a1, 5, 0) : zF)), none, some (zi l3), none]) (st' := [zi (700 : Int32), zi l3]) (h' := h) rfl ?_
    refine zb_if (j := 74) (j2 := 35) e rfl (fun e => ?_) (fun e => ?_)
    · refine zwp.go (m := 1) (j := 75) (ls' := [some (zr ((16, 4, 0) : zF)), some (zr ((a1, 5, 0) : zF)), none, some (zi l3), none]) (st' := [zi (1 : Int32)]) (h' := h) rfl ?_
      cases e
      exact zwp.ret rfl rfl ⟨⟨rfl, rfl⟩, hR⟩
    · refine zwp.go (m := 2) (j := 37) (ls' := [some (zr ((16, 4, 0) : zF)), some (zr ((a1, 5, 0) : zF)), none, some (zi l3), none]) (st' := [zi (zI h 16 12)]) (h' := h) rfl ?_
      refine zb_if (j := 57) (j2 := 38) e rfl (fun e => ?_) (fun e => ?_)
      · exact s_X4_readRule_J57_ok d ρ hρ tp a1 htp (s_X4_readRule_L32 tp a1 n) ih l3 h _ hR e
      · refine zwp.go (m := 2) (j := 40) (ls' := [some (zr ((16, 4, 0) : zF)), some (zr ((a1, 5, 0) : zF)), none, some (zi l3), none]) (st' := [zi (zI h 16 9)]) (h' := h) rfl ?_
        refine zb_if (j := 57) (j2 := 41) e rfl (fun e => ?_) (fun e => ?_)
        · exact s_X4_readRule_J57_ok d ρ hρ tp a1 htp (s_X4_readRule_L32 tp a1 n) ih l3 h _ hR e
        · refine zwp.go (m := 2) (j := 43) (ls' := [some (zr ((16, 4, 0) : zF)), some (zr ((a1, 5, 0) : zF)), none, some (zi l3), none]) (st' := [zi (59 : Int32), zr ((16, 4, 0) : zF)]) (h' := h) rfl ?_
          refine zc_cp (d := d + 7) e (fun q e => s_X4_isSign_ok (d + 7) ρ hρ tp (59 : Int32) htp h q hR e) rfl rfl (fun v1 e => ?_)
          refine zb_if (j := 57) (j2 := 45) e rfl (fun e => ?_) (fun e => ?_)
          · exact s_X4_readRule_J57_ok d ρ hρ tp a1 htp (s_X4_readRule_L32 tp a1 n) ih l3 h _ hR e
          · refine zwp.go (m := 2) (j := 47) (ls' := [some (zr ((16, 4, 0) : zF)), some (zr ((a1, 5, 0) : zF)), none, some (zi l3), none]) (st' := [zi (1 : Int32), zr ((16, 4, 0) : zF)]) (h' := h) rfl ?_
            refine zc_cv (d := d + 7) e (fun q e => s_X4_workOut_ok (d + 6) ρ hρ tp (1 : Int32) htp h q hR e) rfl rfl (fun h2 hR2 e => ?_)
            refine zwp.go (m := 2) (j := 50) (ls' := [some (zr ((16, 4, 0) : zF)), some (zr ((a1, 5, 0) : zF)), none, some (zi l3), none]) (st' := [zr ((16, 4, 0) : zF), zr ((a1, 5, 0) : zF)]) (h' := h2) rfl ?_
            refine zc_sr (r := ((tp, 3, 0) : zF)) (zrf (a := 16) (y := 2) hR2 rfl htp.1) rfl ?_
            refine zwp.go (m := 1) (j := 52) (ls' := [some (zr ((16, 4, 0) : zF)), some (zr ((a1, 5, 0) : zF)), none, some (zi l3), none]) (st' := [zi (zI h2 tp 9), zr ((a1, 5, 0) : zF)]) (h' := h2) rfl ?_
            refine zc_w e rfl hR2 (fun h3 hR3 e => ?_)
            refine zwp.go (m := 1) (j := 54) (ls' := [some (zr ((16, 4, 0) : zF)), some (zr ((a1, 5, 0) : zF)), none, some (zi l3), none]) (st' := [zr ((16, 4, 0) : zF)]) (h' := h3) rfl ?_
            refine zc_cv (d := d + 7) e (fun q e => s_X4_advance_ok (d + 1) ρ hρ tp htp h3 q hR3 e) rfl rfl (fun h4 hR4 e => ?_)
            refine zwp.go (m := 1) (j := 56) (ls' := [some (zr ((16, 4, 0) : zF)), some (zr ((a1, 5, 0) : zF)), none, some (zi l3), none]) (st' := [zi (0 : Int32)]) (h' := h4) rfl ?_
            cases e
            exact zwp.ret rfl rfl ⟨⟨rfl, rfl⟩, hR4⟩
def s_X4_readRule (tp : Nat) (a1 : Nat) (a2 : Int32) (h : zH) : Option (Int32 × zH) := if (zI h a1 0) = 0 then (zlt (zwI h a1 0 (1 : Int32)) fun h1 => zlt (zwI h1 a1 1 (zI h1 tp 9)) fun h2 => zbo a2 (zlt (zwI h2 16 11 a2) fun h3 => zlt (zwI h3 16 8 (0 : Int32)) fun h4 => zlt (zwI h4 16 9 (0 : Int32)) fun h5 => (s_X4_expectPart tp (1 : Int32) h5).bind fun h6 => zlt (zwI h6 16 14 (1 : Int32)) fun h7 => (s_X4_advance tp h7).bind fun h8 => s_X4_readRule_L32 tp a1 zfu (0 : Int32) h8)) else (some ((5 : Int32), h))
theorem s_X4_readRule_ok (d : Nat) (ρ : Nat → Nat → Option zF) (hρ : zSh ρ) (tp : Nat) (a1 : Nat) (a2 : Int32) (htp : ρ 16 2 = some (tp, 3, 0) ∧ zPlS ρ tp) (h : zH) (res : Int32 × zH) (hR : zRq h ρ) (e : s_X4_readRule tp a1 a2 h = some res) : zcl (d + 8) 52 [zr ((16, 4, 0) : zF), zr ((a1, 5, 0) : zF), zi a2] h (zQi ρ res) := by
  rw [s_X4_readRule] at e
  refine ⟨zm_X4_readRule, rfl, ?_⟩
  show zwp (d + 8) zm_X4_readRule 0 [some (zr ((16, 4, 0) : zF)), some (zr ((a1, 5, 0) : zF)), some (zi a2), none, none] [] h _
  refine zwp.go (m := 2) (j := 2) (ls' := [some (zr ((16, 4, 0) : zF)), some (zr ((a1, 5, 0) : zF)), some (zi a2), none, none]) (st' := [zi (zI h a1 0)]) (h' := h) rfl ?_
  refine zb_if (j := 5) (j2 := 3) e rfl (fun e => ?_) (fun e => ?_)
  · refine zwp.go (m := 2) (j := 7) (ls' := [some (zr ((16, 4, 0) : zF)), some (zr ((a1, 5, 0) : zF)), some (zi a2), none, none]) (st' := [zi (1 : Int32), zr ((a1, 5, 0) : zF)]) (h' := h) rfl ?_
    refine zc_w e rfl hR (fun h1 hR1 e => ?_)
    refine zwp.go (m := 2) (j := 10) (ls' := [some (zr ((16, 4, 0) : zF)), some (zr ((a1, 5, 0) : zF)), some (zi a2), none, none]) (st' := [zr ((16, 4, 0) : zF), zr ((a1, 5, 0) : zF)]) (h' := h1) rfl ?_
    refine zc_sr (r := ((tp, 3, 0) : zF)) (zrf (a := 16) (y := 2) hR1 rfl htp.1) rfl ?_
    refine zwp.go (m := 1) (j := 12) (ls' := [some (zr ((16, 4, 0) : zF)), some (zr ((a1, 5, 0) : zF)), some (zi a2), none, none]) (st' := [zi (zI h1 tp 9), zr ((a1, 5, 0) : zF)]) (h' := h1) rfl ?_
    refine zc_w e rfl hR1 (fun h2 hR2 e => ?_)
    refine zwp.go (m := 2) (j := 15) (ls' := [some (zr ((16, 4, 0) : zF)), some (zr ((a1, 5, 0) : zF)), some (zi a2), none, none]) (st' := [zi a2, zr ((16, 4, 0) : zF)]) (h' := h2) rfl ?_
    refine zc_wb e rfl hR2 (fun h3 hR3 e => ?_)
    refine zwp.go (m := 2) (j := 18) (ls' := [some (zr ((16, 4, 0) : zF)), some (zr ((a1, 5, 0) : zF)), some (zi a2), none, none]) (st' := [zi (0 : Int32), zr ((16, 4, 0) : zF)]) (h' := h3) rfl ?_
    refine zc_w e rfl hR3 (fun h4 hR4 e => ?_)
    refine zwp.go (m := 2) (j := 21) (ls' := [some (zr ((16, 4, 0) : zF)), some (zr ((a1, 5, 0) : zF)), some (zi a2), none, none]) (st' := [zi (0 : Int32), zr ((16, 4, 0) : zF)]) (h' := h4) rfl ?_
    refine zc_w e rfl hR4 (fun h5 hR5 e => ?_)
    refine zwp.go (m := 2) (j := 24) (ls' := [some (zr ((16, 4, 0) : zF)), some (zr ((a1, 5, 0) : zF)), some (zi a2), none, none]) (st' := [zi (1 : Int32), zr ((16, 4, 0) : zF)]) (h' := h5) rfl ?_
    refine zc_cv (d := d + 7) e (fun q e => s_X4_expectPart_ok (d + 7) ρ hρ tp (1 : Int32) htp h5 q hR5 e) rfl rfl (fun h6 hR6 e => ?_)
    refine zwp.go (m := 2) (j := 27) (ls' := [some (zr ((16, 4, 0) : zF)), some (zr ((a1, 5, 0) : zF)), some (zi a2), none, none]) (st' := [zi (1 : Int32), zr ((16, 4, 0) : zF)]) (h' := h6) rfl ?_
    refine zc_w e rfl hR6 (fun h7 hR7 e => ?_)
    refine zwp.go (m := 1) (j := 29) (ls' := [some (zr ((16, 4, 0) : zF)), some (zr ((a1, 5, 0) : zF)), some (zi a2), none, none]) (st' := [zr ((16, 4, 0) : zF)]) (h' := h7) rfl ?_
    refine zc_cv (d := d + 7) e (fun q e => s_X4_advance_ok (d + 1) ρ hρ tp htp h7 q hR7 e) rfl rfl (fun h8 hR8 e => ?_)
    refine zwp.go (m := 2) (j := 32) (ls' := [some (zr ((16, 4, 0) : zF)), some (zr ((a1, 5, 0) : zF)), some (zi a2), some (zi (0 : Int32)), none]) (st' := []) (h' := h8) rfl ?_
    refine zwp.fg (a := [some (zr ((16, 4, 0) : zF)), some (zr ((a1, 5, 0) : zF)), none, some (zi (0 : Int32)), none]) (And.intro rfl (And.intro rfl (And.intro rfl trivial))) ?_
    exact s_X4_readRule_L32_ok d ρ hρ tp a1 htp zfu (0 : Int32) h8 _ hR8 e
  · refine zwp.go (m := 1) (j := 4) (ls' := [some (zr ((16, 4, 0) : zF)), some (zr ((a1, 5, 0) : zF)), some (zi a2), none, none]) (st' := [zi (5 : Int32)]) (h' := h) rfl ?_
    cases e
    exact zwp.ret rfl rfl ⟨⟨rfl, rfl⟩, hR⟩
def s_X10_noteChange (pp : Nat) (h : zH) : Option (zH) := zlt (zwI h 39 5 (0 : Int32)) fun h1 => zlt (zwI h1 47 4 (0 : Int32)) fun h2 => zlt (zwI h2 47 8 (0 : Int32)) fun h3 => some h3
theorem s_X10_noteChange_ok (d : Nat) (ρ : Nat → Nat → Option zF) (hρ : zSh ρ) (pp : Nat) (hpp : ρ 0 3 = some (pp, 3, 0) ∧ zPlS ρ pp) (h : zH) (res : zH) (hR : zRq h ρ) (e : s_X10_noteChange pp h = some res) : zcl d 54 [zr ((0, 10, 0) : zF)] h (zQv ρ res) := by
  rw [s_X10_noteChange] at e
  refine ⟨zm_X10_noteChange, rfl, ?_⟩
  show zwp d zm_X10_noteChange 0 [some (zr ((0, 10, 0) : zF))] [] h _
  refine zwp.go (m := 1) (j := 1) (ls' := [some (zr ((0, 10, 0) : zF))]) (st' := [zr ((0, 10, 0) : zF)]) (h' := h) rfl ?_
  refine zc_sr (r := ((39, 1, 0) : zF)) (zrf (a := 0) (y := 11) hR rfl (hρ 0 11 rfl)) rfl ?_
  refine zwp.go (m := 1) (j := 3) (ls' := [some (zr ((0, 10, 0) : zF))]) (st' := [zi (0 : Int32), zr ((39, 1, 0) : zF)]) (h' := h) rfl ?_
  refine zc_w e rfl hR (fun h1 hR1 e => ?_)
  refine zwp.go (m := 1) (j := 5) (ls' := [some (zr ((0, 10, 0) : zF))]) (st' := [zr ((0, 10, 0) : zF)]) (h' := h1) rfl ?_
  refine zc_sr (r := ((47, 6, 0) : zF)) (zrf (a := 0) (y := 13) hR1 rfl (hρ 0 13 rfl)) rfl ?_
  refine zwp.go (m := 1) (j := 7) (ls' := [some (zr ((0, 10, 0) : zF))]) (st' := [zi (0 : Int32), zr ((47, 6, 0) : zF)]) (h' := h1) rfl ?_
  refine zc_w e rfl hR1 (fun h2 hR2 e => ?_)
  refine zwp.go (m := 1) (j := 9) (ls' := [some (zr ((0, 10, 0) : zF))]) (st' := [zr ((0, 10, 0) : zF)]) (h' := h2) rfl ?_
  refine zc_sr (r := ((47, 6, 0) : zF)) (zrf (a := 0) (y := 13) hR2 rfl (hρ 0 13 rfl)) rfl ?_
  refine zwp.go (m := 1) (j := 11) (ls' := [some (zr ((0, 10, 0) : zF))]) (st' := [zi (0 : Int32), zr ((47, 6, 0) : zF)]) (h' := h2) rfl ?_
  refine zc_w e rfl hR2 (fun h3 hR3 e => ?_)
  cases e
  exact zwp.rv rfl ⟨⟨rfl, rfl⟩, hR3⟩
def s_X11_fail (a1 : Int32) (h : zH) : Option (Int32 × zH) := zlt (zwI h 52 4 a1) fun h1 => some ((0 : Int32), h1)
theorem s_X11_fail_ok (d : Nat) (ρ : Nat → Nat → Option zF) (hρ : zSh ρ) (a1 : Int32) (h : zH) (res : Int32 × zH) (hR : zRq h ρ) (e : s_X11_fail a1 h = some res) : zcl d 57 [zr ((52, 11, 0) : zF), zi a1] h (zQi ρ res) := by
  rw [s_X11_fail] at e
  refine ⟨zm_X11_fail, rfl, ?_⟩
  show zwp d zm_X11_fail 0 [some (zr ((52, 11, 0) : zF)), some (zi a1)] [] h _
  refine zwp.go (m := 2) (j := 2) (ls' := [some (zr ((52, 11, 0) : zF)), some (zi a1)]) (st' := [zi a1, zr ((52, 11, 0) : zF)]) (h' := h) rfl ?_
  refine zc_w e rfl hR (fun h1 hR1 e => ?_)
  refine zwp.go (m := 1) (j := 4) (ls' := [some (zr ((52, 11, 0) : zF)), some (zi a1)]) (st' := [zi (0 : Int32)]) (h' := h1) rfl ?_
  cases e
  exact zwp.ret rfl rfl ⟨⟨rfl, rfl⟩, hR1⟩
def s_X11_byteAt (a1 : Int32) (h : zH) : Option (Int32) := if (zI h 52 15) ≤ a1 then (some (-1 : Int32)) else (zix a1 700 fun i1 => some (zI h 63 i1))
theorem s_X11_byteAt_ok (d : Nat) (ρ : Nat → Nat → Option zF) (hρ : zSh ρ) (a1 : Int32) (h : zH) (res : Int32) (hR : zRq h ρ) (e : s_X11_byteAt a1 h = some res) : zcl d 58 [zr ((52, 11, 0) : zF), zi a1] h (zQp h res) := by
  rw [s_X11_byteAt] at e
  refine ⟨zm_X11_byteAt, rfl, ?_⟩
  show zwp d zm_X11_byteAt 0 [some (zr ((52, 11, 0) : zF)), some (zi a1)] [] h _
  refine zwp.go (m := 3) (j := 3) (ls' := [some (zr ((52, 11, 0) : zF)), some (zi a1)]) (st' := [zi (zI h 52 15), zi a1]) (h' := h) rfl ?_
  refine zb_if (j := 9) (j2 := 4) e rfl (fun e => ?_) (fun e => ?_)
  · refine zwp.go (m := 1) (j := 10) (ls' := [some (zr ((52, 11, 0) : zF)), some (zi a1)]) (st' := [zi (-1 : Int32)]) (h' := h) rfl ?_
    cases e
    exact zwp.ret rfl rfl ⟨rfl, rfl⟩
  · refine zwp.go (m := 1) (j := 5) (ls' := [some (zr ((52, 11, 0) : zF)), some (zi a1)]) (st' := [zr ((52, 11, 0) : zF)]) (h' := h) rfl ?_
    refine zc_sr (r := ((63, 20, 700) : zF)) (zrf (a := 52) (y := 12) hR rfl (hρ 52 12 rfl)) rfl ?_
    refine zwp.go (m := 1) (j := 7) (ls' := [some (zr ((52, 11, 0) : zF)), some (zi a1)]) (st' := [zi a1, zr ((63, 20, 700) : zF)]) (h' := h) rfl ?_
    refine zc_ai e (fun _ => rfl) (fun i1 e => ?_)
    refine zwp.go (m := 1) (j := 10) (ls' := [some (zr ((52, 11, 0) : zF)), some (zi a1)]) (st' := [zi (zI h 63 i1)]) (h' := h) rfl ?_
    cases e
    exact zwp.ret rfl rfl ⟨rfl, rfl⟩
def s_X11_isLetter (a0 : Int32) (h : zH) : Option (Int32) := if a0 < (97 : Int32) then (some (0 : Int32)) else (if (122 : Int32) < a0 then (some (0 : Int32)) else (some (1 : Int32)))
theorem s_X11_isLetter_ok (d : Nat) (ρ : Nat → Nat → Option zF) (hρ : zSh ρ) (a0 : Int32) (h : zH) (res : Int32) (hR : zRq h ρ) (e : s_X11_isLetter a0 h = some res) : zcl d 59 [zi a0] h (zQp h res) := by
  rw [s_X11_isLetter] at e
  refine ⟨zm_X11_isLetter, rfl, ?_⟩
  show zwp d zm_X11_isLetter 0 [some (zi a0)] [] h _
  refine zwp.go (m := 2) (j := 2) (ls' := [some (zi a0)]) (st' := [zi (97 : Int32), zi a0]) (h' := h) rfl ?_
  refine zb_if (j := 8) (j2 := 3) e rfl (fun e => ?_) (fun e => ?_)
  · refine zwp.go (m := 1) (j := 9) (ls' := [some (zi a0)]) (st' := [zi (0 : Int32)]) (h' := h) rfl ?_
    cases e
    exact zwp.ret rfl rfl ⟨rfl, rfl⟩
  · refine zwp.go (m := 2) (j := 5) (ls' := [some (zi a0)]) (st' := [zi (122 : Int32), zi a0]) (h' := h) rfl ?_
    refine zb_if (j := 8) (j2 := 6) e rfl (fun e => ?_) (fun e => ?_)
    · refine zwp.go (m := 1) (j := 9) (ls' := [some (zi a0)]) (st' := [zi (0 : Int32)]) (h' := h) rfl ?_
      cases e
      exact zwp.ret rfl rfl ⟨rfl, rfl⟩
    · refine zwp.go (m := 2) (j := 9) (ls' := [some (zi a0)]) (st' := [zi (1 : Int32)]) (h' := h) rfl ?_
      cases e
      exact zwp.ret rfl rfl ⟨rfl, rfl⟩
def s_X11_isDigit (a0 : Int32) (h : zH) : Option (Int32) := if a0 < (48 : Int32) then (some (0 : Int32)) else (if (57 : Int32) < a0 then (some (0 : Int32)) else (some (1 : Int32)))
theorem s_X11_isDigit_ok (d : Nat) (ρ : Nat → Nat → Option zF) (hρ : zSh ρ) (a0 : Int32) (h : zH) (res : Int32) (hR : zRq h ρ) (e : s_X11_isDigit a0 h = some res) : zcl d 60 [zi a0] h (zQp h res) := by
  rw [s_X11_isDigit] at e
  refine ⟨zm_X11_isDigit, rfl, ?_⟩
  show zwp d zm_X11_isDigit 0 [some (zi a0)] [] h _
  refine zwp.go (m := 2) (j := 2) (ls' := [some (zi a0)]) (st' := [zi (48 : Int32), zi a0]) (h' := h) rfl ?_
  refine zb_if (j := 8) (j2 := 3) e rfl (fun e => ?_) (fun e => ?_)
  · refine zwp.go (m := 1) (j := 9) (ls' := [some (zi a0)]) (st' := [zi (0 : Int32)]) (h' := h) rfl ?_
    cases e
    exact zwp.ret rfl rfl ⟨rfl, rfl⟩
  · refine zwp.go (m := 2) (j := 5) (ls' := [some (zi a0)]) (st' := [zi (57 : Int32), zi a0]) (h' := h) rfl ?_
    refine zb_if (j := 8) (j2 := 6) e rfl (fun e => ?_) (fun e => ?_)
    · refine zwp.go (m := 1) (j := 9) (ls' := [some (zi a0)]) (st' := [zi (0 : Int32)]) (h' := h) rfl ?_
      cases e
      exact zwp.ret rfl rfl ⟨rfl, rfl⟩
    · refine zwp.go (m := 2) (j := 9) (ls' := [some (zi a0)]) (st' := [zi (1 : Int32)]) (h' := h) rfl ?_
      cases e
      exact zwp.ret rfl rfl ⟨rfl, rfl⟩
def s_X11_isMark (a0 : Int32) (h : zH) : Option (Int32) := if a0 = (59 : Int32) then (some (1 : Int32)) else (if a0 = (40 : Int32) then (some (1 : Int32)) else (if a0 = (41 : Int32) then (some (1 : Int32)) else (if a0 = (43 : Int32) then (some (1 : Int32)) else (if a0 = (45 : Int32) then (some (1 : Int32)) else (if a0 = (42 : Int32) then (some (1 : Int32)) else (if a0 = (47 : Int32) then (some (1 : Int32)) else (if a0 = (60 : Int32) then (some (1 : Int32)) else (if ¬ a0 = (61 : Int32) then (some (0 : Int32)) else (some (1 : Int32))))))))))
theorem s_X11_isMark_ok (d : Nat) (ρ : Nat → Nat → Option zF) (hρ : zSh ρ) (a0 : Int32) (h : zH) (res : Int32) (hR : zRq h ρ) (e : s_X11_isMark a0 h = some res) : zcl d 61 [zi a0] h (zQp h res) := by
  rw [s_X11_isMark] at e
  refine ⟨zm_X11_isMark, rfl, ?_⟩
  show zwp d zm_X11_isMark 0 [some (zi a0)] [] h _
  refine zwp.go (m := 2) (j := 2) (ls' := [some (zi a0)]) (st' := [zi (59 : Int32), zi a0]) (h' := h) rfl ?_
  refine zb_if (j := 27) (j2 := 3) e rfl (fun e => ?_) (fun e => ?_)
  · refine zwp.go (m := 2) (j := 30) (ls' := [some (zi a0)]) (st' := [zi (1 : Int32)]) (h' := h) rfl ?_
    cases e
    exact zwp.ret rfl rfl ⟨rfl, rfl⟩
  · refine zwp.go (m := 2) (j := 5) (ls' := [some (zi a0)]) (st' := [zi (40 : Int32), zi a0]) (h' := h) rfl ?_
    refine zb_if (j := 27) (j2 := 6) e rfl (fun e => ?_) (fun e => ?_)
    · refine zwp.go (m := 2) (j := 30) (ls' := [some (zi a0)]) (st' := [zi (1 : Int32)]) (h' := h) rfl ?_
      cases e
      exact zwp.ret rfl rfl ⟨rfl, rfl⟩
    · refine zwp.go (m := 2) (j := 8) (ls' := [some (zi a0)]) (st' := [zi (41 : Int32), zi a0]) (h' := h) rfl ?_
      refine zb_if (j := 27) (j2 := 9) e rfl (fun e => ?_) (fun e => ?_)
      · refine zwp.go (m := 2) (j := 30) (ls' := [some (zi a0)]) (st' := [zi (1 : Int32)]) (h' := h) rfl ?_
        cases e
        exact zwp.ret rfl rfl ⟨rfl, rfl⟩
      · refine zwp.go (m := 2) (j := 11) (ls' := [some (zi a0)]) (st' := [zi (43 : Int32), zi a0]) (h' := h) rfl ?_
        refine zb_if (j := 27) (j2 := 12) e rfl (fun e => ?_) (fun e => ?_)
        · refine zwp.go (m := 2) (j := 30) (ls' := [some (zi a0)]) (st' := [zi (1 : Int32)]) (h' := h) rfl ?_
          cases e
          exact zwp.ret rfl rfl ⟨rfl, rfl⟩
        · refine zwp.go (m := 2) (j := 14) (ls' := [some (zi a0)]) (st' := [zi (45 : Int32), zi a0]) (h' := h) rfl ?_
          refine zb_if (j := 27) (j2 := 15) e rfl (fun e => ?_) (fun e => ?_)
          · refine zwp.go (m := 2) (j := 30) (ls' := [some (zi a0)]) (st' := [zi (1 : Int32)]) (h' := h) rfl ?_
            cases e
            exact zwp.ret rfl rfl ⟨rfl, rfl⟩
          · refine zwp.go (m := 2) (j := 17) (ls' := [some (zi a0)]) (st' := [zi (42 : Int32), zi a0]) (h' := h) rfl ?_
            refine zb_if (j := 27) (j2 := 18) e rfl (fun e => ?_) (fun e => ?_)
            · refine zwp.go (m := 2) (j := 30) (ls' := [some (zi a0)]) (st' := [zi (1 : Int32)]) (h' := h) rfl ?_
              cases e
              exact zwp.ret rfl rfl ⟨rfl, rfl⟩
            · refine zwp.go (m := 2) (j := 20) (ls' := [some (zi a0)]) (st' := [zi (47 : Int32), zi a0]) (h' := h) rfl ?_
              refine zb_if (j := 27) (j2 := 21) e rfl (fun e => ?_) (fun e => ?_)
              · refine zwp.go (m := 2) (j := 30) (ls' := [some (zi a0)]) (st' := [zi (1 : Int32)]) (h' := h) rfl ?_
                cases e
                exact zwp.ret rfl rfl ⟨rfl, rfl⟩
              · refine zwp.go (m := 2) (j := 23) (ls' := [some (zi a0)]) (st' := [zi (60 : Int32), zi a0]) (h' := h) rfl ?_
                refine zb_if (j := 27) (j2 := 24) e rfl (fun e => ?_) (fun e => ?_)
                · refine zwp.go (m := 2) (j := 30) (ls' := [some (zi a0)]) (st' := [zi (1 : Int32)]) (h' := h) rfl ?_
                  cases e
                  exact zwp.ret rfl rfl ⟨rfl, rfl⟩
                · refine zwp.go (m := 2) (j := 26) (ls' := [some (zi a0)]) (st' := [zi (61 : Int32), zi a0]) (h' := h) rfl ?_
                  refine zb_if (j := 29) (j2 := 27) e rfl (fun e => ?_) (fun e => ?_)
                  · refine zwp.go (m := 1) (j := 30) (ls' := [some (zi a0)]) (st' := [zi (0 : Int32)]) (h' := h) rfl ?_
                    cases e
                    exact zwp.ret rfl rfl ⟨rfl, rfl⟩
                  · refine zwp.go (m := 2) (j := 30) (ls' := [some (zi a0)]) (st' := [zi (1 : Int32)]) (h' := h) rfl ?_
                    cases e
                    exact zwp.ret rfl rfl ⟨rfl, rfl⟩
def s_X11_stepOn_L61 : Nat → zH → Option (zH)
  | 0, _ => none
  | n + 1, h => (s_X11_byteAt (zI h 52 14) h).bind fun v1 => (s_X11_isDigit v1 h).bind fun v2 => if v2 = 0 then (zlt (zwI h 52 16 (2 : Int32)) fun h3 => zlt (zwI h3 52 19 (zI h3 52 14)) fun h4 => some h4) else ((s_X11_byteAt (zI h 52 14) h).bind fun v5 => (s_J9_min_7cf53 (100000 : Int32) ((((10 : Int32) * (zI h 52 17)) + v5) - (48 : Int32)) h).bind fun v6 => zlt (zwI h 52 17 v6) fun h7 => zlt (zwI h7 52 14 ((zI h7 52 14) + (1 : Int32))) fun h8 => s_X11_stepOn_L61 n h8)
theorem s_X11_stepOn_L61_ok (d : Nat) (ρ : Nat → Nat → Option zF) (hρ : zSh ρ) : ∀ (n : Nat) (h : zH) (res : zH) (hR : zRq h ρ) (e : s_X11_stepOn_L61  n  h = some res), zwp (d + 1) zm_X11_stepOn 61 [some (zr ((52, 11, 0) : zF)), none] [] h (zQv ρ res) := by
  intro n
  induction n with
  | zero => intro  h res hR e; cases e
  | succ n ih =>
    intro  h res hR e
    rw [s_X11_stepOn_L61] at e
    refine zwp.go (m := 3) (j := 64) (ls' := [some (zr ((52, 11, 0) : zF)), none]) (st' := [zi (zI h 52 14), zr ((52, 11, 0) : zF)]) (h' := h) rfl ?_
    refine zc_cp (d := d + 0) e (fun q e => s_X11_byteAt_ok (d + 0) ρ hρ (zI h 52 14) h q hR e) rfl rfl (fun v1 e => ?_)
    refine zc_cp (d := d + 0) e (fun q e => s_X11_isDigit_ok (d + 0) ρ hρ v1 h q hR e) rfl rfl (fun v2 e => ?_)
    refine zb_if (j := 89) (j2 := 67) e rfl (fun e => ?_) (fun e => ?_)
    · refine zwp.go (m := 2) (j := 91) (ls' := [some (zr ((52, 11, 0) : zF)), none]) (st' := [zi (2 : Int32), zr ((52, 11, 0) : zF)]) (h' := h) rfl ?_
      refine zc_w e rfl hR (fun h3 hR3 e => ?_)
      refine zwp.go (m := 4) (j := 110) (ls' := [some (zr ((52, 11, 0) : zF)), none]) (st' := [zi (zI h3 52 14), zr ((52, 11, 0) : zF)]) (h' := h3) rfl ?_
      refine zc_w e rfl hR3 (fun h4 hR4 e => ?_)
      cases e
      exact zwp.rv rfl ⟨⟨rfl, rfl⟩, hR4⟩
    · refine zwp.go (m := 9) (j := 76) (ls' := [some (zr ((52, 11, 0) : zF)), none]) (st' := [zi (zI h 52 14), zr ((52, 11, 0) : zF), zi ((10 : Int32) * (zI h 52 17)), zi (100000 : Int32), zr ((52, 11, 0) : zF)]) (h' := h) rfl ?_
      refine zc_cp (d := d + 0) e (fun q e => s_X11_byteAt_ok (d + 0) ρ hρ (zI h 52 14) h q hR e) rfl rfl (fun v5 e => ?_)
      refine zwp.go (m := 3) (j := 80) (ls' := [some (zr ((52, 11, 0) : zF)), none]) (st' := [zi ((((10 : Int32) * (zI h 52 17)) + v5) - (48 : Int32)), zi (100000 : Int32), zr ((52, 11, 0) : zF)]) (h' := h) rfl ?_
      refine zc_cp (d := d + 0) e (fun q e => s_J9_min_7cf53_ok (d + 0) ρ hρ (100000 : Int32) ((((10 : Int32) * (zI h 52 17)) + v5) - (48 : Int32)) h q hR e) rfl rfl (fun v6 e => ?_)
      refine zc_w e rfl hR (fun h7 hR7 e => ?_)
      refine zwp.go (m := 5) (j := 87) (ls' := [some (zr ((52, 11, 0) : zF)), none]) (st' := [zi ((zI h7 52 14) + (1 : Int32)), zr ((52, 11, 0) : zF)]) (h' := h7) rfl ?_
      refine zc_w e rfl hR7 (fun h8 hR8 e => ?_)
      refine zwp.go (m := 1) (j := 61) (ls' := [some (zr ((52, 11, 0) : zF)), none]) (st' := []) (h' := h8) rfl ?_
      exact ih h8 _ hR8 e
def s_X11_stepOn_L38 : Nat → zH → Option (zH)
  | 0, _ => none
  | n + 1, h => (s_X11_byteAt (zI h 52 14) h).bind fun v1 => (s_X11_isLetter v1 h).bind fun v2 => if v2 = 0 then (zlt (zwI h 52 16 (1 : Int32)) fun h3 => zlt (zwI h3 52 19 (zI h3 52 14)) fun h4 => some h4) else (zlt (zwI h 52 14 ((zI h 52 14) + (1 : Int32))) fun h5 => s_X11_stepOn_L38 n h5)
theorem s_X11_stepOn_L38_ok (d : Nat) (ρ : Nat → Nat → Option zF) (hρ : zSh ρ) : ∀ (n : Nat) (h : zH) (res : zH) (hR : zRq h ρ) (e : s_X11_stepOn_L38  n  h = some res), zwp (d + 1) zm_X11_stepOn 38 [some (zr ((52, 11, 0) : zF)), none] [] h (zQv ρ res) := by
  intro n
  induction n with
  | zero => intro  h res hR e; cases e
  | succ n ih =>
    intro  h res hR e
    rw [s_X11_stepOn_L38] at e
    refine zwp.go (m := 3) (j := 41) (ls' := [some (zr ((52, 11, 0) : zF)), none]) (st' := [zi (zI h 52 14), zr ((52, 11, 0) : zF)]) (h' := h) rfl ?_
    refine zc_cp (d := d + 0) e (fun q e => s_X11_byteAt_ok (d + 0) ρ hρ (zI h 52 14) h q hR e) rfl rfl (fun v1 e => ?_)
    refine zc_cp (d := d + 0) e (fun q e => s_X11_isLetter_ok (d + 0) ρ hρ v1 h q hR e) rfl rfl (fun v2 e => ?_)
    refine zb_if (j := 51) (j2 := 44) e rfl (fun e => ?_) (fun e => ?_)
    · refine zwp.go (m := 2) (j := 53) (ls' := [some (zr ((52, 11, 0) : zF)), none]) (st' := [zi (1 : Int32), zr ((52, 11, 0) : zF)]) (h' := h) rfl ?_
      refine zc_w e rfl hR (fun h3 hR3 e => ?_)
      refine zwp.go (m := 4) (j := 110) (ls' := [some (zr ((52, 11, 0) : zF)), none]) (st' := [zi (zI h3 52 14), zr ((52, 11, 0) : zF)]) (h' := h3) rfl ?_
      refine zc_w e rfl hR3 (fun h4 hR4 e => ?_)
      cases e
      exact zwp.rv rfl ⟨⟨rfl, rfl⟩, hR4⟩
    · refine zwp.go (m := 5) (j := 49) (ls' := [some (zr ((52, 11, 0) : zF)), none]) (st' := [zi ((zI h 52 14) + (1 : Int32)), zr ((52, 11, 0) : zF)]) (h' := h) rfl ?_
      refine zc_w e rfl hR (fun h5 hR5 e => ?_)
      refine zwp.go (m := 1) (j := 38) (ls' := [some (zr ((52, 11, 0) : zF)), none]) (st' := []) (h' := h5) rfl ?_
      exact ih h5 _ hR5 e
def s_X11_stepOn_L0 : Nat → zH → Option (zH)
  | 0, _ => none
  | n + 1, h => (s_X11_byteAt (zI h 52 14) h).bind fun v1 => if v1 = (32 : Int32) then (zlt (zwI h 52 14 ((zI h 52 14) + (1 : Int32))) fun h2 => s_X11_stepOn_L0 n h2) else ((s_X11_byteAt (zI h 52 14) h).bind fun v3 => if ¬ v3 = (10 : Int32) then (zlt (zwI h 52 18 (zI h 52 14)) fun h4 => (s_X11_byteAt (zI h4 52 14) h4).bind fun v5 => if ¬ v5 = (-1 : Int32) then ((s_X11_isLetter v5 h4).bind fun v6 => if v6 = 0 then ((s_X11_isDigit v5 h4).bind fun v7 => if v7 = 0 then (zlt (zwI h4 52 14 ((zI h4 52 14) + (1 : Int32))) fun h8 => (s_X11_isMark v5 h8).bind fun v9 => if v9 = 0 then (zlt (zwI h8 52 16 (4 : Int32)) fun h10 => zlt (zwI h10 52 19 (zI h10 52 14)) fun h11 => some h11) else (zlt (zwI h8 52 16 (3 : Int32)) fun h12 => zlt (zwI h12 52 19 (zI h12 52 14)) fun h13 => some h13)) else (zlt (zwI h4 52 17 (0 : Int32)) fun h14 => s_X11_stepOn_L61 zfu h14)) else (s_X11_stepOn_L38 zfu h4)) else (zlt (zwI h4 52 16 (0 : Int32)) fun h15 => zlt (zwI h15 52 19 (zI h15 52 14)) fun h16 => some h16)) else (zlt (zwI h 52 14 ((zI h 52 14) + (1 : Int32))) fun h17 => s_X11_stepOn_L0 n h17))
theorem s_X11_stepOn_L0_ok (d : Nat) (ρ : Nat → Nat → Option zF) (hρ : zSh ρ) : ∀ (n : Nat) (h : zH) (res : zH) (hR : zRq h ρ) (e : s_X11_stepOn_L0  n  h = some res), zwp (d + 1) zm_X11_stepOn 0 [some (zr ((52, 11, 0) : zF)), none] [] h (zQv ρ res) := by
  intro n
  induction n with
  | zero => intro  h res hR e; cases e
  | succ n ih =>
    intro  h res hR e
    rw [s_X11_stepOn_L0] at e
    refine zwp.go (m := 3) (j := 3) (ls' := [some (zr ((52, 11, 0) : zF)), none]) (st' := [zi (zI h 52 14), zr ((52, 11, 0) : zF)]) (h' := h) rfl ?_
    refine zc_cp (d := d + 0) e (fun q e => s_X11_byteAt_ok (d + 0) ρ hρ (zI h 52 14) h q hR e) rfl rfl (fun v1 e => ?_)
    refine zwp.go (m := 1) (j := 5) (ls' := [some (zr ((52, 11, 0) : zF)), none]) (st' := [zi (32 : Int32), zi v1]) (h' := h) rfl ?_
    refine zb_if (j := 12) (j2 := 6) e rfl (fun e => ?_) (fun e => ?_)
    · refine zwp.go (m := 5) (j := 17) (ls' := [some (zr ((52, 11, 0) : zF)), none]) (st' := [zi ((zI h 52 14) + (1 : Int32)), zr ((52, 11, 0) : zF)]) (h' := h) rfl ?_
      refine zc_w e rfl hR (fun h2 hR2 e => ?_)
      refine zwp.go (m := 1) (j := 0) (ls' := [some (zr ((52, 11, 0) : zF)), none]) (st' := []) (h' := h2) rfl ?_
      exact ih h2 _ hR2 e
    · refine zwp.go (m := 3) (j := 9) (ls' := [some (zr ((52, 11, 0) : zF)), none]) (st' := [zi (zI h 52 14), zr ((52, 11, 0) : zF)]) (h' := h) rfl ?_
      refine zc_cp (d := d + 0) e (fun q e => s_X11_byteAt_ok (d + 0) ρ hρ (zI h 52 14) h q hR e) rfl rfl (fun v3 e => ?_)
      refine zwp.go (m := 1) (j := 11) (ls' := [some (zr ((52, 11, 0) : zF)), none]) (st' := [zi (10 : Int32), zi v3]) (h' := h) rfl ?_
      refine zb_if (j := 19) (j2 := 12) e rfl (fun e => ?_) (fun e => ?_)
      · refine zwp.go (m := 3) (j := 22) (ls' := [some (zr ((52, 11, 0) : zF)), none]) (st' := [zi (zI h 52 14), zr ((52, 11, 0) : zF)]) (h' := h) rfl ?_
        refine zc_w e rfl hR (fun h4 hR4 e => ?_)
        refine zwp.go (m := 3) (j := 26) (ls' := [some (zr ((52, 11, 0) : zF)), none]) (st' := [zi (zI h4 52 14), zr ((52, 11, 0) : zF)]) (h' := h4) rfl ?_
        refine zc_cp (d := d + 0) e (fun q e => s_X11_byteAt_ok (d + 0) ρ hρ (zI h4 52 14) h4 q hR4 e) rfl rfl (fun v5 e => ?_)
        refine zwp.go (m := 3) (j := 30) (ls' := [some (zr ((52, 11, 0) : zF)), some (zi v5)]) (st' := [zi (-1 : Int32), zi v5]) (h' := h4) rfl ?_
        refine zb_if (j := 35) (j2 := 31) e rfl (fun e => ?_) (fun e => ?_)
        · refine zwp.go (m := 1) (j := 36) (ls' := [some (zr ((52, 11, 0) : zF)), some (zi v5)]) (st' := [zi v5]) (h' := h4) rfl ?_
          refine zc_cp (d := d + 0) e (fun q e => s_X11_isLetter_ok (d + 0) ρ hρ v5 h4 q hR4 e) rfl rfl (fun v6 e => ?_)
          refine zb_if (j := 55) (j2 := 38) e rfl (fun e => ?_) (fun e => ?_)
          · refine zwp.go (m := 1) (j := 56) (ls' := [some (zr ((52, 11, 0) : zF)), some (zi v5)]) (st' := [zi v5]) (h' := h4) rfl ?_
            refine zc_cp (d := d + 0) e (fun q e => s_X11_isDigit_ok (d + 0) ρ hρ v5 h4 q hR4 e) rfl rfl (fun v7 e => ?_)
            refine zb_if (j := 93) (j2 := 58) e rfl (fun e => ?_) (fun e => ?_)
            · refine zwp.go (m := 5) (j := 98) (ls' := [some (zr ((52, 11, 0) : zF)), some (zi v5)]) (st' := [zi ((zI h4 52 14) + (1 : Int32)), zr ((52, 11, 0) : zF)]) (h' := h4) rfl ?_
              refine zc_w e rfl hR4 (fun h8 hR8 e => ?_)
              refine zwp.go (m := 2) (j := 101) (ls' := [some (zr ((52, 11, 0) : zF)), some (zi v5)]) (st' := [zi v5, zr ((52, 11, 0) : zF)]) (h' := h8) rfl ?_
              refine zc_cp (d := d + 0) e (fun q e => s_X11_isMark_ok (d + 0) ρ hρ v5 h8 q hR8 e) rfl rfl (fun v9 e => ?_)
              refine zb_if (j := 105) (j2 := 103) e rfl (fun e => ?_) (fun e => ?_)
              · refine zwp.go (m := 1) (j := 106) (ls' := [some (zr ((52, 11, 0) : zF)), some (zi v5)]) (st' := [zi (4 : Int32), zr ((52, 11, 0) : zF)]) (h' := h8) rfl ?_
                refine zc_w e rfl hR8 (fun h10 hR10 e => ?_)
                refine zwp.go (m := 3) (j := 110) (ls' := [some (zr ((52, 11, 0) : zF)), some (zi v5)]) (st' := [zi (zI h10 52 14), zr ((52, 11, 0) : zF)]) (h' := h10) rfl ?_
                refine zc_w e rfl hR10 (fun h11 hR11 e => ?_)
                cases e
                exact zwp.rv rfl ⟨⟨rfl, rfl⟩, hR11⟩
              · refine zwp.go (m := 2) (j := 106) (ls' := [some (zr ((52, 11, 0) : zF)), some (zi v5)]) (st' := [zi (3 : Int32), zr ((52, 11, 0) : zF)]) (h' := h8) rfl ?_
                refine zc_w e rfl hR8 (fun h12 hR12 e => ?_)
                refine zwp.go (m := 3) (j := 110) (ls' := [some (zr ((52, 11, 0) : zF)), some (zi v5)]) (st' := [zi (zI h12 52 14), zr ((52, 11, 0) : zF)]) (h' := h12) rfl ?_
                refine zc_w e rfl hR12 (fun h13 hR13 e => ?_)
                cases e
                exact zwp.rv rfl ⟨⟨rfl, rfl⟩, hR13⟩
            · refine zwp.go (m := 2) (j := 60) (ls' := [some (zr ((52, 11, 0) : zF)), some (zi v5)]) (st' := [zi (0 : Int32), zr ((52, 11, 0) : zF)]) (h' := h4) rfl ?_
              refine zc_w e rfl hR4 (fun h14 hR14 e => ?_)
              refine zwp.fg (a := [some (zr ((52, 11, 0) : zF)), none]) (And.intro rfl trivial) ?_
              exact s_X11_stepOn_L61_ok d ρ hρ zfu h14 _ hR14 e
          · refine zwp.fg (a := [some (zr ((52, 11, 0) : zF)), none]) (And.intro rfl trivial) ?_
            exact s_X11_stepOn_L38_ok d ρ hρ zfu h4 _ hR4 e
        · refine zwp.go (m := 2) (j := 33) (ls' := [some (zr ((52, 11, 0) : zF)), some (zi v5)]) (st' := [zi (0 : Int32), zr ((52, 11, 0) : zF)]) (h' := h4) rfl ?_
          refine zc_w e rfl hR4 (fun h15 hR15 e => ?_)
          refine zwp.go (m := 4) (j := 110) (ls' := [some (zr ((52, 11, 0) : zF)), some (zi v5)]) (st' := [zi (zI h15 52 14), zr ((52, 11, 0) : zF)]) (h' := h15) rfl ?_
          refine zc_w e rfl hR15 (fun h16 hR16 e => ?_)
          cases e
          exact zwp.rv rfl ⟨⟨rfl, rfl⟩, hR16⟩
      · refine zwp.go (m := 5) (j := 17) (ls' := [some (zr ((52, 11, 0) : zF)), none]) (st' := [zi ((zI h 52 14) + (1 : Int32)), zr ((52, 11, 0) : zF)]) (h' := h) rfl ?_
        refine zc_w e rfl hR (fun h17 hR17 e => ?_)
        refine zwp.go (m := 1) (j := 0) (ls' := [some (zr ((52, 11, 0) : zF)), none]) (st' := []) (h' := h17) rfl ?_
        exact ih h17 _ hR17 e
def s_X11_stepOn (h : zH) : Option (zH) := s_X11_stepOn_L0 zfu h
theorem s_X11_stepOn_ok (d : Nat) (ρ : Nat → Nat → Option zF) (hρ : zSh ρ) (h : zH) (res : zH) (hR : zRq h ρ) (e : s_X11_stepOn  h = some res) : zcl (d + 1) 62 [zr ((52, 11, 0) : zF)] h (zQv ρ res) := by
  rw [s_X11_stepOn] at e
  refine ⟨zm_X11_stepOn, rfl, ?_⟩
  show zwp (d + 1) zm_X11_stepOn 0 [some (zr ((52, 11, 0) : zF)), none] [] h _
  exact s_X11_stepOn_L0_ok d ρ hρ zfu h _ hR e
def s_X11_is_L21 (a1 : Nat) : Nat → Int32 → Int32 → zH → Option (Int32)
  | 0, _, _, _ => none
  | n + 1, l2, l3, h => if l2 = 0 then (zrp 1 l2) else ((s_J0_length_8abf5 a1 h).bind fun v1 => if v1 ≤ l3 then (zrp 1 l2) else ((s_J0_charAt_5068e a1 l3 h).bind fun v2 => zix ((zI h 52 18) + l3) 700 fun i3 => if ¬ v2 = (zI h 63 i3) then (s_X11_is_L21 a1 n (0 : Int32) (l3 + (1 : Int32)) h) else (s_X11_is_L21 a1 n (1 : Int32) (l3 + (1 : Int32)) h)))
theorem s_X11_is_L21_ok (d : Nat) (ρ : Nat → Nat → Option zF) (hρ : zSh ρ) (a1 : Nat) : ∀ (n : Nat) (l2 : Int32) (l3 : Int32) (h : zH) (res : Int32) (hR : zRq h ρ) (e : s_X11_is_L21 a1 n l2 l3 h = some res), zwp (d + 4) zm_X11_is 21 [some (zr ((52, 11, 0) : zF)), some (zr ((a1, 30, 0) : zF)), some (zi l2), some (zi l3)] [] h (zQp h res) := by
  intro n
  induction n with
  | zero => intro l2 l3 h res hR e; cases e
  | succ n ih =>
    intro l2 l3 h res hR e
    rw [s_X11_is_L21] at e
    refine zwp.go (m := 1) (j := 22) (ls' := [some (zr ((52, 11, 0) : zF)), some (zr ((a1, 30, 0) : zF)), some (zi l2), some (zi l3)]) (st' := [zi l2]) (h' := h) rfl ?_
    refine zb_if (j := 44) (j2 := 23) e rfl (fun e => ?_) (fun e => ?_)
    · refine zwp.go (m := 1) (j := 45) (ls' := [some (zr ((52, 11, 0) : zF)), some (zr ((a1, 30, 0) : zF)), some (zi l2), some (zi l3)]) (st' := [zi l2]) (h' := h) rfl ?_
      exact zc_rp e rfl
    · refine zwp.go (m := 2) (j := 25) (ls' := [some (zr ((52, 11, 0) : zF)), some (zr ((a1, 30, 0) : zF)), some (zi l2), some (zi l3)]) (st' := [zr ((a1, 30, 0) : zF), zi l3]) (h' := h) rfl ?_
      refine zc_cp (d := d + 3) e (fun q e => s_J0_length_8abf5_ok (d + 2) ρ hρ a1 h q hR e) rfl rfl (fun v1 e => ?_)
      refine zb_if (j := 44) (j2 := 27) e rfl (fun e => ?_) (fun e => ?_)
      · refine zwp.go (m := 1) (j := 45) (ls' := [some (zr ((52, 11, 0) : zF)), some (zr ((a1, 30, 0) : zF)), some (zi l2), some (zi l3)]) (st' := [zi l2]) (h' := h) rfl ?_
        exact zc_rp e rfl
      · refine zwp.go (m := 2) (j := 29) (ls' := [some (zr ((52, 11, 0) : zF)), some (zr ((a1, 30, 0) : zF)), some (zi l2), some (zi l3)]) (st' := [zi l3, zr ((a1, 30, 0) : zF)]) (h' := h) rfl ?_
        refine zc_cp (d := d + 3) e (fun q e => s_J0_charAt_5068e_ok (d + 0) ρ hρ a1 l3 h q hR e) rfl rfl (fun v2 e => ?_)
        refine zwp.go (m := 1) (j := 31) (ls' := [some (zr ((52, 11, 0) : zF)), some (zr ((a1, 30, 0) : zF)), some (zi l2), some (zi l3)]) (st' := [zr ((52, 11, 0) : zF), zi v2]) (h' := h) rfl ?_
        refine zc_sr (r := ((63, 20, 700) : zF)) (zrf (a := 52) (y := 12) hR rfl (hρ 52 12 rfl)) rfl ?_
        refine zwp.go (m := 4) (j := 36) (ls' := [some (zr ((52, 11, 0) : zF)), some (zr ((a1, 30, 0) : zF)), some (zi l2), some (zi l3)]) (st' := [zi ((zI h 52 18) + l3), zr ((63, 20, 700) : zF), zi v2]) (h' := h) rfl ?_
        refine zc_ai e (fun _ => rfl) (fun i3 e => ?_)
        refine zb_if (j := 40) (j2 := 38) e rfl (fun e => ?_) (fun e => ?_)
        · refine zwp.go (m := 4) (j := 21) (ls' := [some (zr ((52, 11, 0) : zF)), some (zr ((a1, 30, 0) : zF)), some (zi (0 : Int32)), some (zi (l3 + (1 : Int32)))]) (st' := []) (h' := h) rfl ?_
          exact ih (0 : Int32) (l3 + (1 : Int32)) h _ hR e
        · refine zwp.go (m := 5) (j := 21) (ls' := [some (zr ((52, 11, 0) : zF)), some (zr ((a1, 30, 0) : zF)), some (zi (1 : Int32)), some (zi (l3 + (1 : Int32)))]) (st' := []) (h' := h) rfl ?_
          exact ih (1 : Int32) (l3 + (1 : Int32)) h _ hR e
def s_X11_is (a1 : Nat) (h : zH) : Option (Int32) := if ¬ (zI h 52 20) = 0 then (s_X11_is_L21 a1 zfu (0 : Int32) (0 : Int32) h) else (if ¬ (zI h 52 16) = (1 : Int32) then (s_X11_is_L21 a1 zfu (0 : Int32) (0 : Int32) h) else ((s_J0_length_8abf5 a1 h).bind fun v1 => if ¬ v1 = ((zI h 52 19) - (zI h 52 18)) then (s_X11_is_L21 a1 zfu (0 : Int32) (0 : Int32) h) else (s_X11_is_L21 a1 zfu (1 : Int32) (0 : Int32) h)))
theorem s_X11_is_ok (d : Nat) (ρ : Nat → Nat → Option zF) (hρ : zSh ρ) (a1 : Nat) (h : zH) (res : Int32) (hR : zRq h ρ) (e : s_X11_is a1 h = some res) : zcl (d + 4) 63 [zr ((52, 11, 0) : zF), zr ((a1, 30, 0) : zF)] h (zQp h res) := by
  rw [s_X11_is] at e
  refine ⟨zm_X11_is, rfl, ?_⟩
  show zwp (d + 4) zm_X11_is 0 [some (zr ((52, 11, 0) : zF)), some (zr ((a1, 30, 0) : zF)), none, none] [] h _
  refine zwp.go (m := 2) (j := 2) (ls' := [some (zr ((52, 11, 0) : zF)), some (zr ((a1, 30, 0) : zF)), none, none]) (st' := [zi (zI h 52 20)]) (h' := h) rfl ?_
  refine zb_if (j := 17) (j2 := 3) e rfl (fun e => ?_) (fun e => ?_)
  · refine zwp.go (m := 4) (j := 21) (ls' := [some (zr ((52, 11, 0) : zF)), some (zr ((a1, 30, 0) : zF)), some (zi (0 : Int32)), some (zi (0 : Int32))]) (st' := []) (h' := h) rfl ?_
    exact s_X11_is_L21_ok d ρ hρ a1 zfu (0 : Int32) (0 : Int32) h _ hR e
  · refine zwp.go (m := 3) (j := 6) (ls' := [some (zr ((52, 11, 0) : zF)), some (zr ((a1, 30, 0) : zF)), none, none]) (st' := [zi (1 : Int32), zi (zI h 52 16)]) (h' := h) rfl ?_
    refine zb_if (j := 17) (j2 := 7) e rfl (fun e => ?_) (fun e => ?_)
    · refine zwp.go (m := 4) (j := 21) (ls' := [some (zr ((52, 11, 0) : zF)), some (zr ((a1, 30, 0) : zF)), some (zi (0 : Int32)), some (zi (0 : Int32))]) (st' := []) (h' := h) rfl ?_
      exact s_X11_is_L21_ok d ρ hρ a1 zfu (0 : Int32) (0 : Int32) h _ hR e
    · refine zwp.go (m := 1) (j := 8) (ls' := [some (zr ((52, 11, 0) : zF)), some (zr ((a1, 30, 0) : zF)), none, none]) (st' := [zr ((a1, 30, 0) : zF)]) (h' := h) rfl ?_
      refine zc_cp (d := d + 3) e (fun q e => s_J0_length_8abf5_ok (d + 2) ρ hρ a1 h q hR e) rfl rfl (fun v1 e => ?_)
      refine zwp.go (m := 5) (j := 14) (ls' := [some (zr ((52, 11, 0) : zF)), some (zr ((a1, 30, 0) : zF)), none, none]) (st' := [zi ((zI h 52 19) - (zI h 52 18)), zi v1]) (h' := h) rfl ?_
      refine zb_if (j := 17) (j2 := 15) e rfl (fun e => ?_) (fun e => ?_)
      · refine zwp.go (m := 4) (j := 21) (ls' := [some (zr ((52, 11, 0) : zF)), some (zr ((a1, 30, 0) : zF)), some (zi (0 : Int32)), some (zi (0 : Int32))]) (st' := []) (h' := h) rfl ?_
        exact s_X11_is_L21_ok d ρ hρ a1 zfu (0 : Int32) (0 : Int32) h _ hR e
      · refine zwp.go (m := 5) (j := 21) (ls' := [some (zr ((52, 11, 0) : zF)), some (zr ((a1, 30, 0) : zF)), some (zi (1 : Int32)), some (zi (0 : Int32))]) (st' := []) (h' := h) rfl ?_
        exact s_X11_is_L21_ok d ρ hρ a1 zfu (1 : Int32) (0 : Int32) h _ hR e
def s_X11_which_L2 (a1 n1 : Nat) : Nat → Int32 → zH → Option (Int32)
  | 0, _, _ => none
  | n + 1, l2, h => if (Int32.ofNat n1) ≤ l2 then (some (-1 : Int32)) else (zvS h a1 n1 l2 fun w1 => (s_X11_is w1 h).bind fun v2 => if v2 = 0 then (s_X11_which_L2 a1 n1 n (l2 + (1 : Int32)) h) else (some l2))
theorem s_X11_which_L2_ok (d : Nat) (ρ : Nat → Nat → Option zF) (hρ : zSh ρ) (a1 n1 : Nat) : ∀ (n : Nat) (l2 : Int32) (h : zH) (res : Int32) (hR : zRq h ρ) (e : s_X11_which_L2 a1 n1 n l2 h = some res), zwp (d + 5) zm_X11_which 2 [some (zr ((52, 11, 0) : zF)), some (zr ((a1, 24, n1) : zF)), some (zi l2)] [] h (zQp h res) := by
  intro n
  induction n with
  | zero => intro l2 h res hR e; cases e
  | succ n ih =>
    intro l2 h res hR e
    rw [s_X11_which_L2] at e
    refine zwp.go (m := 3) (j := 5) (ls' := [some (zr ((52, 11, 0) : zF)), some (zr ((a1, 24, n1) : zF)), some (zi l2)]) (st' := [zi (Int32.ofNat n1), zi l2]) (h' := h) rfl ?_
    refine zb_if (j := 16) (j2 := 6) e rfl (fun e => ?_) (fun e => ?_)
    · refine zwp.go (m := 1) (j := 17) (ls' := [some (zr ((52, 11, 0) : zF)), some (zr ((a1, 24, n1) : zF)), some (zi l2)]) (st' := [zi (-1 : Int32)]) (h' := h) rfl ?_
      cases e
      exact zwp.ret rfl rfl ⟨rfl, rfl⟩
    · refine zwp.go (m := 3) (j := 9) (ls' := [some (zr ((52, 11, 0) : zF)), some (zr ((a1, 24, n1) : zF)), some (zi l2)]) (st' := [zi l2, zr ((a1, 24, n1) : zF), zr ((52, 11, 0) : zF)]) (h' := h) rfl ?_
      refine zc_vs e (fun _ => rfl) (fun w1 e => ?_)
      refine zc_cp (d := d + 4) e (fun q e => s_X11_is_ok (d + 0) ρ hρ w1 h q hR e) rfl rfl (fun v2 e => ?_)
      refine zb_if (j := 14) (j2 := 12) e rfl (fun e => ?_) (fun e => ?_)
      · refine zwp.go (m := 2) (j := 2) (ls' := [some (zr ((52, 11, 0) : zF)), some (zr ((a1, 24, n1) : zF)), some (zi (l2 + (1 : Int32)))]) (st' := []) (h' := h) rfl ?_
        exact ih (l2 + (1 : Int32)) h _ hR e
      · refine zwp.go (m := 1) (j := 13) (ls' := [some (zr ((52, 11, 0) : zF)), some (zr ((a1, 24, n1) : zF)), some (zi l2)]) (st' := [zi l2]) (h' := h) rfl ?_
        cases e
        exact zwp.ret rfl rfl ⟨rfl, rfl⟩
def s_X11_which (a1 n1 : Nat) (h : zH) : Option (Int32) := s_X11_which_L2 a1 n1 zfu (0 : Int32) h
theorem s_X11_which_ok (d : Nat) (ρ : Nat → Nat → Option zF) (hρ : zSh ρ) (a1 n1 : Nat) (h : zH) (res : Int32) (hR : zRq h ρ) (e : s_X11_which a1 n1 h = some res) : zcl (d + 5) 64 [zr ((52, 11, 0) : zF), zr ((a1, 24, n1) : zF)] h (zQp h res) := by
  rw [s_X11_which] at e
  refine ⟨zm_X11_which, rfl, ?_⟩
  show zwp (d + 5) zm_X11_which 0 [some (zr ((52, 11, 0) : zF)), some (zr ((a1, 24, n1) : zF)), none] [] h _
  refine zwp.go (m := 2) (j := 2) (ls' := [some (zr ((52, 11, 0) : zF)), some (zr ((a1, 24, n1) : zF)), some (zi (0 : Int32))]) (st' := []) (h' := h) rfl ?_
  exact s_X11_which_L2_ok d ρ hρ a1 n1 zfu (0 : Int32) h _ hR e
def s_X11_wrong (a1 : Int32) (h : zH) : Option (zH) := if (zI h 52 20) = 0 then (zlt (zwI h 52 20 a1) fun h1 => zlt (zwI h1 52 21 (zI h1 52 18)) fun h2 => some h2) else (some h)
theorem s_X11_wrong_ok (d : Nat) (ρ : Nat → Nat → Option zF) (hρ : zSh ρ) (a1 : Int32) (h : zH) (res : zH) (hR : zRq h ρ) (e : s_X11_wrong a1 h = some res) : zcl d 65 [zr ((52, 11, 0) : zF), zi a1] h (zQv ρ res) := by
  rw [s_X11_wrong] at e
  refine ⟨zm_X11_wrong, rfl, ?_⟩
  show zwp d zm_X11_wrong 0 [some (zr ((52, 11, 0) : zF)), some (zi a1)] [] h _
  refine zwp.go (m := 2) (j := 2) (ls' := [some (zr ((52, 11, 0) : zF)), some (zi a1)]) (st' := [zi (zI h 52 20)]) (h' := h) rfl ?_
  refine zb_if (j := 4) (j2 := 3) e rfl (fun e => ?_) (fun e => ?_)
  · refine zwp.go (m := 2) (j := 6) (ls' := [some (zr ((52, 11, 0) : zF)), some (zi a1)]) (st' := [zi a1, zr ((52, 11, 0) : zF)]) (h' := h) rfl ?_
    refine zc_w e rfl hR (fun h1 hR1 e => ?_)
    refine zwp.go (m := 3) (j := 10) (ls' := [some (zr ((52, 11, 0) : zF)), some (zi a1)]) (st' := [zi (zI h1 52 18), zr ((52, 11, 0) : zF)]) (h' := h1) rfl ?_
    refine zc_w e rfl hR1 (fun h2 hR2 e => ?_)
    cases e
    exact zwp.rv rfl ⟨⟨rfl, rfl⟩, hR2⟩
  · cases e
    exact zwp.rv rfl ⟨⟨rfl, rfl⟩, hR⟩
def s_X11_readNumber_J38 (s0 : Int32) (h : zH) : Option (Int32 × zH) := if ¬ (zI h 52 20) = 0 then (some (s0, h)) else ((s_X11_stepOn h).bind fun h1 => some (s0, h1))
theorem s_X11_readNumber_J38_ok (d : Nat) (ρ : Nat → Nat → Option zF) (hρ : zSh ρ) (s0 : Int32) (h : zH) (res : Int32 × zH) (hR : zRq h ρ) (e : s_X11_readNumber_J38  s0 h = some res) : zwp (d + 2) zm_X11_readNumber 38 [some (zr ((52, 11, 0) : zF)), none, none, none] [zi s0] h (zQi ρ res) := by
  rw [s_X11_readNumber_J38] at e
  refine zwp.go (m := 3) (j := 41) (ls' := [some (zr ((52, 11, 0) : zF)), none, none, some (zi s0)]) (st' := [zi (zI h 52 20)]) (h' := h) rfl ?_
  refine zb_if (j := 44) (j2 := 42) e rfl (fun e => ?_) (fun e => ?_)
  · refine zwp.go (m := 1) (j := 45) (ls' := [some (zr ((52, 11, 0) : zF)), none, none, some (zi s0)]) (st' := [zi s0]) (h' := h) rfl ?_
    cases e
    exact zwp.ret rfl rfl ⟨⟨rfl, rfl⟩, hR⟩
  · refine zwp.go (m := 1) (j := 43) (ls' := [some (zr ((52, 11, 0) : zF)), none, none, some (zi s0)]) (st' := [zr ((52, 11, 0) : zF)]) (h' := h) rfl ?_
    refine zc_cv (d := d + 1) e (fun q e => s_X11_stepOn_ok (d + 0) ρ hρ h q hR e) rfl rfl (fun h1 hR1 e => ?_)
    refine zwp.go (m := 1) (j := 45) (ls' := [some (zr ((52, 11, 0) : zF)), none, none, some (zi s0)]) (st' := [zi s0]) (h' := h1) rfl ?_
    cases e
    exact zwp.ret rfl rfl ⟨⟨rfl, rfl⟩, hR1⟩
def s_X11_readNumber_J31 (h : zH) : Option (Int32 × zH) := if ¬ (zI h 52 20) = 0 then (s_X11_readNumber_J38 (0 : Int32) h) else (s_X11_readNumber_J38 (zI h 52 17) h)
theorem s_X11_readNumber_J31_ok (d : Nat) (ρ : Nat → Nat → Option zF) (hρ : zSh ρ) (h : zH) (res : Int32 × zH) (hR : zRq h ρ) (e : s_X11_readNumber_J31   h = some res) : zwp (d + 2) zm_X11_readNumber 31 [some (zr ((52, 11, 0) : zF)), none, none, none] [] h (zQi ρ res) := by
  rw [s_X11_readNumber_J31] at e
  refine zwp.go (m := 2) (j := 33) (ls' := [some (zr ((52, 11, 0) : zF)), none, none, none]) (st' := [zi (zI h 52 20)]) (h' := h) rfl ?_
  refine zb_if (j := 37) (j2 := 34) e rfl (fun e => ?_) (fun e => ?_)
  · refine zwp.go (m := 1) (j := 38) (ls' := [some (zr ((52, 11, 0) : zF)), none, none, none]) (st' := [zi (0 : Int32)]) (h' := h) rfl ?_
    exact s_X11_readNumber_J38_ok d ρ hρ (0 : Int32) h _ hR e
  · refine zwp.go (m := 3) (j := 38) (ls' := [some (zr ((52, 11, 0) : zF)), none, none, none]) (st' := [zi (zI h 52 17)]) (h' := h) rfl ?_
    exact s_X11_readNumber_J38_ok d ρ hρ (zI h 52 17) h _ hR e
def s_X11_readNumber_J28 (h : zH) : Option (Int32 × zH) := (s_X11_wrong (2 : Int32) h).bind fun h1 => s_X11_readNumber_J31 h1
theorem s_X11_readNumber_J28_ok (d : Nat) (ρ : Nat → Nat → Option zF) (hρ : zSh ρ) (h : zH) (res : Int32 × zH) (hR : zRq h ρ) (e : s_X11_readNumber_J28   h = some res) : zwp (d + 2) zm_X11_readNumber 28 [some (zr ((52, 11, 0) : zF)), none, none, none] [] h (zQi ρ res) := by
  rw [s_X11_readNumber_J28] at e
  refine zwp.go (m := 2) (j := 30) (ls' := [some (zr ((52, 11, 0) : zF)), none, none, none]) (st' := [zi (2 : Int32), zr ((52, 11, 0) : zF)]) (h' := h) rfl ?_
  refine zc_cv (d := d + 1) e (fun q e => s_X11_wrong_ok (d + 1) ρ hρ (2 : Int32) h q hR e) rfl rfl (fun h1 hR1 e => ?_)
  exact s_X11_readNumber_J31_ok d ρ hρ h1 _ hR1 e
def s_X11_readNumber (a1 : Int32) (a2 : Int32) (h : zH) : Option (Int32 × zH) := if (zI h 52 20) = 0 then (if (zI h 52 16) = (2 : Int32) then (if (4 : Int32) < ((zI h 52 19) - (zI h 52 18)) then (s_X11_readNumber_J28 h) else (if (zI h 52 17) < a1 then (s_X11_readNumber_J28 h) else (if (zI h 52 17) ≤ a2 then (s_X11_readNumber_J31 h) else (s_X11_readNumber_J28 h)))) else ((s_X11_wrong (1 : Int32) h).bind fun h1 => s_X11_readNumber_J31 h1)) else (some ((0 : Int32), h))
theorem s_X11_readNumber_ok (d : Nat) (ρ : Nat → Nat → Option zF) (hρ : zSh ρ) (a1 : Int32) (a2 : Int32) (h : zH) (res : Int32 × zH) (hR : zRq h ρ) (e : s_X11_readNumber a1 a2 h = some res) : zcl (d + 2) 66 [zr ((52, 11, 0) : zF), zi a1, zi a2] h (zQi ρ res) := by
  rw [s_X11_readNumber] at e
  refine ⟨zm_X11_readNumber, rfl, ?_⟩
  show zwp (d + 2) zm_X11_readNumber 0 [some (zr ((52, 11, 0) : zF)), some (zi a1), some (zi a2), none] [] h _
  refine zwp.go (m := 2) (j := 2) (ls' := [some (zr ((52, 11, 0) : zF)), some (zi a1), some (zi a2), none]) (st' := [zi (zI h 52 20)]) (h' := h) rfl ?_
  refine zb_if (j := 5) (j2 := 3) e rfl (fun e => ?_) (fun e => ?_)
  · refine zwp.go (m := 3) (j := 8) (ls' := [some (zr ((52, 11, 0) : zF)), some (zi a1), some (zi a2), none]) (st' := [zi (2 : Int32), zi (zI h 52 16)]) (h' := h) rfl ?_
    refine zb_if (j := 13) (j2 := 9) e rfl (fun e => ?_) (fun e => ?_)
    · refine zwp.go (m := 6) (j := 19) (ls' := [some (zr ((52, 11, 0) : zF)), some (zi a1), some (zi a2), none]) (st' := [zi (4 : Int32), zi ((zI h 52 19) - (zI h 52 18))]) (h' := h) rfl ?_
      refine zb_if (j := 28) (j2 := 20) e rfl (fun e => ?_) (fun e => ?_)
      · refine zwp.fg (a := [some (zr ((52, 11, 0) : zF)), none, none, none]) (And.intro rfl trivial) ?_
        exact s_X11_readNumber_J28_ok d ρ hρ h _ hR e
      · refine zwp.go (m := 3) (j := 23) (ls' := [some (zr ((52, 11, 0) : zF)), some (zi a1), some (zi a2), none]) (st' := [zi a1, zi (zI h 52 17)]) (h' := h) rfl ?_
        refine zb_if (j := 28) (j2 := 24) e rfl (fun e => ?_) (fun e => ?_)
        · refine zwp.fg (a := [some (zr ((52, 11, 0) : zF)), none, none, none]) (And.intro rfl trivial) ?_
          exact s_X11_readNumber_J28_ok d ρ hρ h _ hR e
        · refine zwp.go (m := 3) (j := 27) (ls' := [some (zr ((52, 11, 0) : zF)), some (zi a1), some (zi a2), none]) (st' := [zi a2, zi (zI h 52 17)]) (h' := h) rfl ?_
          refine zb_if (j := 31) (j2 := 28) e rfl (fun e => ?_) (fun e => ?_)
          · refine zwp.fg (a := [some (zr ((52, 11, 0) : zF)), none, none, none]) (And.intro rfl trivial) ?_
            exact s_X11_readNumber_J31_ok d ρ hρ h _ hR e
          · refine zwp.fg (a := [some (zr ((52, 11, 0) : zF)), none, none, none]) (And.intro rfl trivial) ?_
            exact s_X11_readNumber_J28_ok d ρ hρ h _ hR e
    · refine zwp.go (m := 2) (j := 11) (ls' := [some (zr ((52, 11, 0) : zF)), some (zi a1), some (zi a2), none]) (st' := [zi (1 : Int32), zr ((52, 11, 0) : zF)]) (h' := h) rfl ?_
      refine zc_cv (d := d + 1) e (fun q e => s_X11_wrong_ok (d + 1) ρ hρ (1 : Int32) h q hR e) rfl rfl (fun h1 hR1 e => ?_)
      refine zwp.go (m := 1) (j := 31) (ls' := [some (zr ((52, 11, 0) : zF)), some (zi a1), some (zi a2), none]) (st' := []) (h' := h1) rfl ?_
      refine zwp.fg (a := [some (zr ((52, 11, 0) : zF)), none, none, none]) (And.intro rfl trivial) ?_
      exact s_X11_readNumber_J31_ok d ρ hρ h1 _ hR1 e
  · refine zwp.go (m := 1) (j := 4) (ls' := [some (zr ((52, 11, 0) : zF)), some (zi a1), some (zi a2), none]) (st' := [zi (0 : Int32)]) (h' := h) rfl ?_
    cases e
    exact zwp.ret rfl rfl ⟨⟨rfl, rfl⟩, hR⟩
def s_X11_isMarked (a1 : Int32) (h : zH) : Option (Int32) := if ¬ (zI h 52 20) = 0 then (some (0 : Int32)) else (if ¬ (zI h 52 16) = (3 : Int32) then (some (0 : Int32)) else (zix (zI h 52 18) 700 fun i1 => if ¬ (zI h 63 i1) = a1 then (some (0 : Int32)) else (some (1 : Int32))))
theorem s_X11_isMarked_ok (d : Nat) (ρ : Nat → Nat → Option zF) (hρ : zSh ρ) (a1 : Int32) (h : zH) (res : Int32) (hR : zRq h ρ) (e : s_X11_isMarked a1 h = some res) : zcl d 67 [zr ((52, 11, 0) : zF), zi a1] h (zQp h res) := by
  rw [s_X11_isMarked] at e
  refine ⟨zm_X11_isMarked, rfl, ?_⟩
  show zwp d zm_X11_isMarked 0 [some (zr ((52, 11, 0) : zF)), some (zi a1)] [] h _
  refine zwp.go (m := 2) (j := 2) (ls' := [some (zr ((52, 11, 0) : zF)), some (zi a1)]) (st' := [zi (zI h 52 20)]) (h' := h) rfl ?_
  refine zb_if (j := 16) (j2 := 3) e rfl (fun e => ?_) (fun e => ?_)
  · refine zwp.go (m := 1) (j := 17) (ls' := [some (zr ((52, 11, 0) : zF)), some (zi a1)]) (st' := [zi (0 : Int32)]) (h' := h) rfl ?_
    cases e
    exact zwp.ret rfl rfl ⟨rfl, rfl⟩
  · refine zwp.go (m := 3) (j := 6) (ls' := [some (zr ((52, 11, 0) : zF)), some (zi a1)]) (st' := [zi (3 : Int32), zi (zI h 52 16)]) (h' := h) rfl ?_
    refine zb_if (j := 16) (j2 := 7) e rfl (fun e => ?_) (fun e => ?_)
    · refine zwp.go (m := 1) (j := 17) (ls' := [some (zr ((52, 11, 0) : zF)), some (zi a1)]) (st' := [zi (0 : Int32)]) (h' := h) rfl ?_
      cases e
      exact zwp.ret rfl rfl ⟨rfl, rfl⟩
    · refine zwp.go (m := 1) (j := 8) (ls' := [some (zr ((52, 11, 0) : zF)), some (zi a1)]) (st' := [zr ((52, 11, 0) : zF)]) (h' := h) rfl ?_
      refine zc_sr (r := ((63, 20, 700) : zF)) (zrf (a := 52) (y := 12) hR rfl (hρ 52 12 rfl)) rfl ?_
      refine zwp.go (m := 2) (j := 11) (ls' := [some (zr ((52, 11, 0) : zF)), some (zi a1)]) (st' := [zi (zI h 52 18), zr ((63, 20, 700) : zF)]) (h' := h) rfl ?_
      refine zc_ai e (fun _ => rfl) (fun i1 e => ?_)
      refine zwp.go (m := 1) (j := 13) (ls' := [some (zr ((52, 11, 0) : zF)), some (zi a1)]) (st' := [zi a1, zi (zI h 63 i1)]) (h' := h) rfl ?_
      refine zb_if (j := 16) (j2 := 14) e rfl (fun e => ?_) (fun e => ?_)
      · refine zwp.go (m := 1) (j := 17) (ls' := [some (zr ((52, 11, 0) : zF)), some (zi a1)]) (st' := [zi (0 : Int32)]) (h' := h) rfl ?_
        cases e
        exact zwp.ret rfl rfl ⟨rfl, rfl⟩
      · refine zwp.go (m := 2) (j := 17) (ls' := [some (zr ((52, 11, 0) : zF)), some (zi a1)]) (st' := [zi (1 : Int32)]) (h' := h) rfl ?_
        cases e
        exact zwp.ret rfl rfl ⟨rfl, rfl⟩
def s_X11_lay_J11 (l1 : Int32) (s0 : Int32) (s1 : Int32) (h : zH) : Option (zH) := if (zI h 52 23) = 0 then (zix (s0 + s1) 12 fun i1 => zix ((700 : Int32) + (zI h 56 i1)) 1400 fun i6 => zlt (zwI h 60 i6 l1) fun h2 => zix (s0 + s1) 12 fun i3 => zix (s0 + s1) 12 fun i5 => zlt (zwI h2 56 i5 ((zI h2 56 i3) + (1 : Int32))) fun h4 => some h4) else (zix (s0 + s1) 12 fun i7 => zix ((700 : Int32) + (zI h 56 i7)) 1400 fun i12 => zlt (zwI h 61 i12 l1) fun h8 => zix (s0 + s1) 12 fun i9 => zix (s0 + s1) 12 fun i11 => zlt (zwI h8 56 i11 ((zI h8 56 i9) + (1 : Int32))) fun h10 => some h10)
theorem s_X11_lay_J11_ok (d : Nat) (ρ : Nat → Nat → Option zF) (hρ : zSh ρ) (l1 : Int32) (s0 : Int32) (s1 : Int32) (h : zH) (res : zH) (hR : zRq h ρ) (e : s_X11_lay_J11  l1 s0 s1 h = some res) : zwp d zm_X11_lay 11 [some (zr ((52, 11, 0) : zF)), some (zi l1), none, none] [zi s1, zi s0] h (zQv ρ res) := by
  rw [s_X11_lay_J11] at e
  refine zwp.go (m := 4) (j := 15) (ls' := [some (zr ((52, 11, 0) : zF)), some (zi l1), some (zi (s0 + s1)), none]) (st' := [zi (zI h 52 23)]) (h' := h) rfl ?_
  refine zb_if (j := 19) (j2 := 16) e rfl (fun e => ?_) (fun e => ?_)
  · refine zwp.go (m := 1) (j := 20) (ls' := [some (zr ((52, 11, 0) : zF)), some (zi l1), some (zi (s0 + s1)), none]) (st' := [zr ((52, 11, 0) : zF)]) (h' := h) rfl ?_
    refine zc_sr (r := ((60, 20, 1400) : zF)) (zrf (a := 52) (y := 9) hR rfl (hρ 52 9 rfl)) rfl ?_
    refine zwp.go (m := 4) (j := 25) (ls' := [some (zr ((52, 11, 0) : zF)), some (zi l1), some (zi (s0 + s1)), some (zr ((60, 20, 1400) : zF))]) (st' := [zr ((52, 11, 0) : zF), zi (700 : Int32), zr ((60, 20, 1400) : zF)]) (h' := h) rfl ?_
    refine zc_sr (r := ((56, 20, 12) : zF)) (zrf (a := 52) (y := 5) hR rfl (hρ 52 5 rfl)) rfl ?_
    refine zwp.go (m := 1) (j := 27) (ls' := [some (zr ((52, 11, 0) : zF)), some (zi l1), some (zi (s0 + s1)), some (zr ((60, 20, 1400) : zF))]) (st' := [zi (s0 + s1), zr ((56, 20, 12) : zF), zi (700 : Int32), zr ((60, 20, 1400) : zF)]) (h' := h) rfl ?_
    refine zc_ai e (fun _ => rfl) (fun i1 e => ?_)
    refine zwp.go (m := 2) (j := 30) (ls' := [some (zr ((52, 11, 0) : zF)), some (zi l1), some (zi (s0 + s1)), some (zr ((60, 20, 1400) : zF))]) (st' := [zi l1, zi ((700 : Int32) + (zI h 56 i1)), zr ((60, 20, 1400) : zF)]) (h' := h) rfl ?_
    refine zc_si e (fun _ => rfl) hR (fun h2 hR2 e => ?_)
    refine zwp.go (m := 1) (j := 32) (ls' := [some (zr ((52, 11, 0) : zF)), some (zi l1), some (zi (s0 + s1)), some (zr ((60, 20, 1400) : zF))]) (st' := [zr ((52, 11, 0) : zF)]) (h' := h2) rfl ?_
    refine zc_sr (r := ((56, 20, 12) : zF)) (zrf (a := 52) (y := 5) hR2 rfl (hρ 52 5 rfl)) rfl ?_
    refine zwp.go (m := 2) (j := 35) (ls' := [some (zr ((52, 11, 0) : zF)), some (zi l1), some (zi (s0 + s1)), some (zr ((60, 20, 1400) : zF))]) (st' := [zi (s0 + s1), zr ((56, 20, 12) : zF), zi (s0 + s1), zr ((56, 20, 12) : zF)]) (h' := h2) rfl ?_
    refine zc_ai e (fun _ => rfl) (fun i3 e => ?_)
    refine zwp.go (m := 2) (j := 38) (ls' := [some (zr ((52, 11, 0) : zF)), some (zi l1), some (zi (s0 + s1)), some (zr ((60, 20, 1400) : zF))]) (st' := [zi ((zI h2 56 i3) + (1 : Int32)), zi (s0 + s1), zr ((56, 20, 12) : zF)]) (h' := h2) rfl ?_
    refine zc_si e (fun _ => rfl) hR2 (fun h4 hR4 e => ?_)
    cases e
    exact zwp.rv rfl ⟨⟨rfl, rfl⟩, hR4⟩
  · refine zwp.go (m := 1) (j := 17) (ls' := [some (zr ((52, 11, 0) : zF)), some (zi l1), some (zi (s0 + s1)), none]) (st' := [zr ((52, 11, 0) : zF)]) (h' := h) rfl ?_
    refine zc_sr (r := ((61, 20, 1400) : zF)) (zrf (a := 52) (y := 10) hR rfl (hρ 52 10 rfl)) rfl ?_
    refine zwp.go (m := 5) (j := 25) (ls' := [some (zr ((52, 11, 0) : zF)), some (zi l1), some (zi (s0 + s1)), some (zr ((61, 20, 1400) : zF))]) (st' := [zr ((52, 11, 0) : zF), zi (700 : Int32), zr ((61, 20, 1400) : zF)]) (h' := h) rfl ?_
    refine zc_sr (r := ((56, 20, 12) : zF)) (zrf (a := 52) (y := 5) hR rfl (hρ 52 5 rfl)) rfl ?_
    refine zwp.go (m := 1) (j := 27) (ls' := [some (zr ((52, 11, 0) : zF)), some (zi l1), some (zi (s0 + s1)), some (zr ((61, 20, 1400) : zF))]) (st' := [zi (s0 + s1), zr ((56, 20, 12) : zF), zi (700 : Int32), zr ((61, 20, 1400) : zF)]) (h' := h) rfl ?_
    refine zc_ai e (fun _ => rfl) (fun i7 e => ?_)
    refine zwp.go (m := 2) (j := 30) (ls' := [some (zr ((52, 11, 0) : zF)), some (zi l1), some (zi (s0 + s1)), some (zr ((61, 20, 1400) : zF))]) (st' := [zi l1, zi ((700 : Int32) + (zI h 56 i7)), zr ((61, 20, 1400) : zF)]) (h' := h) rfl ?_
    refine zc_si e (fun _ => rfl) hR (fun h8 hR8 e => ?_)
    refine zwp.go (m := 1) (j := 32) (ls' := [some (zr ((52, 11, 0) : zF)), some (zi l1), some (zi (s0 + s1)), some (zr ((61, 20, 1400) : zF))]) (st' := [zr ((52, 11, 0) : zF)]) (h' := h8) rfl ?_
    refine zc_sr (r := ((56, 20, 12) : zF)) (zrf (a := 52) (y := 5) hR8 rfl (hρ 52 5 rfl)) rfl ?_
    refine zwp.go (m := 2) (j := 35) (ls' := [some (zr ((52, 11, 0) : zF)), some (zi l1), some (zi (s0 + s1)), some (zr ((61, 20, 1400) : zF))]) (st' := [zi (s0 + s1), zr ((56, 20, 12) : zF), zi (s0 + s1), zr ((56, 20, 12) : zF)]) (h' := h8) rfl ?_
    refine zc_ai e (fun _ => rfl) (fun i9 e => ?_)
    refine zwp.go (m := 2) (j := 38) (ls' := [some (zr ((52, 11, 0) : zF)), some (zi l1), some (zi (s0 + s1)), some (zr ((61, 20, 1400) : zF))]) (st' := [zi ((zI h8 56 i9) + (1 : Int32)), zi (s0 + s1), zr ((56, 20, 12) : zF)]) (h' := h8) rfl ?_
    refine zc_si e (fun _ => rfl) hR8 (fun h10 hR10 e => ?_)
    cases e
    exact zwp.rv rfl ⟨⟨rfl, rfl⟩, hR10⟩
def s_X11_lay (a1 : Int32) (h : zH) : Option (zH) := if (zI h 52 20) = 0 then (if (zI h 52 23) = 0 then (s_X11_lay_J11 a1 (6 : Int32) (4 : Int32) h) else (s_X11_lay_J11 a1 (6 : Int32) (5 : Int32) h)) else (some h)
theorem s_X11_lay_ok (d : Nat) (ρ : Nat → Nat → Option zF) (hρ : zSh ρ) (a1 : Int32) (h : zH) (res : zH) (hR : zRq h ρ) (e : s_X11_lay a1 h = some res) : zcl d 68 [zr ((52, 11, 0) : zF), zi a1] h (zQv ρ res) := by
  rw [s_X11_lay] at e
  refine ⟨zm_X11_lay, rfl, ?_⟩
  show zwp d zm_X11_lay 0 [some (zr ((52, 11, 0) : zF)), some (zi a1), none, none] [] h _
  refine zwp.go (m := 2) (j := 2) (ls' := [some (zr ((52, 11, 0) : zF)), some (zi a1), none, none]) (st' := [zi (zI h 52 20)]) (h' := h) rfl ?_
  refine zb_if (j := 4) (j2 := 3) e rfl (fun e => ?_) (fun e => ?_)
  · refine zwp.go (m := 3) (j := 7) (ls' := [some (zr ((52, 11, 0) : zF)), some (zi a1), none, none]) (st' := [zi (zI h 52 23), zi (6 : Int32)]) (h' := h) rfl ?_
    refine zb_if (j := 10) (j2 := 8) e rfl (fun e => ?_) (fun e => ?_)
    · refine zwp.go (m := 1) (j := 11) (ls' := [some (zr ((52, 11, 0) : zF)), some (zi a1), none, none]) (st' := [zi (4 : Int32), zi (6 : Int32)]) (h' := h) rfl ?_
      exact s_X11_lay_J11_ok d ρ hρ a1 (6 : Int32) (4 : Int32) h _ hR e
    · refine zwp.go (m := 2) (j := 11) (ls' := [some (zr ((52, 11, 0) : zF)), some (zi a1), none, none]) (st' := [zi (5 : Int32), zi (6 : Int32)]) (h' := h) rfl ?_
      exact s_X11_lay_J11_ok d ρ hρ a1 (6 : Int32) (5 : Int32) h _ hR e
  · cases e
    exact zwp.rv rfl ⟨⟨rfl, rfl⟩, hR⟩
def s_X11_mark_J10 (h : zH) : Option (zH) := if ¬ (zI h 52 20) = 0 then (some h) else ((s_X11_stepOn h).bind fun h1 => some h1)
theorem s_X11_mark_J10_ok (d : Nat) (ρ : Nat → Nat → Option zF) (hρ : zSh ρ) (h : zH) (res : zH) (hR : zRq h ρ) (e : s_X11_mark_J10   h = some res) : zwp (d + 2) zm_X11_mark 10 [some (zr ((52, 11, 0) : zF)), none] [] h (zQv ρ res) := by
  rw [s_X11_mark_J10] at e
  refine zwp.go (m := 2) (j := 12) (ls' := [some (zr ((52, 11, 0) : zF)), none]) (st' := [zi (zI h 52 20)]) (h' := h) rfl ?_
  refine zb_if (j := 15) (j2 := 13) e rfl (fun e => ?_) (fun e => ?_)
  · cases e
    exact zwp.rv rfl ⟨⟨rfl, rfl⟩, hR⟩
  · refine zwp.go (m := 1) (j := 14) (ls' := [some (zr ((52, 11, 0) : zF)), none]) (st' := [zr ((52, 11, 0) : zF)]) (h' := h) rfl ?_
    refine zc_cv (d := d + 1) e (fun q e => s_X11_stepOn_ok (d + 0) ρ hρ h q hR e) rfl rfl (fun h1 hR1 e => ?_)
    cases e
    exact zwp.rv rfl ⟨⟨rfl, rfl⟩, hR1⟩
def s_X11_mark (a1 : Int32) (h : zH) : Option (zH) := if ¬ (zI h 52 20) = 0 then (s_X11_mark_J10 h) else ((s_X11_isMarked a1 h).bind fun v1 => if ¬ v1 = 0 then (s_X11_mark_J10 h) else ((s_X11_wrong (1 : Int32) h).bind fun h2 => s_X11_mark_J10 h2))
theorem s_X11_mark_ok (d : Nat) (ρ : Nat → Nat → Option zF) (hρ : zSh ρ) (a1 : Int32) (h : zH) (res : zH) (hR : zRq h ρ) (e : s_X11_mark a1 h = some res) : zcl (d + 2) 69 [zr ((52, 11, 0) : zF), zi a1] h (zQv ρ res) := by
  rw [s_X11_mark] at e
  refine ⟨zm_X11_mark, rfl, ?_⟩
  show zwp (d + 2) zm_X11_mark 0 [some (zr ((52, 11, 0) : zF)), some (zi a1)] [] h _
  refine zwp.go (m := 2) (j := 2) (ls' := [some (zr ((52, 11, 0) : zF)), some (zi a1)]) (st' := [zi (zI h 52 20)]) (h' := h) rfl ?_
  refine zb_if (j := 10) (j2 := 3) e rfl (fun e => ?_) (fun e => ?_)
  · refine zwp.fg (a := [some (zr ((52, 11, 0) : zF)), none]) (And.intro rfl trivial) ?_
    exact s_X11_mark_J10_ok d ρ hρ h _ hR e
  · refine zwp.go (m := 2) (j := 5) (ls' := [some (zr ((52, 11, 0) : zF)), some (zi a1)]) (st' := [zi a1, zr ((52, 11, 0) : zF)]) (h' := h) rfl ?_
    refine zc_cp (d := d + 1) e (fun q e => s_X11_isMarked_ok (d + 1) ρ hρ a1 h q hR e) rfl rfl (fun v1 e => ?_)
    refine zb_if (j := 10) (j2 := 7) e rfl (fun e => ?_) (fun e => ?_)
    · refine zwp.fg (a := [some (zr ((52, 11, 0) : zF)), none]) (And.intro rfl trivial) ?_
      exact s_X11_mark_J10_ok d ρ hρ h _ hR e
    · refine zwp.go (m := 2) (j := 9) (ls' := [some (zr ((52, 11, 0) : zF)), some (zi a1)]) (st' := [zi (1 : Int32), zr ((52, 11, 0) : zF)]) (h' := h) rfl ?_
      refine zc_cv (d := d + 1) e (fun q e => s_X11_wrong_ok (d + 1) ρ hρ (1 : Int32) h q hR e) rfl rfl (fun h2 hR2 e => ?_)
      refine zwp.fg (a := [some (zr ((52, 11, 0) : zF)), none]) (And.intro rfl trivial) ?_
      exact s_X11_mark_J10_ok d ρ hρ h2 _ hR2 e
def s_X11_readPart_J30 (rx : Int32 → zH → Option (zH)) (l2 : Int32) (h : zH) : Option (zH) := (s_X11_lay ((-1 : Int32) - l2) h).bind fun h1 => if ¬ (zI h1 52 20) = 0 then (some h1) else ((s_X11_stepOn h1).bind fun h2 => some h2)
theorem s_X11_readPart_J30_ok (d : Nat) (ρ : Nat → Nat → Option zF) (hρ : zSh ρ) (rx : Int32 → zH → Option (zH)) (hrx : ∀ a1 h res, zRq h ρ → rx a1  h = some res → zcl d 75 [zr ((52, 11, 0) : zF), zi a1] h (zQv ρ res)) (l2 : Int32) (h : zH) (res : zH) (hR : zRq h ρ) (e : s_X11_readPart_J30 rx  l2 h = some res) : zwp (d + 6) zm_X11_readPart 30 [some (zr ((52, 11, 0) : zF)), none, some (zi l2)] [] h (zQv ρ res) := by
  rw [s_X11_readPart_J30] at e
  refine zwp.go (m := 4) (j := 34) (ls' := [some (zr ((52, 11, 0) : zF)), none, some (zi l2)]) (st' := [zi ((-1 : Int32) - l2), zr ((52, 11, 0) : zF)]) (h' := h) rfl ?_
  refine zc_cv (d := d + 5) e (fun q e => s_X11_lay_ok (d + 5) ρ hρ ((-1 : Int32) - l2) h q hR e) rfl rfl (fun h1 hR1 e => ?_)
  refine zwp.go (m := 2) (j := 37) (ls' := [some (zr ((52, 11, 0) : zF)), none, some (zi l2)]) (st' := [zi (zI h1 52 20)]) (h' := h1) rfl ?_
  refine zb_if (j := 40) (j2 := 38) e rfl (fun e => ?_) (fun e => ?_)
  · cases e
    exact zwp.rv rfl ⟨⟨rfl, rfl⟩, hR1⟩
  · refine zwp.go (m := 1) (j := 39) (ls' := [some (zr ((52, 11, 0) : zF)), none, some (zi l2)]) (st' := [zr ((52, 11, 0) : zF)]) (h' := h1) rfl ?_
    refine zc_cv (d := d + 5) e (fun q e => s_X11_stepOn_ok (d + 4) ρ hρ h1 q hR1 e) rfl rfl (fun h2 hR2 e => ?_)
    cases e
    exact zwp.rv rfl ⟨⟨rfl, rfl⟩, hR2⟩
def s_X11_readPart (rx : Int32 → zH → Option (zH)) (a1 : Int32) (h : zH) : Option (zH) := if (zI h 52 20) = 0 then (if ¬ (zI h 52 16) = (2 : Int32) then (if ¬ (zI h 52 16) = (1 : Int32) then ((s_X11_mark (40 : Int32) h).bind fun h1 => (rx (a1 + (1 : Int32)) h1).bind fun h2 => (s_X11_mark (41 : Int32) h2).bind fun h3 => some h3) else (zvA h 52 3 fun b4 n5 => (s_X11_which b4 n5 h).bind fun v6 => if ¬ v6 = (-1 : Int32) then (s_X11_readPart_J30 rx v6 h) else ((s_X11_wrong (3 : Int32) h).bind fun h7 => s_X11_readPart_J30 rx v6 h7))) else (zbd (s_X11_readNumber (0 : Int32) (9999 : Int32) h) fun v9 h8 => (s_X11_lay v9 h8).bind fun h10 => some h10)) else (some h)
theorem s_X11_readPart_ok (d : Nat) (ρ : Nat → Nat → Option zF) (hρ : zSh ρ) (rx : Int32 → zH → Option (zH)) (a1 : Int32) (hrx : ∀ a1 h res, zRq h ρ → rx a1  h = some res → zcl d 75 [zr ((52, 11, 0) : zF), zi a1] h (zQv ρ res)) (h : zH) (res : zH) (hR : zRq h ρ) (e : s_X11_readPart rx a1 h = some res) : zcl (d + 6) 70 [zr ((52, 11, 0) : zF), zi a1] h (zQv ρ res) := by
  rw [s_X11_readPart] at e
  refine ⟨zm_X11_readPart, rfl, ?_⟩
  show zwp (d + 6) zm_X11_readPart 0 [some (zr ((52, 11, 0) : zF)), some (zi a1), none] [] h _
  refine zwp.go (m := 2) (j := 2) (ls' := [some (zr ((52, 11, 0) : zF)), some (zi a1), none]) (st' := [zi (zI h 52 20)]) (h' := h) rfl ?_
  refine zb_if (j := 4) (j2 := 3) e rfl (fun e => ?_) (fun e => ?_)
  · refine zwp.go (m := 3) (j := 7) (ls' := [some (zr ((52, 11, 0) : zF)), some (zi a1), none]) (st' := [zi (2 : Int32), zi (zI h 52 16)]) (h' := h) rfl ?_
    refine zb_if (j := 15) (j2 := 8) e rfl (fun e => ?_) (fun e => ?_)
    · refine zwp.go (m := 3) (j := 18) (ls' := [some (zr ((52, 11, 0) : zF)), some (zi a1), none]) (st' := [zi (1 : Int32), zi (zI h 52 16)]) (h' := h) rfl ?_
      refine zb_if (j := 41) (j2 := 19) e rfl (fun e => ?_) (fun e => ?_)
      · refine zwp.go (m := 2) (j := 43) (ls' := [some (zr ((52, 11, 0) : zF)), some (zi a1), none]) (st' := [zi (40 : Int32), zr ((52, 11, 0) : zF)]) (h' := h) rfl ?_
        refine zc_cv (d := d + 5) e (fun q e => s_X11_mark_ok (d + 3) ρ hρ (40 : Int32) h q hR e) rfl rfl (fun h1 hR1 e => ?_)
        refine zwp.go (m := 4) (j := 48) (ls' := [some (zr ((52, 11, 0) : zF)), some (zi a1), none]) (st' := [zi (a1 + (1 : Int32)), zr ((52, 11, 0) : zF)]) (h' := h1) rfl ?_
        refine zc_cv (d := d + 5) e (fun q e => (hrx (a1 + (1 : Int32)) h1 q hR1 e).le (by omega)) rfl rfl (fun h2 hR2 e => ?_)
        refine zwp.go (m := 2) (j := 51) (ls' := [some (zr ((52, 11, 0) : zF)), some (zi a1), none]) (st' := [zi (41 : Int32), zr ((52, 11, 0) : zF)]) (h' := h2) rfl ?_
        refine zc_cv (d := d + 5) e (fun q e => s_X11_mark_ok (d + 3) ρ hρ (41 : Int32) h2 q hR2 e) rfl rfl (fun h3 hR3 e => ?_)
        cases e
        exact zwp.rv rfl ⟨⟨rfl, rfl⟩, hR3⟩
      · refine zwp.go (m := 2) (j := 21) (ls' := [some (zr ((52, 11, 0) : zF)), some (zi a1), none]) (st' := [zr ((52, 11, 0) : zF), zr ((52, 11, 0) : zF)]) (h' := h) rfl ?_
        refine zc_va e rfl (fun b4 n5 e => ?_)
        refine zc_cp (d := d + 5) e (fun q e => s_X11_which_ok (d + 0) ρ hρ b4 n5 h q hR e) rfl rfl (fun v6 e => ?_)
        refine zwp.go (m := 3) (j := 26) (ls' := [some (zr ((52, 11, 0) : zF)), some (zi a1), some (zi v6)]) (st' := [zi (-1 : Int32), zi v6]) (h' := h) rfl ?_
        refine zb_if (j := 30) (j2 := 27) e rfl (fun e => ?_) (fun e => ?_)
        · refine zwp.fg (a := [some (zr ((52, 11, 0) : zF)), none, some (zi v6)]) (And.intro rfl (And.intro rfl trivial)) ?_
          exact s_X11_readPart_J30_ok d ρ hρ rx hrx v6 h _ hR e
        · refine zwp.go (m := 2) (j := 29) (ls' := [some (zr ((52, 11, 0) : zF)), some (zi a1), some (zi v6)]) (st' := [zi (3 : Int32), zr ((52, 11, 0) : zF)]) (h' := h) rfl ?_
          refine zc_cv (d := d + 5) e (fun q e => s_X11_wrong_ok (d + 5) ρ hρ (3 : Int32) h q hR e) rfl rfl (fun h7 hR7 e => ?_)
          refine zwp.fg (a := [some (zr ((52, 11, 0) : zF)), none, some (zi v6)]) (And.intro rfl (And.intro rfl trivial)) ?_
          exact s_X11_readPart_J30_ok d ρ hρ rx hrx v6 h7 _ hR7 e
    · refine zwp.go (m := 4) (j := 12) (ls' := [some (zr ((52, 11, 0) : zF)), some (zi a1), none]) (st' := [zi (9999 : Int32), zi (0 : Int32), zr ((52, 11, 0) : zF), zr ((52, 11, 0) : zF)]) (h' := h) rfl ?_
      refine zc_ci (d := d + 5) e (fun q e => s_X11_readNumber_ok (d + 3) ρ hρ (0 : Int32) (9999 : Int32) h q hR e) rfl rfl (fun v9 h8 hR8 e => ?_)
      refine zc_cv (d := d + 5) e (fun q e => s_X11_lay_ok (d + 5) ρ hρ v9 h8 q hR8 e) rfl rfl (fun h10 hR10 e => ?_)
      cases e
      exact zwp.rv rfl ⟨⟨rfl, rfl⟩, hR10⟩
  · cases e
    exact zwp.rv rfl ⟨⟨rfl, rfl⟩, hR⟩
def s_X11_readProduct_J18 (rx : Int32 → zH → Option (zH)) (k3 : (Int32 → zH → Option (zH))) (l1 : Int32) (s0 : Int32) (h : zH) : Option (zH) := (s_X11_stepOn h).bind fun h1 => (s_X11_readPart rx l1 h1).bind fun h2 => (s_X11_lay s0 h2).bind fun h3 => k3 l1 h3
theorem s_X11_readProduct_J18_ok (d : Nat) (ρ : Nat → Nat → Option zF) (hρ : zSh ρ) (rx : Int32 → zH → Option (zH)) (hrx : ∀ a1 h res, zRq h ρ → rx a1  h = some res → zcl d 75 [zr ((52, 11, 0) : zF), zi a1] h (zQv ρ res)) (k3 : (Int32 → zH → Option (zH))) (hk3 : ∀ l1 h res, zRq h ρ → k3 l1 h = some res → zwp (d + 7) zm_X11_readProduct 3 [some (zr ((52, 11, 0) : zF)), some (zi l1), none] [] h (zQv ρ res)) (l1 : Int32) (s0 : Int32) (h : zH) (res : zH) (hR : zRq h ρ) (e : s_X11_readProduct_J18 rx k3 l1 s0 h = some res) : zwp (d + 7) zm_X11_readProduct 18 [some (zr ((52, 11, 0) : zF)), some (zi l1), none] [zi s0] h (zQv ρ res) := by
  rw [s_X11_readProduct_J18] at e
  refine zwp.go (m := 2) (j := 20) (ls' := [some (zr ((52, 11, 0) : zF)), some (zi l1), some (zi s0)]) (st' := [zr ((52, 11, 0) : zF)]) (h' := h) rfl ?_
  refine zc_cv (d := d + 6) e (fun q e => s_X11_stepOn_ok (d + 5) ρ hρ h q hR e) rfl rfl (fun h1 hR1 e => ?_)
  refine zwp.go (m := 2) (j := 23) (ls' := [some (zr ((52, 11, 0) : zF)), some (zi l1), some (zi s0)]) (st' := [zi l1, zr ((52, 11, 0) : zF)]) (h' := h1) rfl ?_
  refine zc_cv (d := d + 6) e (fun q e => s_X11_readPart_ok (d + 0) ρ hρ rx l1 (fun a1 h res hR e => (hrx a1 h res hR e).le (by omega)) h1 q hR1 e) rfl rfl (fun h2 hR2 e => ?_)
  refine zwp.go (m := 2) (j := 26) (ls' := [some (zr ((52, 11, 0) : zF)), some (zi l1), some (zi s0)]) (st' := [zi s0, zr ((52, 11, 0) : zF)]) (h' := h2) rfl ?_
  refine zc_cv (d := d + 6) e (fun q e => s_X11_lay_ok (d + 6) ρ hρ s0 h2 q hR2 e) rfl rfl (fun h3 hR3 e => ?_)
  refine zwp.go (m := 1) (j := 3) (ls' := [some (zr ((52, 11, 0) : zF)), some (zi l1), some (zi s0)]) (st' := []) (h' := h3) rfl ?_
  refine zwp.fg (a := [some (zr ((52, 11, 0) : zF)), some (zi l1), none]) (And.intro rfl (And.intro rfl trivial)) ?_
  exact hk3 l1 h3 _ hR3 e
def s_X11_readProduct_J11 (rx : Int32 → zH → Option (zH)) (k3 : (Int32 → zH → Option (zH))) (l1 : Int32) (h : zH) : Option (zH) := (s_X11_isMarked (42 : Int32) h).bind fun v1 => if v1 = 0 then (s_X11_readProduct_J18 rx k3 l1 (-23 : Int32) h) else (s_X11_readProduct_J18 rx k3 l1 (-22 : Int32) h)
theorem s_X11_readProduct_J11_ok (d : Nat) (ρ : Nat → Nat → Option zF) (hρ : zSh ρ) (rx : Int32 → zH → Option (zH)) (hrx : ∀ a1 h res, zRq h ρ → rx a1  h = some res → zcl d 75 [zr ((52, 11, 0) : zF), zi a1] h (zQv ρ res)) (k3 : (Int32 → zH → Option (zH))) (hk3 : ∀ l1 h res, zRq h ρ → k3 l1 h = some res → zwp (d + 7) zm_X11_readProduct 3 [some (zr ((52, 11, 0) : zF)), some (zi l1), none] [] h (zQv ρ res)) (l1 : Int32) (h : zH) (res : zH) (hR : zRq h ρ) (e : s_X11_readProduct_J11 rx k3 l1 h = some res) : zwp (d + 7) zm_X11_readProduct 11 [some (zr ((52, 11, 0) : zF)), some (zi l1), none] [] h (zQv ρ res) := by
  rw [s_X11_readProduct_J11] at e
  refine zwp.go (m := 2) (j := 13) (ls' := [some (zr ((52, 11, 0) : zF)), some (zi l1), none]) (st' := [zi (42 : Int32), zr ((52, 11, 0) : zF)]) (h' := h) rfl ?_
  refine zc_cp (d := d + 6) e (fun q e => s_X11_isMarked_ok (d + 6) ρ hρ (42 : Int32) h q hR e) rfl rfl (fun v1 e => ?_)
  refine zb_if (j := 17) (j2 := 15) e rfl (fun e => ?_) (fun e => ?_)
  · refine zwp.go (m := 1) (j := 18) (ls' := [some (zr ((52, 11, 0) : zF)), some (zi l1), none]) (st' := [zi (-23 : Int32)]) (h' := h) rfl ?_
    exact s_X11_readProduct_J18_ok d ρ hρ rx hrx k3 hk3 l1 (-23 : Int32) h _ hR e
  · refine zwp.go (m := 2) (j := 18) (ls' := [some (zr ((52, 11, 0) : zF)), some (zi l1), none]) (st' := [zi (-22 : Int32)]) (h' := h) rfl ?_
    exact s_X11_readProduct_J18_ok d ρ hρ rx hrx k3 hk3 l1 (-22 : Int32) h _ hR e
def s_X11_readProduct_L3 (rx : Int32 → zH → Option (zH)) : Nat → Int32 → zH → Option (zH)
  | 0, _, _ => none
  | n + 1, l1, h => (s_X11_isMarked (42 : Int32) h).bind fun v1 => if ¬ v1 = 0 then (s_X11_readProduct_J11 rx (s_X11_readProduct_L3 rx n) l1 h) else ((s_X11_isMarked (47 : Int32) h).bind fun v2 => if v2 = 0 then (some h) else (s_X11_readProduct_J11 rx (s_X11_readProduct_L3 rx n) l1 h))
theorem s_X11_readProduct_L3_ok (d : Nat) (ρ : Nat → Nat → Option zF) (hρ : zSh ρ) (rx : Int32 → zH → Option (zH)) (hrx : ∀ a1 h res, zRq h ρ → rx a1  h = some res → zcl d 75 [zr ((52, 11, 0) : zF), zi a1] h (zQv ρ res)) : ∀ (n : Nat) (l1 : Int32) (h : zH) (res : zH) (hR : zRq h ρ) (e : s_X11_readProduct_L3 rx  n l1 h = some res), zwp (d + 7) zm_X11_readProduct 3 [some (zr ((52, 11, 0) : zF)), some (zi l1), none] [] h (zQv ρ res) := by
  intro n
  induction n with
  | zero => intro l1 h res hR e; cases e
  | succ n ih =>
    intro l1 h res hR e
    rw [s_X11_readProduct_L3] at e
    refine zwp.go (m := 2) (j := 5) (ls' := [some (zr ((52, 11, 0) : zF)), some (zi l1), none]) (st' := [zi (42 : Int32), zr ((52, 11, 0) : zF)]) (h' := h) rfl ?_
    refine zc_cp (d := d + 6) e (fun q e => s_X11_isMarked_ok (d + 6) ρ hρ (42 : Int32) h q hR e) rfl rfl (fun v1 e => ?_)
    refine zb_if (j := 11) (j2 := 7) e rfl (fun e => ?_) (fun e => ?_)
    · exact s_X11_readProduct_J11_ok d ρ hρ rx hrx (s_X11_readProduct_L3 rx n) ih l1 h _ hR e
    · refine zwp.go (m := 2) (j := 9) (ls' := [some (zr ((52, 11, 0) : zF)), some (zi l1), none]) (st' := [zi (47 : Int32), zr ((52, 11, 0) : zF)]) (h' := h) rfl ?_
      refine zc_cp (d := d + 6) e (fun q e => s_X11_isMarked_ok (d + 6) ρ hρ (47 : Int32) h q hR e) rfl rfl (fun v2 e => ?_)
      refine zb_if (j := 28) (j2 := 11) e rfl (fun e => ?_) (fun e => ?_)
      · cases e
        exact zwp.rv rfl ⟨⟨rfl, rfl⟩, hR⟩
      · exact s_X11_readProduct_J11_ok d ρ hρ rx hrx (s_X11_readProduct_L3 rx n) ih l1 h _ hR e
def s_X11_readProduct (rx : Int32 → zH → Option (zH)) (a1 : Int32) (h : zH) : Option (zH) := (s_X11_readPart rx a1 h).bind fun h1 => s_X11_readProduct_L3 rx zfu a1 h1
theorem s_X11_readProduct_ok (d : Nat) (ρ : Nat → Nat → Option zF) (hρ : zSh ρ) (rx : Int32 → zH → Option (zH)) (a1 : Int32) (hrx : ∀ a1 h res, zRq h ρ → rx a1  h = some res → zcl d 75 [zr ((52, 11, 0) : zF), zi a1] h (zQv ρ res)) (h : zH) (res : zH) (hR : zRq h ρ) (e : s_X11_readProduct rx a1 h = some res) : zcl (d + 7) 71 [zr ((52, 11, 0) : zF), zi a1] h (zQv ρ res) := by
  rw [s_X11_readProduct] at e
  refine ⟨zm_X11_readProduct, rfl, ?_⟩
  show zwp (d + 7) zm_X11_readProduct 0 [some (zr ((52, 11, 0) : zF)), some (zi a1), none] [] h _
  refine zwp.go (m := 2) (j := 2) (ls' := [some (zr ((52, 11, 0) : zF)), some (zi a1), none]) (st' := [zi a1, zr ((52, 11, 0) : zF)]) (h' := h) rfl ?_
  refine zc_cv (d := d + 6) e (fun q e => s_X11_readPart_ok (d + 0) ρ hρ rx a1 (fun a1 h res hR e => (hrx a1 h res hR e).le (by omega)) h q hR e) rfl rfl (fun h1 hR1 e => ?_)
  exact s_X11_readProduct_L3_ok d ρ hρ rx hrx zfu a1 h1 _ hR1 e
def s_X11_readSum_J18 (rx : Int32 → zH → Option (zH)) (k3 : (Int32 → zH → Option (zH))) (l1 : Int32) (s0 : Int32) (h : zH) : Option (zH) := (s_X11_stepOn h).bind fun h1 => (s_X11_readProduct rx l1 h1).bind fun h2 => (s_X11_lay s0 h2).bind fun h3 => k3 l1 h3
theorem s_X11_readSum_J18_ok (d : Nat) (ρ : Nat → Nat → Option zF) (hρ : zSh ρ) (rx : Int32 → zH → Option (zH)) (hrx : ∀ a1 h res, zRq h ρ → rx a1  h = some res → zcl d 75 [zr ((52, 11, 0) : zF), zi a1] h (zQv ρ res)) (k3 : (Int32 → zH → Option (zH))) (hk3 : ∀ l1 h res, zRq h ρ → k3 l1 h = some res → zwp (d + 8) zm_X11_readSum 3 [some (zr ((52, 11, 0) : zF)), some (zi l1), none] [] h (zQv ρ res)) (l1 : Int32) (s0 : Int32) (h : zH) (res : zH) (hR : zRq h ρ) (e : s_X11_readSum_J18 rx k3 l1 s0 h = some res) : zwp (d + 8) zm_X11_readSum 18 [some (zr ((52, 11, 0) : zF)), some (zi l1), none] [zi s0] h (zQv ρ res) := by
  rw [s_X11_readSum_J18] at e
  refine zwp.go (m := 2) (j := 20) (ls' := [some (zr ((52, 11, 0) : zF)), some (zi l1), some (zi s0)]) (st' := [zr ((52, 11, 0) : zF)]) (h' := h) rfl ?_
  refine zc_cv (d := d + 7) e (fun q e => s_X11_stepOn_ok (d + 6) ρ hρ h q hR e) rfl rfl (fun h1 hR1 e => ?_)
  refine zwp.go (m := 2) (j := 23) (ls' := [some (zr ((52, 11, 0) : zF)), some (zi l1), some (zi s0)]) (st' := [zi l1, zr ((52, 11, 0) : zF)]) (h' := h1) rfl ?_
  refine zc_cv (d := d + 7) e (fun q e => s_X11_readProduct_ok (d + 0) ρ hρ rx l1 (fun a1 h res hR e => (hrx a1 h res hR e).le (by omega)) h1 q hR1 e) rfl rfl (fun h2 hR2 e => ?_)
  refine zwp.go (m := 2) (j := 26) (ls' := [some (zr ((52, 11, 0) : zF)), some (zi l1), some (zi s0)]) (st' := [zi s0, zr ((52, 11, 0) : zF)]) (h' := h2) rfl ?_
  refine zc_cv (d := d + 7) e (fun q e => s_X11_lay_ok (d + 7) ρ hρ s0 h2 q hR2 e) rfl rfl (fun h3 hR3 e => ?_)
  refine zwp.go (m := 1) (j := 3) (ls' := [some (zr ((52, 11, 0) : zF)), some (zi l1), some (zi s0)]) (st' := []) (h' := h3) rfl ?_
  refine zwp.fg (a := [some (zr ((52, 11, 0) : zF)), some (zi l1), none]) (And.intro rfl (And.intro rfl trivial)) ?_
  exact hk3 l1 h3 _ hR3 e
def s_X11_readSum_J11 (rx : Int32 → zH → Option (zH)) (k3 : (Int32 → zH → Option (zH))) (l1 : Int32) (h : zH) : Option (zH) := (s_X11_isMarked (43 : Int32) h).bind fun v1 => if v1 = 0 then (s_X11_readSum_J18 rx k3 l1 (-21 : Int32) h) else (s_X11_readSum_J18 rx k3 l1 (-20 : Int32) h)
theorem s_X11_readSum_J11_ok (d : Nat) (ρ : Nat → Nat → Option zF) (hρ : zSh ρ) (rx : Int32 → zH → Option (zH)) (hrx : ∀ a1 h res, zRq h ρ → rx a1  h = some res → zcl d 75 [zr ((52, 11, 0) : zF), zi a1] h (zQv ρ res)) (k3 : (Int32 → zH → Option (zH))) (hk3 : ∀ l1 h res, zRq h ρ → k3 l1 h = some res → zwp (d + 8) zm_X11_readSum 3 [some (zr ((52, 11, 0) : zF)), some (zi l1), none] [] h (zQv ρ res)) (l1 : Int32) (h : zH) (res : zH) (hR : zRq h ρ) (e : s_X11_readSum_J11 rx k3 l1 h = some res) : zwp (d + 8) zm_X11_readSum 11 [some (zr ((52, 11, 0) : zF)), some (zi l1), none] [] h (zQv ρ res) := by
  rw [s_X11_readSum_J11] at e
  refine zwp.go (m := 2) (j := 13) (ls' := [some (zr ((52, 11, 0) : zF)), some (zi l1), none]) (st' := [zi (43 : Int32), zr ((52, 11, 0) : zF)]) (h' := h) rfl ?_
  refine zc_cp (d := d + 7) e (fun q e => s_X11_isMarked_ok (d + 7) ρ hρ (43 : Int32) h q hR e) rfl rfl (fun v1 e => ?_)
  refine zb_if (j := 17) (j2 := 15) e rfl (fun e => ?_) (fun e => ?_)
  · refine zwp.go (m := 1) (j := 18) (ls' := [some (zr ((52, 11, 0) : zF)), some (zi l1), none]) (st' := [zi (-21 : Int32)]) (h' := h) rfl ?_
    exact s_X11_readSum_J18_ok d ρ hρ rx hrx k3 hk3 l1 (-21 : Int32) h _ hR e
  · refine zwp.go (m := 2) (j := 18) (ls' := [some (zr ((52, 11, 0) : zF)), some (zi l1), none]) (st' := [zi (-20 : Int32)]) (h' := h) rfl ?_
    exact s_X11_readSum_J18_ok d ρ hρ rx hrx k3 hk3 l1 (-20 : Int32) h _ hR e
def s_X11_readSum_L3 (rx : Int32 → zH → Option (zH)) : Nat → Int32 → zH → Option (zH)
  | 0, _, _ => none
  | n + 1, l1, h => (s_X11_isMarked (43 : Int32) h).bind fun v1 => if ¬ v1 = 0 then (s_X11_readSum_J11 rx (s_X11_readSum_L3 rx n) l1 h) else ((s_X11_isMarked (45 : Int32) h).bind fun v2 => if v2 = 0 then (some h) else (s_X11_readSum_J11 rx (s_X11_readSum_L3 rx n) l1 h))
theorem s_X11_readSum_L3_ok (d : Nat) (ρ : Nat → Nat → Option zF) (hρ : zSh ρ) (rx : Int32 → zH → Option (zH)) (hrx : ∀ a1 h res, zRq h ρ → rx a1  h = some res → zcl d 75 [zr ((52, 11, 0) : zF), zi a1] h (zQv ρ res)) : ∀ (n : Nat) (l1 : Int32) (h : zH) (res : zH) (hR : zRq h ρ) (e : s_X11_readSum_L3 rx  n l1 h = some res), zwp (d + 8) zm_X11_readSum 3 [some (zr ((52, 11, 0) : zF)), some (zi l1), none] [] h (zQv ρ res) := by
  intro n
  induction n with
  | zero => intro l1 h res hR e; cases e
  | succ n ih =>
    intro l1 h res hR e
    rw [s_X11_readSum_L3] at e
    refine zwp.go (m := 2) (j := 5) (ls' := [some (zr ((52, 11, 0) : zF)), some (zi l1), none]) (st' := [zi (43 : Int32), zr ((52, 11, 0) : zF)]) (h' := h) rfl ?_
    refine zc_cp (d := d + 7) e (fun q e => s_X11_isMarked_ok (d + 7) ρ hρ (43 : Int32) h q hR e) rfl rfl (fun v1 e => ?_)
    refine zb_if (j := 11) (j2 := 7) e rfl (fun e => ?_) (fun e => ?_)
    · exact s_X11_readSum_J11_ok d ρ hρ rx hrx (s_X11_readSum_L3 rx n) ih l1 h _ hR e
    · refine zwp.go (m := 2) (j := 9) (ls' := [some (zr ((52, 11, 0) : zF)), some (zi l1), none]) (st' := [zi (45 : Int32), zr ((52, 11, 0) : zF)]) (h' := h) rfl ?_
      refine zc_cp (d := d + 7) e (fun q e => s_X11_isMarked_ok (d + 7) ρ hρ (45 : Int32) h q hR e) rfl rfl (fun v2 e => ?_)
      refine zb_if (j := 28) (j2 := 11) e rfl (fun e => ?_) (fun e => ?_)
      · cases e
        exact zwp.rv rfl ⟨⟨rfl, rfl⟩, hR⟩
      · exact s_X11_readSum_J11_ok d ρ hρ rx hrx (s_X11_readSum_L3 rx n) ih l1 h _ hR e
def s_X11_readSum (rx : Int32 → zH → Option (zH)) (a1 : Int32) (h : zH) : Option (zH) := (s_X11_readProduct rx a1 h).bind fun h1 => s_X11_readSum_L3 rx zfu a1 h1
theorem s_X11_readSum_ok (d : Nat) (ρ : Nat → Nat → Option zF) (hρ : zSh ρ) (rx : Int32 → zH → Option (zH)) (a1 : Int32) (hrx : ∀ a1 h res, zRq h ρ → rx a1  h = some res → zcl d 75 [zr ((52, 11, 0) : zF), zi a1] h (zQv ρ res)) (h : zH) (res : zH) (hR : zRq h ρ) (e : s_X11_readSum rx a1 h = some res) : zcl (d + 8) 72 [zr ((52, 11, 0) : zF), zi a1] h (zQv ρ res) := by
  rw [s_X11_readSum] at e
  refine ⟨zm_X11_readSum, rfl, ?_⟩
  show zwp (d + 8) zm_X11_readSum 0 [some (zr ((52, 11, 0) : zF)), some (zi a1), none] [] h _
  refine zwp.go (m := 2) (j := 2) (ls' := [some (zr ((52, 11, 0) : zF)), some (zi a1), none]) (st' := [zi a1, zr ((52, 11, 0) : zF)]) (h' := h) rfl ?_
  refine zc_cv (d := d + 7) e (fun q e => s_X11_readProduct_ok (d + 0) ρ hρ rx a1 (fun a1 h res hR e => (hrx a1 h res hR e).le (by omega)) h q hR e) rfl rfl (fun h1 hR1 e => ?_)
  exact s_X11_readSum_L3_ok d ρ hρ rx hrx zfu a1 h1 _ hR1 e
def s_X11_readNot_L48 (rx : Int32 → zH → Option (zH)) : Nat → Int32 → Int32 → zH → Option (zH)
  | 0, _, _, _ => none
  | n + 1, l2, l3, h => if l2 ≤ l3 then (some h) else ((s_X11_lay (-28 : Int32) h).bind fun h1 => s_X11_readNot_L48 rx n l2 (l3 + (1 : Int32)) h1)
theorem s_X11_readNot_L48_ok (d : Nat) (ρ : Nat → Nat → Option zF) (hρ : zSh ρ) (rx : Int32 → zH → Option (zH)) (hrx : ∀ a1 h res, zRq h ρ → rx a1  h = some res → zcl d 75 [zr ((52, 11, 0) : zF), zi a1] h (zQv ρ res)) : ∀ (n : Nat) (l2 : Int32) (l3 : Int32) (h : zH) (res : zH) (hR : zRq h ρ) (e : s_X11_readNot_L48 rx  n l2 l3 h = some res), zwp (d + 9) zm_X11_readNot 48 [some (zr ((52, 11, 0) : zF)), none, some (zi l2), some (zi l3)] [] h (zQv ρ res) := by
  intro n
  induction n with
  | zero => intro l2 l3 h res hR e; cases e
  | succ n ih =>
    intro l2 l3 h res hR e
    rw [s_X11_readNot_L48] at e
    refine zwp.go (m := 2) (j := 50) (ls' := [some (zr ((52, 11, 0) : zF)), none, some (zi l2), some (zi l3)]) (st' := [zi l2, zi l3]) (h' := h) rfl ?_
    refine zb_if (j := 56) (j2 := 51) e rfl (fun e => ?_) (fun e => ?_)
    · cases e
      exact zwp.rv rfl ⟨⟨rfl, rfl⟩, hR⟩
    · refine zwp.go (m := 2) (j := 53) (ls' := [some (zr ((52, 11, 0) : zF)), none, some (zi l2), some (zi l3)]) (st' := [zi (-28 : Int32), zr ((52, 11, 0) : zF)]) (h' := h) rfl ?_
      refine zc_cv (d := d + 8) e (fun q e => s_X11_lay_ok (d + 8) ρ hρ (-28 : Int32) h q hR e) rfl rfl (fun h1 hR1 e => ?_)
      refine zwp.go (m := 2) (j := 48) (ls' := [some (zr ((52, 11, 0) : zF)), none, some (zi l2), some (zi (l3 + (1 : Int32)))]) (st' := []) (h' := h1) rfl ?_
      exact ih l2 (l3 + (1 : Int32)) h1 _ hR1 e
def s_X11_readNot_J37 (rx : Int32 → zH → Option (zH)) (l1 : Int32) (l2 : Int32) (s0 : Int32) (h : zH) : Option (zH) := (s_X11_stepOn h).bind fun h1 => (s_X11_readSum rx l1 h1).bind fun h2 => (s_X11_lay s0 h2).bind fun h3 => s_X11_readNot_L48 rx zfu l2 (0 : Int32) h3
theorem s_X11_readNot_J37_ok (d : Nat) (ρ : Nat → Nat → Option zF) (hρ : zSh ρ) (rx : Int32 → zH → Option (zH)) (hrx : ∀ a1 h res, zRq h ρ → rx a1  h = some res → zcl d 75 [zr ((52, 11, 0) : zF), zi a1] h (zQv ρ res)) (l1 : Int32) (l2 : Int32) (s0 : Int32) (h : zH) (res : zH) (hR : zRq h ρ) (e : s_X11_readNot_J37 rx  l1 l2 s0 h = some res) : zwp (d + 9) zm_X11_readNot 37 [some (zr ((52, 11, 0) : zF)), some (zi l1), some (zi l2), none] [zi s0] h (zQv ρ res) := by
  rw [s_X11_readNot_J37] at e
  refine zwp.go (m := 2) (j := 39) (ls' := [some (zr ((52, 11, 0) : zF)), some (zi l1), some (zi l2), some (zi s0)]) (st' := [zr ((52, 11, 0) : zF)]) (h' := h) rfl ?_
  refine zc_cv (d := d + 8) e (fun q e => s_X11_stepOn_ok (d + 7) ρ hρ h q hR e) rfl rfl (fun h1 hR1 e => ?_)
  refine zwp.go (m := 2) (j := 42) (ls' := [some (zr ((52, 11, 0) : zF)), some (zi l1), some (zi l2), some (zi s0)]) (st' := [zi l1, zr ((52, 11, 0) : zF)]) (h' := h1) rfl ?_
  refine zc_cv (d := d + 8) e (fun q e => s_X11_readSum_ok (d + 0) ρ hρ rx l1 (fun a1 h res hR e => (hrx a1 h res hR e).le (by omega)) h1 q hR1 e) rfl rfl (fun h2 hR2 e => ?_)
  refine zwp.go (m := 2) (j := 45) (ls' := [some (zr ((52, 11, 0) : zF)), some (zi l1), some (zi l2), some (zi s0)]) (st' := [zi s0, zr ((52, 11, 0) : zF)]) (h' := h2) rfl ?_
  refine zc_cv (d := d + 8) e (fun q e => s_X11_lay_ok (d + 8) ρ hρ s0 h2 q hR2 e) rfl rfl (fun h3 hR3 e => ?_)
  refine zwp.go (m := 2) (j := 48) (ls' := [some (zr ((52, 11, 0) : zF)), some (zi l1), some (zi l2), some (zi (0 : Int32))]) (st' := []) (h' := h3) rfl ?_
  refine zwp.fg (a := [some (zr ((52, 11, 0) : zF)), none, some (zi l2), some (zi (0 : Int32))]) (And.intro rfl (And.intro rfl (And.intro rfl trivial))) ?_
  exact s_X11_readNot_L48_ok d ρ hρ rx hrx zfu l2 (0 : Int32) h3 _ hR3 e
def s_X11_readNot_J30 (rx : Int32 → zH → Option (zH)) (l1 : Int32) (l2 : Int32) (h : zH) : Option (zH) := (s_X11_isMarked (60 : Int32) h).bind fun v1 => if v1 = 0 then (s_X11_readNot_J37 rx l1 l2 (-25 : Int32) h) else (s_X11_readNot_J37 rx l1 l2 (-24 : Int32) h)
theorem s_X11_readNot_J30_ok (d : Nat) (ρ : Nat → Nat → Option zF) (hρ : zSh ρ) (rx : Int32 → zH → Option (zH)) (hrx : ∀ a1 h res, zRq h ρ → rx a1  h = some res → zcl d 75 [zr ((52, 11, 0) : zF), zi a1] h (zQv ρ res)) (l1 : Int32) (l2 : Int32) (h : zH) (res : zH) (hR : zRq h ρ) (e : s_X11_readNot_J30 rx  l1 l2 h = some res) : zwp (d + 9) zm_X11_readNot 30 [some (zr ((52, 11, 0) : zF)), some (zi l1), some (zi l2), none] [] h (zQv ρ res) := by
  rw [s_X11_readNot_J30] at e
  refine zwp.go (m := 2) (j := 32) (ls' := [some (zr ((52, 11, 0) : zF)), some (zi l1), some (zi l2), none]) (st' := [zi (60 : Int32), zr ((52, 11, 0) : zF)]) (h' := h) rfl ?_
  refine zc_cp (d := d + 8) e (fun q e => s_X11_isMarked_ok (d + 8) ρ hρ (60 : Int32) h q hR e) rfl rfl (fun v1 e => ?_)
  refine zb_if (j := 36) (j2 := 34) e rfl (fun e => ?_) (fun e => ?_)
  · refine zwp.go (m := 1) (j := 37) (ls' := [some (zr ((52, 11, 0) : zF)), some (zi l1), some (zi l2), none]) (st' := [zi (-25 : Int32)]) (h' := h) rfl ?_
    exact s_X11_readNot_J37_ok d ρ hρ rx hrx l1 l2 (-25 : Int32) h _ hR e
  · refine zwp.go (m := 2) (j := 37) (ls' := [some (zr ((52, 11, 0) : zF)), some (zi l1), some (zi l2), none]) (st' := [zi (-24 : Int32)]) (h' := h) rfl ?_
    exact s_X11_readNot_J37_ok d ρ hρ rx hrx l1 l2 (-24 : Int32) h _ hR e
def s_X11_readNot_J12 (rx : Int32 → zH → Option (zH)) (k2 : (Int32 → Int32 → zH → Option (zH))) (l1 : Int32) (l2 : Int32) (h : zH) : Option (zH) := if ¬ (zI h 52 20) = 0 then (k2 l1 (l2 + (1 : Int32)) h) else ((s_X11_stepOn h).bind fun h1 => k2 l1 (l2 + (1 : Int32)) h1)
theorem s_X11_readNot_J12_ok (d : Nat) (ρ : Nat → Nat → Option zF) (hρ : zSh ρ) (rx : Int32 → zH → Option (zH)) (hrx : ∀ a1 h res, zRq h ρ → rx a1  h = some res → zcl d 75 [zr ((52, 11, 0) : zF), zi a1] h (zQv ρ res)) (k2 : (Int32 → Int32 → zH → Option (zH))) (hk2 : ∀ l1 l2 h res, zRq h ρ → k2 l1 l2 h = some res → zwp (d + 9) zm_X11_readNot 2 [some (zr ((52, 11, 0) : zF)), some (zi l1), some (zi l2), none] [] h (zQv ρ res)) (l1 : Int32) (l2 : Int32) (h : zH) (res : zH) (hR : zRq h ρ) (e : s_X11_readNot_J12 rx k2 l1 l2 h = some res) : zwp (d + 9) zm_X11_readNot 12 [some (zr ((52, 11, 0) : zF)), some (zi l1), some (zi l2), none] [] h (zQv ρ res) := by
  rw [s_X11_readNot_J12] at e
  refine zwp.go (m := 3) (j := 15) (ls' := [some (zr ((52, 11, 0) : zF)), some (zi l1), some (zi (l2 + (1 : Int32))), none]) (st' := [zi (zI h 52 20)]) (h' := h) rfl ?_
  refine zb_if (j := 2) (j2 := 16) e rfl (fun e => ?_) (fun e => ?_)
  · exact hk2 l1 (l2 + (1 : Int32)) h _ hR e
  · refine zwp.go (m := 1) (j := 17) (ls' := [some (zr ((52, 11, 0) : zF)), some (zi l1), some (zi (l2 + (1 : Int32))), none]) (st' := [zr ((52, 11, 0) : zF)]) (h' := h) rfl ?_
    refine zc_cv (d := d + 8) e (fun q e => s_X11_stepOn_ok (d + 7) ρ hρ h q hR e) rfl rfl (fun h1 hR1 e => ?_)
    refine zwp.go (m := 1) (j := 2) (ls' := [some (zr ((52, 11, 0) : zF)), some (zi l1), some (zi (l2 + (1 : Int32))), none]) (st' := []) (h' := h1) rfl ?_
    exact hk2 l1 (l2 + (1 : Int32)) h1 _ hR1 e
def s_X11_readNot_L2 (rx : Int32 → zH → Option (zH)) : Nat → Int32 → Int32 → zH → Option (zH)
  | 0, _, _, _ => none
  | n + 1, l1, l2, h => (s_X11_is 41 h).bind fun v1 => if v1 = 0 then ((s_X11_readSum rx l1 h).bind fun h2 => (s_X11_isMarked (60 : Int32) h2).bind fun v3 => if ¬ v3 = 0 then (s_X11_readNot_J30 rx l1 l2 h2) else ((s_X11_isMarked (61 : Int32) h2).bind fun v4 => if v4 = 0 then (s_X11_readNot_L48 rx zfu l2 (0 : Int32) h2) else (s_X11_readNot_J30 rx l1 l2 h2))) else (if ¬ l2 = (6 : Int32) then (s_X11_readNot_J12 rx (s_X11_readNot_L2 rx n) l1 l2 h) else ((s_X11_wrong (2 : Int32) h).bind fun h5 => s_X11_readNot_J12 rx (s_X11_readNot_L2 rx n) l1 l2 h5))
theorem s_X11_readNot_L2_ok (d : Nat) (ρ : Nat → Nat → Option zF) (hρ : zSh ρ) (rx : Int32 → zH → Option (zH)) (hrx : ∀ a1 h res, zRq h ρ → rx a1  h = some res → zcl d 75 [zr ((52, 11, 0) : zF), zi a1] h (zQv ρ res)) : ∀ (n : Nat) (l1 : Int32) (l2 : Int32) (h : zH) (res : zH) (hR : zRq h ρ) (e : s_X11_readNot_L2 rx  n l1 l2 h = some res), zwp (d + 9) zm_X11_readNot 2 [some (zr ((52, 11, 0) : zF)), some (zi l1), some (zi l2), none] [] h (zQv ρ res) := by
  intro n
  induction n with
  | zero => intro l1 l2 h res hR e; cases e
  | succ n ih =>
    intro l1 l2 h res hR e
    rw [s_X11_readNot_L2] at e
    refine zwp.go (m := 2) (j := 4) (ls' := [some (zr ((52, 11, 0) : zF)), some (zi l1), some (zi l2), none]) (st' := [zr ((41, 30, 0) : zF), zr ((52, 11, 0) : zF)]) (h' := h) rfl ?_
    refine zc_cp (d := d + 8) e (fun q e => s_X11_is_ok (d + 4) ρ hρ 41 h q hR e) rfl rfl (fun v1 e => ?_)
    refine zb_if (j := 19) (j2 := 6) e rfl (fun e => ?_) (fun e => ?_)
    · refine zwp.go (m := 2) (j := 21) (ls' := [some (zr ((52, 11, 0) : zF)), some (zi l1), some (zi l2), none]) (st' := [zi l1, zr ((52, 11, 0) : zF)]) (h' := h) rfl ?_
      refine zc_cv (d := d + 8) e (fun q e => s_X11_readSum_ok (d + 0) ρ hρ rx l1 (fun a1 h res hR e => (hrx a1 h res hR e).le (by omega)) h q hR e) rfl rfl (fun h2 hR2 e => ?_)
      refine zwp.go (m := 2) (j := 24) (ls' := [some (zr ((52, 11, 0) : zF)), some (zi l1), some (zi l2), none]) (st' := [zi (60 : Int32), zr ((52, 11, 0) : zF)]) (h' := h2) rfl ?_
      refine zc_cp (d := d + 8) e (fun q e => s_X11_isMarked_ok (d + 8) ρ hρ (60 : Int32) h2 q hR2 e) rfl rfl (fun v3 e => ?_)
      refine zb_if (j := 30) (j2 := 26) e rfl (fun e => ?_) (fun e => ?_)
      · exact s_X11_readNot_J30_ok d ρ hρ rx hrx l1 l2 h2 _ hR2 e
      · refine zwp.go (m := 2) (j := 28) (ls' := [some (zr ((52, 11, 0) : zF)), some (zi l1), some (zi l2), none]) (st' := [zi (61 : Int32), zr ((52, 11, 0) : zF)]) (h' := h2) rfl ?_
        refine zc_cp (d := d + 8) e (fun q e => s_X11_isMarked_ok (d + 8) ρ hρ (61 : Int32) h2 q hR2 e) rfl rfl (fun v4 e => ?_)
        refine zb_if (j := 46) (j2 := 30) e rfl (fun e => ?_) (fun e => ?_)
        · refine zwp.go (m := 2) (j := 48) (ls' := [some (zr ((52, 11, 0) : zF)), some (zi l1), some (zi l2), some (zi (0 : Int32))]) (st' := []) (h' := h2) rfl ?_
          refine zwp.fg (a := [some (zr ((52, 11, 0) : zF)), none, some (zi l2), some (zi (0 : Int32))]) (And.intro rfl (And.intro rfl (And.intro rfl trivial))) ?_
          exact s_X11_readNot_L48_ok d ρ hρ rx hrx zfu l2 (0 : Int32) h2 _ hR2 e
        · exact s_X11_readNot_J30_ok d ρ hρ rx hrx l1 l2 h2 _ hR2 e
    · refine zwp.go (m := 2) (j := 8) (ls' := [some (zr ((52, 11, 0) : zF)), some (zi l1), some (zi l2), none]) (st' := [zi (6 : Int32), zi l2]) (h' := h) rfl ?_
      refine zb_if (j := 12) (j2 := 9) e rfl (fun e => ?_) (fun e => ?_)
      · exact s_X11_readNot_J12_ok d ρ hρ rx hrx (s_X11_readNot_L2 rx n) ih l1 l2 h _ hR e
      · refine zwp.go (m := 2) (j := 11) (ls' := [some (zr ((52, 11, 0) : zF)), some (zi l1), some (zi l2), none]) (st' := [zi (2 : Int32), zr ((52, 11, 0) : zF)]) (h' := h) rfl ?_
        refine zc_cv (d := d + 8) e (fun q e => s_X11_wrong_ok (d + 8) ρ hρ (2 : Int32) h q hR e) rfl rfl (fun h5 hR5 e => ?_)
        exact s_X11_readNot_J12_ok d ρ hρ rx hrx (s_X11_readNot_L2 rx n) ih l1 l2 h5 _ hR5 e
def s_X11_readNot (rx : Int32 → zH → Option (zH)) (a1 : Int32) (h : zH) : Option (zH) := s_X11_readNot_L2 rx zfu a1 (0 : Int32) h
theorem s_X11_readNot_ok (d : Nat) (ρ : Nat → Nat → Option zF) (hρ : zSh ρ) (rx : Int32 → zH → Option (zH)) (a1 : Int32) (hrx : ∀ a1 h res, zRq h ρ → rx a1  h = some res → zcl d 75 [zr ((52, 11, 0) : zF), zi a1] h (zQv ρ res)) (h : zH) (res : zH) (hR : zRq h ρ) (e : s_X11_readNot rx a1 h = some res) : zcl (d + 9) 73 [zr ((52, 11, 0) : zF), zi a1] h (zQv ρ res) := by
  rw [s_X11_readNot] at e
  refine ⟨zm_X11_readNot, rfl, ?_⟩
  show zwp (d + 9) zm_X11_readNot 0 [some (zr ((52, 11, 0) : zF)), some (zi a1), none, none] [] h _
  refine zwp.go (m := 2) (j := 2) (ls' := [some (zr ((52, 11, 0) : zF)), some (zi a1), some (zi (0 : Int32)), none]) (st' := []) (h' := h) rfl ?_
  exact s_X11_readNot_L2_ok d ρ hρ rx hrx zfu a1 (0 : Int32) h _ hR e
def s_X11_readAnd_L3 (rx : Int32 → zH → Option (zH)) : Nat → Int32 → zH → Option (zH)
  | 0, _, _ => none
  | n + 1, l1, h => (s_X11_is 42 h).bind fun v1 => if v1 = 0 then (some h) else ((s_X11_stepOn h).bind fun h2 => (s_X11_readNot rx l1 h2).bind fun h3 => (s_X11_lay (-26 : Int32) h3).bind fun h4 => s_X11_readAnd_L3 rx n l1 h4)
theorem s_X11_readAnd_L3_ok (d : Nat) (ρ : Nat → Nat → Option zF) (hρ : zSh ρ) (rx : Int32 → zH → Option (zH)) (hrx : ∀ a1 h res, zRq h ρ → rx a1  h = some res → zcl d 75 [zr ((52, 11, 0) : zF), zi a1] h (zQv ρ res)) : ∀ (n : Nat) (l1 : Int32) (h : zH) (res : zH) (hR : zRq h ρ) (e : s_X11_readAnd_L3 rx  n l1 h = some res), zwp (d + 10) zm_X11_readAnd 3 [some (zr ((52, 11, 0) : zF)), some (zi l1)] [] h (zQv ρ res) := by
  intro n
  induction n with
  | zero => intro l1 h res hR e; cases e
  | succ n ih =>
    intro l1 h res hR e
    rw [s_X11_readAnd_L3] at e
    refine zwp.go (m := 2) (j := 5) (ls' := [some (zr ((52, 11, 0) : zF)), some (zi l1)]) (st' := [zr ((42, 30, 0) : zF), zr ((52, 11, 0) : zF)]) (h' := h) rfl ?_
    refine zc_cp (d := d + 9) e (fun q e => s_X11_is_ok (d + 5) ρ hρ 42 h q hR e) rfl rfl (fun v1 e => ?_)
    refine zb_if (j := 16) (j2 := 7) e rfl (fun e => ?_) (fun e => ?_)
    · cases e
      exact zwp.rv rfl ⟨⟨rfl, rfl⟩, hR⟩
    · refine zwp.go (m := 1) (j := 8) (ls' := [some (zr ((52, 11, 0) : zF)), some (zi l1)]) (st' := [zr ((52, 11, 0) : zF)]) (h' := h) rfl ?_
      refine zc_cv (d := d + 9) e (fun q e => s_X11_stepOn_ok (d + 8) ρ hρ h q hR e) rfl rfl (fun h2 hR2 e => ?_)
      refine zwp.go (m := 2) (j := 11) (ls' := [some (zr ((52, 11, 0) : zF)), some (zi l1)]) (st' := [zi l1, zr ((52, 11, 0) : zF)]) (h' := h2) rfl ?_
      refine zc_cv (d := d + 9) e (fun q e => s_X11_readNot_ok (d + 0) ρ hρ rx l1 (fun a1 h res hR e => (hrx a1 h res hR e).le (by omega)) h2 q hR2 e) rfl rfl (fun h3 hR3 e => ?_)
      refine zwp.go (m := 2) (j := 14) (ls' := [some (zr ((52, 11, 0) : zF)), some (zi l1)]) (st' := [zi (-26 : Int32), zr ((52, 11, 0) : zF)]) (h' := h3) rfl ?_
      refine zc_cv (d := d + 9) e (fun q e => s_X11_lay_ok (d + 9) ρ hρ (-26 : Int32) h3 q hR3 e) rfl rfl (fun h4 hR4 e => ?_)
      refine zwp.go (m := 1) (j := 3) (ls' := [some (zr ((52, 11, 0) : zF)), some (zi l1)]) (st' := []) (h' := h4) rfl ?_
      exact ih l1 h4 _ hR4 e
def s_X11_readAnd (rx : Int32 → zH → Option (zH)) (a1 : Int32) (h : zH) : Option (zH) := (s_X11_readNot rx a1 h).bind fun h1 => s_X11_readAnd_L3 rx zfu a1 h1
theorem s_X11_readAnd_ok (d : Nat) (ρ : Nat → Nat → Option zF) (hρ : zSh ρ) (rx : Int32 → zH → Option (zH)) (a1 : Int32) (hrx : ∀ a1 h res, zRq h ρ → rx a1  h = some res → zcl d 75 [zr ((52, 11, 0) : zF), zi a1] h (zQv ρ res)) (h : zH) (res : zH) (hR : zRq h ρ) (e : s_X11_readAnd rx a1 h = some res) : zcl (d + 10) 74 [zr ((52, 11, 0) : zF), zi a1] h (zQv ρ res) := by
  rw [s_X11_readAnd] at e
  refine ⟨zm_X11_readAnd, rfl, ?_⟩
  show zwp (d + 10) zm_X11_readAnd 0 [some (zr ((52, 11, 0) : zF)), some (zi a1)] [] h _
  refine zwp.go (m := 2) (j := 2) (ls' := [some (zr ((52, 11, 0) : zF)), some (zi a1)]) (st' := [zi a1, zr ((52, 11, 0) : zF)]) (h' := h) rfl ?_
  refine zc_cv (d := d + 9) e (fun q e => s_X11_readNot_ok (d + 0) ρ hρ rx a1 (fun a1 h res hR e => (hrx a1 h res hR e).le (by omega)) h q hR e) rfl rfl (fun h1 hR1 e => ?_)
  exact s_X11_readAnd_L3_ok d ρ hρ rx hrx zfu a1 h1 _ hR1 e
def s_X11_readExpression_L35 (rx : Int32 → zH → Option (zH)) : Nat → Int32 → zH → Option (zH)
  | 0, _, _ => none
  | n + 1, l1, h => (s_X11_is 43 h).bind fun v1 => if v1 = 0 then (some h) else ((s_X11_stepOn h).bind fun h2 => (s_X11_readAnd rx l1 h2).bind fun h3 => (s_X11_lay (-27 : Int32) h3).bind fun h4 => s_X11_readExpression_L35 rx n l1 h4)
theorem s_X11_readExpression_L35_ok (d : Nat) (ρ : Nat → Nat → Option zF) (hρ : zSh ρ) (rx : Int32 → zH → Option (zH)) (hrx : ∀ a1 h res, zRq h ρ → rx a1  h = some res → zcl d 75 [zr ((52, 11, 0) : zF), zi a1] h (zQv ρ res)) : ∀ (n : Nat) (l1 : Int32) (h : zH) (res : zH) (hR : zRq h ρ) (e : s_X11_readExpression_L35 rx  n l1 h = some res), zwp (d + 11) zm_X11_readExpression 35 [some (zr ((52, 11, 0) : zF)), some (zi l1), none] [] h (zQv ρ res) := by
  intro n
  induction n with
  | zero => intro l1 h res hR e; cases e
  | succ n ih =>
    intro l1 h res hR e
    rw [s_X11_readExpression_L35] at e
    refine zwp.go (m := 2) (j := 37) (ls' := [some (zr ((52, 11, 0) : zF)), some (zi l1), none]) (st' := [zr ((43, 30, 0) : zF), zr ((52, 11, 0) : zF)]) (h' := h) rfl ?_
    refine zc_cp (d := d + 10) e (fun q e => s_X11_is_ok (d + 6) ρ hρ 43 h q hR e) rfl rfl (fun v1 e => ?_)
    refine zb_if (j := 48) (j2 := 39) e rfl (fun e => ?_) (fun e => ?_)
    · cases e
      exact zwp.rv rfl ⟨⟨rfl, rfl⟩, hR⟩
    · refine zwp.go (m := 1) (j := 40) (ls' := [some (zr ((52, 11, 0) : zF)), some (zi l1), none]) (st' := [zr ((52, 11, 0) : zF)]) (h' := h) rfl ?_
      refine zc_cv (d := d + 10) e (fun q e => s_X11_stepOn_ok (d + 9) ρ hρ h q hR e) rfl rfl (fun h2 hR2 e => ?_)
      refine zwp.go (m := 2) (j := 43) (ls' := [some (zr ((52, 11, 0) : zF)), some (zi l1), none]) (st' := [zi l1, zr ((52, 11, 0) : zF)]) (h' := h2) rfl ?_
      refine zc_cv (d := d + 10) e (fun q e => s_X11_readAnd_ok (d + 0) ρ hρ rx l1 (fun a1 h res hR e => (hrx a1 h res hR e).le (by omega)) h2 q hR2 e) rfl rfl (fun h3 hR3 e => ?_)
      refine zwp.go (m := 2) (j := 46) (ls' := [some (zr ((52, 11, 0) : zF)), some (zi l1), none]) (st' := [zi (-27 : Int32), zr ((52, 11, 0) : zF)]) (h' := h3) rfl ?_
      refine zc_cv (d := d + 10) e (fun q e => s_X11_lay_ok (d + 10) ρ hρ (-27 : Int32) h3 q hR3 e) rfl rfl (fun h4 hR4 e => ?_)
      refine zwp.go (m := 1) (j := 35) (ls' := [some (zr ((52, 11, 0) : zF)), some (zi l1), none]) (st' := []) (h' := h4) rfl ?_
      exact ih l1 h4 _ hR4 e
def s_X11_readExpression_J32 (rx : Int32 → zH → Option (zH)) (l1 : Int32) (h : zH) : Option (zH) := (s_X11_readAnd rx l1 h).bind fun h1 => s_X11_readExpression_L35 rx zfu l1 h1
theorem s_X11_readExpression_J32_ok (d : Nat) (ρ : Nat → Nat → Option zF) (hρ : zSh ρ) (rx : Int32 → zH → Option (zH)) (hrx : ∀ a1 h res, zRq h ρ → rx a1  h = some res → zcl d 75 [zr ((52, 11, 0) : zF), zi a1] h (zQv ρ res)) (l1 : Int32) (h : zH) (res : zH) (hR : zRq h ρ) (e : s_X11_readExpression_J32 rx  l1 h = some res) : zwp (d + 11) zm_X11_readExpression 32 [some (zr ((52, 11, 0) : zF)), some (zi l1), none] [] h (zQv ρ res) := by
  rw [s_X11_readExpression_J32] at e
  refine zwp.go (m := 2) (j := 34) (ls' := [some (zr ((52, 11, 0) : zF)), some (zi l1), none]) (st' := [zi l1, zr ((52, 11, 0) : zF)]) (h' := h) rfl ?_
  refine zc_cv (d := d + 10) e (fun q e => s_X11_readAnd_ok (d + 0) ρ hρ rx l1 (fun a1 h res hR e => (hrx a1 h res hR e).le (by omega)) h q hR e) rfl rfl (fun h1 hR1 e => ?_)
  exact s_X11_readExpression_L35_ok d ρ hρ rx hrx zfu l1 h1 _ hR1 e
def s_X11_readExpression_J19 (rx : Int32 → zH → Option (zH)) (l1 : Int32) (s0 : Int32) (h : zH) : Option (zH) := if ¬ s0 = 0 then (if ¬ l1 = (6 : Int32) then (s_X11_readExpression_J32 rx l1 h) else ((s_X11_wrong (2 : Int32) h).bind fun h1 => s_X11_readExpression_J32 rx l1 h1)) else ((s_X11_wrong (1 : Int32) h).bind fun h2 => s_X11_readExpression_J32 rx l1 h2)
theorem s_X11_readExpression_J19_ok (d : Nat) (ρ : Nat → Nat → Option zF) (hρ : zSh ρ) (rx : Int32 → zH → Option (zH)) (hrx : ∀ a1 h res, zRq h ρ → rx a1  h = some res → zcl d 75 [zr ((52, 11, 0) : zF), zi a1] h (zQv ρ res)) (l1 : Int32) (s0 : Int32) (h : zH) (res : zH) (hR : zRq h ρ) (e : s_X11_readExpression_J19 rx  l1 s0 h = some res) : zwp (d + 11) zm_X11_readExpression 19 [some (zr ((52, 11, 0) : zF)), some (zi l1), none] [zi s0] h (zQv ρ res) := by
  rw [s_X11_readExpression_J19] at e
  refine zwp.go (m := 2) (j := 21) (ls' := [some (zr ((52, 11, 0) : zF)), some (zi l1), some (zi s0)]) (st' := [zi s0]) (h' := h) rfl ?_
  refine zb_if (j := 26) (j2 := 22) e rfl (fun e => ?_) (fun e => ?_)
  · refine zwp.go (m := 2) (j := 28) (ls' := [some (zr ((52, 11, 0) : zF)), some (zi l1), some (zi s0)]) (st' := [zi (6 : Int32), zi l1]) (h' := h) rfl ?_
    refine zb_if (j := 32) (j2 := 29) e rfl (fun e => ?_) (fun e => ?_)
    · refine zwp.fg (a := [some (zr ((52, 11, 0) : zF)), some (zi l1), none]) (And.intro rfl (And.intro rfl trivial)) ?_
      exact s_X11_readExpression_J32_ok d ρ hρ rx hrx l1 h _ hR e
    · refine zwp.go (m := 2) (j := 31) (ls' := [some (zr ((52, 11, 0) : zF)), some (zi l1), some (zi s0)]) (st' := [zi (2 : Int32), zr ((52, 11, 0) : zF)]) (h' := h) rfl ?_
      refine zc_cv (d := d + 10) e (fun q e => s_X11_wrong_ok (d + 10) ρ hρ (2 : Int32) h q hR e) rfl rfl (fun h1 hR1 e => ?_)
      refine zwp.fg (a := [some (zr ((52, 11, 0) : zF)), some (zi l1), none]) (And.intro rfl (And.intro rfl trivial)) ?_
      exact s_X11_readExpression_J32_ok d ρ hρ rx hrx l1 h1 _ hR1 e
  · refine zwp.go (m := 2) (j := 24) (ls' := [some (zr ((52, 11, 0) : zF)), some (zi l1), some (zi s0)]) (st' := [zi (1 : Int32), zr ((52, 11, 0) : zF)]) (h' := h) rfl ?_
    refine zc_cv (d := d + 10) e (fun q e => s_X11_wrong_ok (d + 10) ρ hρ (1 : Int32) h q hR e) rfl rfl (fun h2 hR2 e => ?_)
    refine zwp.go (m := 1) (j := 32) (ls' := [some (zr ((52, 11, 0) : zF)), some (zi l1), some (zi s0)]) (st' := []) (h' := h2) rfl ?_
    refine zwp.fg (a := [some (zr ((52, 11, 0) : zF)), some (zi l1), none]) (And.intro rfl (And.intro rfl trivial)) ?_
    exact s_X11_readExpression_J32_ok d ρ hρ rx hrx l1 h2 _ hR2 e
def s_X11_readExpression (rx : Int32 → zH → Option (zH)) (a1 : Int32) (h : zH) : Option (zH) := if (zI h 52 20) = 0 then (if (zI h 52 16) = (2 : Int32) then (s_X11_readExpression_J19 rx a1 (1 : Int32) h) else (if (zI h 52 16) = (1 : Int32) then (s_X11_readExpression_J19 rx a1 (1 : Int32) h) else ((s_X11_isMarked (40 : Int32) h).bind fun v1 => if v1 = 0 then (s_X11_readExpression_J19 rx a1 (0 : Int32) h) else (s_X11_readExpression_J19 rx a1 (1 : Int32) h)))) else (some h)
theorem s_X11_readExpression_ok (d : Nat) (ρ : Nat → Nat → Option zF) (hρ : zSh ρ) (rx : Int32 → zH → Option (zH)) (a1 : Int32) (hrx : ∀ a1 h res, zRq h ρ → rx a1  h = some res → zcl d 75 [zr ((52, 11, 0) : zF), zi a1] h (zQv ρ res)) (h : zH) (res : zH) (hR : zRq h ρ) (e : s_X11_readExpression rx a1 h = some res) : zcl (d + 11) 75 [zr ((52, 11, 0) : zF), zi a1] h (zQv ρ res) := by
  rw [s_X11_readExpression] at e
  refine ⟨zm_X11_readExpression, rfl, ?_⟩
  show zwp (d + 11) zm_X11_readExpression 0 [some (zr ((52, 11, 0) : zF)), some (zi a1), none] [] h _
  refine zwp.go (m := 2) (j := 2) (ls' := [some (zr ((52, 11, 0) : zF)), some (zi a1), none]) (st' := [zi (zI h 52 20)]) (h' := h) rfl ?_
  refine zb_if (j := 4) (j2 := 3) e rfl (fun e => ?_) (fun e => ?_)
  · refine zwp.go (m := 3) (j := 7) (ls' := [some (zr ((52, 11, 0) : zF)), some (zi a1), none]) (st' := [zi (2 : Int32), zi (zI h 52 16)]) (h' := h) rfl ?_
    refine zb_if (j := 16) (j2 := 8) e rfl (fun e => ?_) (fun e => ?_)
    · refine zwp.go (m := 2) (j := 19) (ls' := [some (zr ((52, 11, 0) : zF)), some (zi a1), none]) (st' := [zi (1 : Int32)]) (h' := h) rfl ?_
      exact s_X11_readExpression_J19_ok d ρ hρ rx hrx a1 (1 : Int32) h _ hR e
    · refine zwp.go (m := 3) (j := 11) (ls' := [some (zr ((52, 11, 0) : zF)), some (zi a1), none]) (st' := [zi (1 : Int32), zi (zI h 52 16)]) (h' := h) rfl ?_
      refine zb_if (j := 16) (j2 := 12) e rfl (fun e => ?_) (fun e => ?_)
      · refine zwp.go (m := 2) (j := 19) (ls' := [some (zr ((52, 11, 0) : zF)), some (zi a1), none]) (st' := [zi (1 : Int32)]) (h' := h) rfl ?_
        exact s_X11_readExpression_J19_ok d ρ hρ rx hrx a1 (1 : Int32) h _ hR e
      · refine zwp.go (m := 2) (j := 14) (ls' := [some (zr ((52, 11, 0) : zF)), some (zi a1), none]) (st' := [zi (40 : Int32), zr ((52, 11, 0) : zF)]) (h' := h) rfl ?_
        refine zc_cp (d := d + 10) e (fun q e => s_X11_isMarked_ok (d + 10) ρ hρ (40 : Int32) h q hR e) rfl rfl (fun v1 e => ?_)
        refine zb_if (j := 18) (j2 := 16) e rfl (fun e => ?_) (fun e => ?_)
        · refine zwp.go (m := 1) (j := 19) (ls' := [some (zr ((52, 11, 0) : zF)), some (zi a1), none]) (st' := [zi (0 : Int32)]) (h' := h) rfl ?_
          exact s_X11_readExpression_J19_ok d ρ hρ rx hrx a1 (0 : Int32) h _ hR e
        · refine zwp.go (m := 2) (j := 19) (ls' := [some (zr ((52, 11, 0) : zF)), some (zi a1), none]) (st' := [zi (1 : Int32)]) (h' := h) rfl ?_
          exact s_X11_readExpression_J19_ok d ρ hρ rx hrx a1 (1 : Int32) h _ hR e
  · cases e
    exact zwp.rv rfl ⟨⟨rfl, rfl⟩, hR⟩
def t_X11_readExpression : Nat → Int32 → zH → Option (zH)
  | 0 => fun _ _ => none
  | n + 1 => fun a1 h => s_X11_readExpression (t_X11_readExpression n) a1 h
theorem t_X11_readExpression_ok (d : Nat) (ρ : Nat → Nat → Option zF) (hρ : zSh ρ) : ∀ (n : Nat) (a1 : Int32) (h : zH) (res : zH) (hR : zRq h ρ) (e : t_X11_readExpression n a1 h = some res), zcl (d + n * 11) 75 [zr ((52, 11, 0) : zF), zi a1] h (zQv ρ res) := by
  intro n
  induction n with
  | zero => intro a1 h res hR e; cases e
  | succ n ih =>
    intro a1  h res hR e
    have q := s_X11_readExpression_ok (d + n * 11) ρ hρ (t_X11_readExpression n) a1  (fun a1 h res hR e => ih a1  h res hR e) h res hR e
    rw [show d + (n + 1) * 11 = d + n * 11 + 11 by omega]
    exact q
def u_X11_readExpression (a1 : Int32) (h : zH) : Option (zH) := t_X11_readExpression 9 a1 h
theorem u_X11_readExpression_ok (d : Nat) (ρ : Nat → Nat → Option zF) (hρ : zSh ρ) (a1 : Int32) (h : zH) (res : zH) (hR : zRq h ρ) (e : u_X11_readExpression a1 h = some res) : zcl (d + 99) 75 [zr ((52, 11, 0) : zF), zi a1] h (zQv ρ res) := t_X11_readExpression_ok d ρ hρ 9 a1  h res hR e
def s_X11_sayOnce_J29 (s1 : Int32) (h : zH) : Option (zH) := zbo s1 (zlt (zwI h 52 23 s1) fun h1 => if (zI h1 52 23) = 0 then (zlt (zwR h1 52 3 (some ((54, 24, 5) : zF))) fun h2 => (u_X11_readExpression (0 : Int32) h2).bind fun h3 => some h3) else (zlt (zwR h1 52 3 (some ((55, 24, 5) : zF))) fun h4 => (u_X11_readExpression (0 : Int32) h4).bind fun h5 => some h5))
theorem s_X11_sayOnce_J29_ok (d : Nat) (ρ : Nat → Nat → Option zF) (hρ : zSh ρ) (s1 : Int32) (h : zH) (res : zH) (hR : zRq h ρ) (e : s_X11_sayOnce_J29  s1 h = some res) : zwp (d + 100) zm_X11_sayOnce 29 [some (zr ((52, 11, 0) : zF)), none] [zi s1, zr ((52, 11, 0) : zF)] h (zQv ρ res) := by
  rw [s_X11_sayOnce_J29] at e
  refine zc_wb e rfl hR (fun h1 hR1 e => ?_)
  refine zwp.go (m := 3) (j := 33) (ls' := [some (zr ((52, 11, 0) : zF)), none]) (st' := [zi (zI h1 52 23), zr ((52, 11, 0) : zF)]) (h' := h1) rfl ?_
  refine zb_if (j := 37) (j2 := 34) e rfl (fun e => ?_) (fun e => ?_)
  · refine zwp.go (m := 1) (j := 38) (ls' := [some (zr ((52, 11, 0) : zF)), none]) (st' := [zr ((52, 11, 0) : zF), zr ((52, 11, 0) : zF)]) (h' := h1) rfl ?_
    refine zc_sr (r := ((54, 24, 5) : zF)) (zrf (a := 52) (y := 1) hR1 rfl (hρ 52 1 rfl)) rfl ?_
    refine zc_wr e rfl (by decide) hR1 (fun h2 hR2 e => ?_)
    refine zwp.go (m := 2) (j := 42) (ls' := [some (zr ((52, 11, 0) : zF)), none]) (st' := [zi (0 : Int32), zr ((52, 11, 0) : zF)]) (h' := h2) rfl ?_
    refine zc_cv (d := d + 99) e (fun q e => u_X11_readExpression_ok (d + 0) ρ hρ (0 : Int32) h2 q hR2 e) rfl rfl (fun h3 hR3 e => ?_)
    cases e
    exact zwp.rv rfl ⟨⟨rfl, rfl⟩, hR3⟩
  · refine zwp.go (m := 1) (j := 35) (ls' := [some (zr ((52, 11, 0) : zF)), none]) (st' := [zr ((52, 11, 0) : zF), zr ((52, 11, 0) : zF)]) (h' := h1) rfl ?_
    refine zc_sr (r := ((55, 24, 5) : zF)) (zrf (a := 52) (y := 2) hR1 rfl (hρ 52 2 rfl)) rfl ?_
    refine zwp.go (m := 1) (j := 39) (ls' := [some (zr ((52, 11, 0) : zF)), none]) (st' := [zr ((55, 24, 5) : zF), zr ((52, 11, 0) : zF)]) (h' := h1) rfl ?_
    refine zc_wr e rfl (by decide) hR1 (fun h4 hR4 e => ?_)
    refine zwp.go (m := 2) (j := 42) (ls' := [some (zr ((52, 11, 0) : zF)), none]) (st' := [zi (0 : Int32), zr ((52, 11, 0) : zF)]) (h' := h4) rfl ?_
    refine zc_cv (d := d + 99) e (fun q e => u_X11_readExpression_ok (d + 0) ρ hρ (0 : Int32) h4 q hR4 e) rfl rfl (fun h5 hR5 e => ?_)
    cases e
    exact zwp.rv rfl ⟨⟨rfl, rfl⟩, hR5⟩
def s_X11_sayOnce (a1 : Int32) (h : zH) : Option (zH) := (s_X11_stepOn h).bind fun h1 => if ¬ a1 = (1 : Int32) then (if ¬ a1 = (4 : Int32) then (s_X11_sayOnce_J29 (0 : Int32) h1) else (s_X11_sayOnce_J29 (1 : Int32) h1)) else (zbd (s_X11_readNumber (0 : Int32) (9 : Int32) h1) fun v3 h2 => zlt (zwI h2 56 8 v3) fun h4 => zbd (s_X11_readNumber (0 : Int32) (9 : Int32) h4) fun v6 h5 => zlt (zwI h5 56 9 v6) fun h7 => some h7)
theorem s_X11_sayOnce_ok (d : Nat) (ρ : Nat → Nat → Option zF) (hρ : zSh ρ) (a1 : Int32) (h : zH) (res : zH) (hR : zRq h ρ) (e : s_X11_sayOnce a1 h = some res) : zcl (d + 100) 76 [zr ((52, 11, 0) : zF), zi a1] h (zQv ρ res) := by
  rw [s_X11_sayOnce] at e
  refine ⟨zm_X11_sayOnce, rfl, ?_⟩
  show zwp (d + 100) zm_X11_sayOnce 0 [some (zr ((52, 11, 0) : zF)), some (zi a1)] [] h _
  refine zwp.go (m := 1) (j := 1) (ls' := [some (zr ((52, 11, 0) : zF)), some (zi a1)]) (st' := [zr ((52, 11, 0) : zF)]) (h' := h) rfl ?_
  refine zc_cv (d := d + 99) e (fun q e => s_X11_stepOn_ok (d + 98) ρ hρ h q hR e) rfl rfl (fun h1 hR1 e => ?_)
  refine zwp.go (m := 2) (j := 4) (ls' := [some (zr ((52, 11, 0) : zF)), some (zi a1)]) (st' := [zi (1 : Int32), zi a1]) (h' := h1) rfl ?_
  refine zb_if (j := 22) (j2 := 5) e rfl (fun e => ?_) (fun e => ?_)
  · refine zwp.go (m := 3) (j := 25) (ls' := [some (zr ((52, 11, 0) : zF)), some (zi a1)]) (st' := [zi (4 : Int32), zi a1, zr ((52, 11, 0) : zF)]) (h' := h1) rfl ?_
    refine zb_if (j := 28) (j2 := 26) e rfl (fun e => ?_) (fun e => ?_)
    · refine zwp.go (m := 1) (j := 29) (ls' := [some (zr ((52, 11, 0) : zF)), some (zi a1)]) (st' := [zi (0 : Int32), zr ((52, 11, 0) : zF)]) (h' := h1) rfl ?_
      refine zwp.fg (a := [some (zr ((52, 11, 0) : zF)), none]) (And.intro rfl trivial) ?_
      exact s_X11_sayOnce_J29_ok d ρ hρ (0 : Int32) h1 _ hR1 e
    · refine zwp.go (m := 2) (j := 29) (ls' := [some (zr ((52, 11, 0) : zF)), some (zi a1)]) (st' := [zi (1 : Int32), zr ((52, 11, 0) : zF)]) (h' := h1) rfl ?_
      refine zwp.fg (a := [some (zr ((52, 11, 0) : zF)), none]) (And.intro rfl trivial) ?_
      exact s_X11_sayOnce_J29_ok d ρ hρ (1 : Int32) h1 _ hR1 e
  · refine zwp.go (m := 1) (j := 6) (ls' := [some (zr ((52, 11, 0) : zF)), some (zi a1)]) (st' := [zr ((52, 11, 0) : zF)]) (h' := h1) rfl ?_
    refine zc_sr (r := ((56, 20, 12) : zF)) (zrf (a := 52) (y := 5) hR1 rfl (hρ 52 5 rfl)) rfl ?_
    refine zwp.go (m := 4) (j := 11) (ls' := [some (zr ((52, 11, 0) : zF)), some (zi a1)]) (st' := [zi (9 : Int32), zi (0 : Int32), zr ((52, 11, 0) : zF), zi (8 : Int32), zr ((56, 20, 12) : zF)]) (h' := h1) rfl ?_
    refine zc_ci (d := d + 99) e (fun q e => s_X11_readNumber_ok (d + 97) ρ hρ (0 : Int32) (9 : Int32) h1 q hR1 e) rfl rfl (fun v3 h2 hR2 e => ?_)
    refine zc_w e rfl hR2 (fun h4 hR4 e => ?_)
    refine zwp.go (m := 1) (j := 14) (ls' := [some (zr ((52, 11, 0) : zF)), some (zi a1)]) (st' := [zr ((52, 11, 0) : zF)]) (h' := h4) rfl ?_
    refine zc_sr (r := ((56, 20, 12) : zF)) (zrf (a := 52) (y := 5) hR4 rfl (hρ 52 5 rfl)) rfl ?_
    refine zwp.go (m := 4) (j := 19) (ls' := [some (zr ((52, 11, 0) : zF)), some (zi a1)]) (st' := [zi (9 : Int32), zi (0 : Int32), zr ((52, 11, 0) : zF), zi (9 : Int32), zr ((56, 20, 12) : zF)]) (h' := h4) rfl ?_
    refine zc_ci (d := d + 99) e (fun q e => s_X11_readNumber_ok (d + 97) ρ hρ (0 : Int32) (9 : Int32) h4 q hR4 e) rfl rfl (fun v6 h5 hR5 e => ?_)
    refine zc_w e rfl hR5 (fun h7 hR7 e => ?_)
    cases e
    exact zwp.rv rfl ⟨⟨rfl, rfl⟩, hR7⟩
def s_X11_another_J11 (h : zH) : Option (Int32 × zH) := if (zI h 52 20) = 0 then ((s_X11_stepOn h).bind fun h1 => some ((1 : Int32), h1)) else (some ((0 : Int32), h))
theorem s_X11_another_J11_ok (d : Nat) (ρ : Nat → Nat → Option zF) (hρ : zSh ρ) (h : zH) (res : Int32 × zH) (hR : zRq h ρ) (e : s_X11_another_J11   h = some res) : zwp (d + 2) zm_X11_another 11 [some (zr ((52, 11, 0) : zF)), none, none] [] h (zQi ρ res) := by
  rw [s_X11_another_J11] at e
  refine zwp.go (m := 2) (j := 13) (ls' := [some (zr ((52, 11, 0) : zF)), none, none]) (st' := [zi (zI h 52 20)]) (h' := h) rfl ?_
  refine zb_if (j := 16) (j2 := 14) e rfl (fun e => ?_) (fun e => ?_)
  · refine zwp.go (m := 1) (j := 17) (ls' := [some (zr ((52, 11, 0) : zF)), none, none]) (st' := [zr ((52, 11, 0) : zF)]) (h' := h) rfl ?_
    refine zc_cv (d := d + 1) e (fun q e => s_X11_stepOn_ok (d + 0) ρ hρ h q hR e) rfl rfl (fun h1 hR1 e => ?_)
    refine zwp.go (m := 1) (j := 19) (ls' := [some (zr ((52, 11, 0) : zF)), none, none]) (st' := [zi (1 : Int32)]) (h' := h1) rfl ?_
    cases e
    exact zwp.ret rfl rfl ⟨⟨rfl, rfl⟩, hR1⟩
  · refine zwp.go (m := 1) (j := 15) (ls' := [some (zr ((52, 11, 0) : zF)), none, none]) (st' := [zi (0 : Int32)]) (h' := h) rfl ?_
    cases e
    exact zwp.ret rfl rfl ⟨⟨rfl, rfl⟩, hR⟩
def s_X11_another (a1 : Int32) (a2 : Int32) (h : zH) : Option (Int32 × zH) := zix ((6 : Int32) + a1) 12 fun i1 => if ¬ (zI h 56 i1) = a2 then (s_X11_another_J11 h) else ((s_X11_wrong (2 : Int32) h).bind fun h2 => s_X11_another_J11 h2)
theorem s_X11_another_ok (d : Nat) (ρ : Nat → Nat → Option zF) (hρ : zSh ρ) (a1 : Int32) (a2 : Int32) (h : zH) (res : Int32 × zH) (hR : zRq h ρ) (e : s_X11_another a1 a2 h = some res) : zcl (d + 2) 77 [zr ((52, 11, 0) : zF), zi a1, zi a2] h (zQi ρ res) := by
  rw [s_X11_another] at e
  refine ⟨zm_X11_another, rfl, ?_⟩
  show zwp (d + 2) zm_X11_another 0 [some (zr ((52, 11, 0) : zF)), some (zi a1), some (zi a2)] [] h _
  refine zwp.go (m := 1) (j := 1) (ls' := [some (zr ((52, 11, 0) : zF)), some (zi a1), some (zi a2)]) (st' := [zr ((52, 11, 0) : zF)]) (h' := h) rfl ?_
  refine zc_sr (r := ((56, 20, 12) : zF)) (zrf (a := 52) (y := 5) hR rfl (hρ 52 5 rfl)) rfl ?_
  refine zwp.go (m := 3) (j := 5) (ls' := [some (zr ((52, 11, 0) : zF)), some (zi a1), some (zi a2)]) (st' := [zi ((6 : Int32) + a1), zr ((56, 20, 12) : zF)]) (h' := h) rfl ?_
  refine zc_ai e (fun _ => rfl) (fun i1 e => ?_)
  refine zwp.go (m := 1) (j := 7) (ls' := [some (zr ((52, 11, 0) : zF)), some (zi a1), some (zi a2)]) (st' := [zi a2, zi (zI h 56 i1)]) (h' := h) rfl ?_
  refine zb_if (j := 11) (j2 := 8) e rfl (fun e => ?_) (fun e => ?_)
  · refine zwp.fg (a := [some (zr ((52, 11, 0) : zF)), none, none]) (And.intro rfl trivial) ?_
    exact s_X11_another_J11_ok d ρ hρ h _ hR e
  · refine zwp.go (m := 2) (j := 10) (ls' := [some (zr ((52, 11, 0) : zF)), some (zi a1), some (zi a2)]) (st' := [zi (2 : Int32), zr ((52, 11, 0) : zF)]) (h' := h) rfl ?_
    refine zc_cv (d := d + 1) e (fun q e => s_X11_wrong_ok (d + 1) ρ hρ (2 : Int32) h q hR e) rfl rfl (fun h2 hR2 e => ?_)
    refine zwp.fg (a := [some (zr ((52, 11, 0) : zF)), none, none]) (And.intro rfl trivial) ?_
    exact s_X11_another_J11_ok d ρ hρ h2 _ hR2 e
def s_X11_sayRib (a1 : Int32) (h : zH) : Option (zH) := zbd (s_X11_another (0 : Int32) (12 : Int32) h) fun v2 h1 => if ¬ v2 = 0 then (zix ((12 : Int32) + (zI h1 56 6)) 24 fun i9 => zlt (zwI h1 57 i9 a1) fun h3 => zbd (s_X11_readNumber (0 : Int32) (99 : Int32) h3) fun v5 h4 => zix ((12 : Int32) + (zI h1 56 6)) 24 fun i8 => zlt (zwI h4 58 i8 v5) fun h6 => zlt (zwI h6 56 6 ((zI h6 56 6) + (1 : Int32))) fun h7 => some h7) else (some h1)
theorem s_X11_sayRib_ok (d : Nat) (ρ : Nat → Nat → Option zF) (hρ : zSh ρ) (a1 : Int32) (h : zH) (res : zH) (hR : zRq h ρ) (e : s_X11_sayRib a1 h = some res) : zcl (d + 3) 78 [zr ((52, 11, 0) : zF), zi a1] h (zQv ρ res) := by
  rw [s_X11_sayRib] at e
  refine ⟨zm_X11_sayRib, rfl, ?_⟩
  show zwp (d + 3) zm_X11_sayRib 0 [some (zr ((52, 11, 0) : zF)), some (zi a1), none] [] h _
  refine zwp.go (m := 3) (j := 3) (ls' := [some (zr ((52, 11, 0) : zF)), some (zi a1), none]) (st' := [zi (12 : Int32), zi (0 : Int32), zr ((52, 11, 0) : zF)]) (h' := h) rfl ?_
  refine zc_ci (d := d + 2) e (fun q e => s_X11_another_ok (d + 0) ρ hρ (0 : Int32) (12 : Int32) h q hR e) rfl rfl (fun v2 h1 hR1 e => ?_)
  refine zb_if (j := 6) (j2 := 5) e rfl (fun e => ?_) (fun e => ?_)
  · refine zwp.go (m := 2) (j := 8) (ls' := [some (zr ((52, 11, 0) : zF)), some (zi a1), none]) (st' := [zr ((52, 11, 0) : zF), zi (12 : Int32)]) (h' := h1) rfl ?_
    refine zc_sr (r := ((56, 20, 12) : zF)) (zrf (a := 52) (y := 5) hR1 rfl (hρ 52 5 rfl)) rfl ?_
    refine zwp.go (m := 5) (j := 14) (ls' := [some (zr ((52, 11, 0) : zF)), some (zi a1), some (zi ((12 : Int32) + (zI h1 56 6)))]) (st' := [zr ((52, 11, 0) : zF)]) (h' := h1) rfl ?_
    refine zc_sr (r := ((57, 20, 24) : zF)) (zrf (a := 52) (y := 6) hR1 rfl (hρ 52 6 rfl)) rfl ?_
    refine zwp.go (m := 2) (j := 17) (ls' := [some (zr ((52, 11, 0) : zF)), some (zi a1), some (zi ((12 : Int32) + (zI h1 56 6)))]) (st' := [zi a1, zi ((12 : Int32) + (zI h1 56 6)), zr ((57, 20, 24) : zF)]) (h' := h1) rfl ?_
    refine zc_si e (fun _ => rfl) hR1 (fun h3 hR3 e => ?_)
    refine zwp.go (m := 1) (j := 19) (ls' := [some (zr ((52, 11, 0) : zF)), some (zi a1), some (zi ((12 : Int32) + (zI h1 56 6)))]) (st' := [zr ((52, 11, 0) : zF)]) (h' := h3) rfl ?_
    refine zc_sr (r := ((58, 20, 24) : zF)) (zrf (a := 52) (y := 7) hR3 rfl (hρ 52 7 rfl)) rfl ?_
    refine zwp.go (m := 4) (j := 24) (ls' := [some (zr ((52, 11, 0) : zF)), some (zi a1), some (zi ((12 : Int32) + (zI h1 56 6)))]) (st' := [zi (99 : Int32), zi (0 : Int32), zr ((52, 11, 0) : zF), zi ((12 : Int32) + (zI h1 56 6)), zr ((58, 20, 24) : zF)]) (h' := h3) rfl ?_
    refine zc_ci (d := d + 2) e (fun q e => s_X11_readNumber_ok (d + 0) ρ hρ (0 : Int32) (99 : Int32) h3 q hR3 e) rfl rfl (fun v5 h4 hR4 e => ?_)
    refine zc_si e (fun _ => rfl) hR4 (fun h6 hR6 e => ?_)
    refine zwp.go (m := 1) (j := 27) (ls' := [some (zr ((52, 11, 0) : zF)), some (zi a1), some (zi ((12 : Int32) + (zI h1 56 6)))]) (st' := [zr ((52, 11, 0) : zF)]) (h' := h6) rfl ?_
    refine zc_sr (r := ((56, 20, 12) : zF)) (zrf (a := 52) (y := 5) hR6 rfl (hρ 52 5 rfl)) rfl ?_
    refine zwp.go (m := 5) (j := 33) (ls' := [some (zr ((52, 11, 0) : zF)), some (zi a1), some (zi ((12 : Int32) + (zI h1 56 6)))]) (st' := [zi ((zI h6 56 6) + (1 : Int32)), zi (6 : Int32), zr ((56, 20, 12) : zF)]) (h' := h6) rfl ?_
    refine zc_w e rfl hR6 (fun h7 hR7 e => ?_)
    cases e
    exact zwp.rv rfl ⟨⟨rfl, rfl⟩, hR7⟩
  · cases e
    exact zwp.rv rfl ⟨⟨rfl, rfl⟩, hR1⟩
def s_X11_sayVerse (h : zH) : Option (zH) := zbd (s_X11_another (1 : Int32) (8 : Int32) h) fun v2 h1 => if ¬ v2 = 0 then (zbd (s_X11_readNumber (0 : Int32) (4095 : Int32) h1) fun v4 h3 => zix ((8 : Int32) + (zI h1 56 7)) 16 fun i7 => zlt (zwI h3 59 i7 v4) fun h5 => zlt (zwI h5 56 7 ((zI h5 56 7) + (1 : Int32))) fun h6 => some h6) else (some h1)
theorem s_X11_sayVerse_ok (d : Nat) (ρ : Nat → Nat → Option zF) (hρ : zSh ρ) (h : zH) (res : zH) (hR : zRq h ρ) (e : s_X11_sayVerse  h = some res) : zcl (d + 3) 79 [zr ((52, 11, 0) : zF)] h (zQv ρ res) := by
  rw [s_X11_sayVerse] at e
  refine ⟨zm_X11_sayVerse, rfl, ?_⟩
  show zwp (d + 3) zm_X11_sayVerse 0 [some (zr ((52, 11, 0) : zF))] [] h _
  refine zwp.go (m := 3) (j := 3) (ls' := [some (zr ((52, 11, 0) : zF))]) (st' := [zi (8 : Int32), zi (1 : Int32), zr ((52, 11, 0) : zF)]) (h' := h) rfl ?_
  refine zc_ci (d := d + 2) e (fun q e => s_X11_another_ok (d + 0) ρ hρ (1 : Int32) (8 : Int32) h q hR e) rfl rfl (fun v2 h1 hR1 e => ?_)
  refine zb_if (j := 6) (j2 := 5) e rfl (fun e => ?_) (fun e => ?_)
  · refine zwp.go (m := 1) (j := 7) (ls' := [some (zr ((52, 11, 0) : zF))]) (st' := [zr ((52, 11, 0) : zF)]) (h' := h1) rfl ?_
    refine zc_sr (r := ((59, 20, 16) : zF)) (zrf (a := 52) (y := 8) hR1 rfl (hρ 52 8 rfl)) rfl ?_
    refine zwp.go (m := 2) (j := 10) (ls' := [some (zr ((52, 11, 0) : zF))]) (st' := [zr ((52, 11, 0) : zF), zi (8 : Int32), zr ((59, 20, 16) : zF)]) (h' := h1) rfl ?_
    refine zc_sr (r := ((56, 20, 12) : zF)) (zrf (a := 52) (y := 5) hR1 rfl (hρ 52 5 rfl)) rfl ?_
    refine zwp.go (m := 6) (j := 17) (ls' := [some (zr ((52, 11, 0) : zF))]) (st' := [zi (4095 : Int32), zi (0 : Int32), zr ((52, 11, 0) : zF), zi ((8 : Int32) + (zI h1 56 7)), zr ((59, 20, 16) : zF)]) (h' := h1) rfl ?_
    refine zc_ci (d := d + 2) e (fun q e => s_X11_readNumber_ok (d + 0) ρ hρ (0 : Int32) (4095 : Int32) h1 q hR1 e) rfl rfl (fun v4 h3 hR3 e => ?_)
    refine zc_si e (fun _ => rfl) hR3 (fun h5 hR5 e => ?_)
    refine zwp.go (m := 1) (j := 20) (ls' := [some (zr ((52, 11, 0) : zF))]) (st' := [zr ((52, 11, 0) : zF)]) (h' := h5) rfl ?_
    refine zc_sr (r := ((56, 20, 12) : zF)) (zrf (a := 52) (y := 5) hR5 rfl (hρ 52 5 rfl)) rfl ?_
    refine zwp.go (m := 5) (j := 26) (ls' := [some (zr ((52, 11, 0) : zF))]) (st' := [zi ((zI h5 56 7) + (1 : Int32)), zi (7 : Int32), zr ((56, 20, 12) : zF)]) (h' := h5) rfl ?_
    refine zc_w e rfl hR5 (fun h6 hR6 e => ?_)
    cases e
    exact zwp.rv rfl ⟨⟨rfl, rfl⟩, hR6⟩
  · cases e
    exact zwp.rv rfl ⟨⟨rfl, rfl⟩, hR1⟩
def s_X11_readLine_J58 (l1 : Int32) (l3 : Int32) (h : zH) : Option (Int32 × zH) := (s_X11_mark (59 : Int32) h).bind fun h1 => some ((l1 ||| l3), h1)
theorem s_X11_readLine_J58_ok (d : Nat) (ρ : Nat → Nat → Option zF) (hρ : zSh ρ) (l1 : Int32) (l3 : Int32) (h : zH) (res : Int32 × zH) (hR : zRq h ρ) (e : s_X11_readLine_J58  l1 l3 h = some res) : zwp (d + 101) zm_X11_readLine 58 [some (zr ((52, 11, 0) : zF)), some (zi l1), none, some (zi l3)] [] h (zQi ρ res) := by
  rw [s_X11_readLine_J58] at e
  refine zwp.go (m := 2) (j := 60) (ls' := [some (zr ((52, 11, 0) : zF)), some (zi l1), none, some (zi l3)]) (st' := [zi (59 : Int32), zr ((52, 11, 0) : zF)]) (h' := h) rfl ?_
  refine zc_cv (d := d + 100) e (fun q e => s_X11_mark_ok (d + 98) ρ hρ (59 : Int32) h q hR e) rfl rfl (fun h1 hR1 e => ?_)
  refine zwp.go (m := 3) (j := 64) (ls' := [some (zr ((52, 11, 0) : zF)), some (zi l1), none, some (zi l3)]) (st' := [zi (l1 ||| l3)]) (h' := h1) rfl ?_
  cases e
  exact zwp.ret rfl rfl ⟨⟨rfl, rfl⟩, hR1⟩
def s_X11_readLine_J41 (l1 : Int32) (l2 : Int32) (l3 : Int32) (h : zH) : Option (Int32 × zH) := if l2 = (-1 : Int32) then ((s_X11_is 44 h).bind fun v1 => if v1 = 0 then ((s_X11_wrong (1 : Int32) h).bind fun h2 => s_X11_readLine_J58 l1 l3 h2) else ((s_X11_sayVerse h).bind fun h3 => s_X11_readLine_J58 l1 l3 h3)) else ((s_X11_sayRib l2 h).bind fun h4 => s_X11_readLine_J58 l1 l3 h4)
theorem s_X11_readLine_J41_ok (d : Nat) (ρ : Nat → Nat → Option zF) (hρ : zSh ρ) (l1 : Int32) (l2 : Int32) (l3 : Int32) (h : zH) (res : Int32 × zH) (hR : zRq h ρ) (e : s_X11_readLine_J41  l1 l2 l3 h = some res) : zwp (d + 101) zm_X11_readLine 41 [some (zr ((52, 11, 0) : zF)), some (zi l1), some (zi l2), some (zi l3)] [] h (zQi ρ res) := by
  rw [s_X11_readLine_J41] at e
  refine zwp.go (m := 2) (j := 43) (ls' := [some (zr ((52, 11, 0) : zF)), some (zi l1), some (zi l2), some (zi l3)]) (st' := [zi (-1 : Int32), zi l2]) (h' := h) rfl ?_
  refine zb_if (j := 48) (j2 := 44) e rfl (fun e => ?_) (fun e => ?_)
  · refine zwp.go (m := 2) (j := 50) (ls' := [some (zr ((52, 11, 0) : zF)), some (zi l1), some (zi l2), some (zi l3)]) (st' := [zr ((44, 30, 0) : zF), zr ((52, 11, 0) : zF)]) (h' := h) rfl ?_
    refine zc_cp (d := d + 100) e (fun q e => s_X11_is_ok (d + 96) ρ hρ 44 h q hR e) rfl rfl (fun v1 e => ?_)
    refine zb_if (j := 55) (j2 := 52) e rfl (fun e => ?_) (fun e => ?_)
    · refine zwp.go (m := 2) (j := 57) (ls' := [some (zr ((52, 11, 0) : zF)), some (zi l1), some (zi l2), some (zi l3)]) (st' := [zi (1 : Int32), zr ((52, 11, 0) : zF)]) (h' := h) rfl ?_
      refine zc_cv (d := d + 100) e (fun q e => s_X11_wrong_ok (d + 100) ρ hρ (1 : Int32) h q hR e) rfl rfl (fun h2 hR2 e => ?_)
      refine zwp.fg (a := [some (zr ((52, 11, 0) : zF)), some (zi l1), none, some (zi l3)]) (And.intro rfl (And.intro rfl (And.intro rfl trivial))) ?_
      exact s_X11_readLine_J58_ok d ρ hρ l1 l3 h2 _ hR2 e
    · refine zwp.go (m := 1) (j := 53) (ls' := [some (zr ((52, 11, 0) : zF)), some (zi l1), some (zi l2), some (zi l3)]) (st' := [zr ((52, 11, 0) : zF)]) (h' := h) rfl ?_
      refine zc_cv (d := d + 100) e (fun q e => s_X11_sayVerse_ok (d + 97) ρ hρ h q hR e) rfl rfl (fun h3 hR3 e => ?_)
      refine zwp.go (m := 1) (j := 58) (ls' := [some (zr ((52, 11, 0) : zF)), some (zi l1), some (zi l2), some (zi l3)]) (st' := []) (h' := h3) rfl ?_
      refine zwp.fg (a := [some (zr ((52, 11, 0) : zF)), some (zi l1), none, some (zi l3)]) (And.intro rfl (And.intro rfl (And.intro rfl trivial))) ?_
      exact s_X11_readLine_J58_ok d ρ hρ l1 l3 h3 _ hR3 e
  · refine zwp.go (m := 2) (j := 46) (ls' := [some (zr ((52, 11, 0) : zF)), some (zi l1), some (zi l2), some (zi l3)]) (st' := [zi l2, zr ((52, 11, 0) : zF)]) (h' := h) rfl ?_
    refine zc_cv (d := d + 100) e (fun q e => s_X11_sayRib_ok (d + 97) ρ hρ l2 h q hR e) rfl rfl (fun h4 hR4 e => ?_)
    refine zwp.go (m := 1) (j := 58) (ls' := [some (zr ((52, 11, 0) : zF)), some (zi l1), some (zi l2), some (zi l3)]) (st' := []) (h' := h4) rfl ?_
    refine zwp.fg (a := [some (zr ((52, 11, 0) : zF)), some (zi l1), none, some (zi l3)]) (And.intro rfl (And.intro rfl (And.intro rfl trivial))) ?_
    exact s_X11_readLine_J58_ok d ρ hρ l1 l3 h4 _ hR4 e
def s_X11_readLine_J32 (l1 : Int32) (l2 : Int32) (l3 : Int32) (h : zH) : Option (Int32 × zH) := if l3 ≤ 0 then (s_X11_readLine_J41 l1 l2 l3 h) else (if ¬ (zI h 52 20) = 0 then (s_X11_readLine_J41 l1 l2 l3 h) else ((s_X11_sayOnce l3 h).bind fun h1 => s_X11_readLine_J58 l1 l3 h1))
theorem s_X11_readLine_J32_ok (d : Nat) (ρ : Nat → Nat → Option zF) (hρ : zSh ρ) (l1 : Int32) (l2 : Int32) (l3 : Int32) (h : zH) (res : Int32 × zH) (hR : zRq h ρ) (e : s_X11_readLine_J32  l1 l2 l3 h = some res) : zwp (d + 101) zm_X11_readLine 32 [some (zr ((52, 11, 0) : zF)), some (zi l1), some (zi l2), some (zi l3)] [] h (zQi ρ res) := by
  rw [s_X11_readLine_J32] at e
  refine zwp.go (m := 1) (j := 33) (ls' := [some (zr ((52, 11, 0) : zF)), some (zi l1), some (zi l2), some (zi l3)]) (st' := [zi l3]) (h' := h) rfl ?_
  refine zb_if (j := 41) (j2 := 34) e rfl (fun e => ?_) (fun e => ?_)
  · exact s_X11_readLine_J41_ok d ρ hρ l1 l2 l3 h _ hR e
  · refine zwp.go (m := 2) (j := 36) (ls' := [some (zr ((52, 11, 0) : zF)), some (zi l1), some (zi l2), some (zi l3)]) (st' := [zi (zI h 52 20)]) (h' := h) rfl ?_
    refine zb_if (j := 41) (j2 := 37) e rfl (fun e => ?_) (fun e => ?_)
    · exact s_X11_readLine_J41_ok d ρ hρ l1 l2 l3 h _ hR e
    · refine zwp.go (m := 2) (j := 39) (ls' := [some (zr ((52, 11, 0) : zF)), some (zi l1), some (zi l2), some (zi l3)]) (st' := [zi l3, zr ((52, 11, 0) : zF)]) (h' := h) rfl ?_
      refine zc_cv (d := d + 100) e (fun q e => s_X11_sayOnce_ok (d + 0) ρ hρ l3 h q hR e) rfl rfl (fun h1 hR1 e => ?_)
      refine zwp.go (m := 1) (j := 58) (ls' := [some (zr ((52, 11, 0) : zF)), some (zi l1), some (zi l2), some (zi l3)]) (st' := []) (h' := h1) rfl ?_
      refine zwp.fg (a := [some (zr ((52, 11, 0) : zF)), some (zi l1), none, some (zi l3)]) (And.intro rfl (And.intro rfl (And.intro rfl trivial))) ?_
      exact s_X11_readLine_J58_ok d ρ hρ l1 l3 h1 _ hR1 e
def s_X11_readLine_J24 (l1 : Int32) (l2 : Int32) (s0 : Int32) (h : zH) : Option (Int32 × zH) := if (s0 &&& l1) = 0 then (s_X11_readLine_J32 l1 l2 s0 h) else ((s_X11_wrong (5 : Int32) h).bind fun h1 => s_X11_readLine_J32 l1 l2 s0 h1)
theorem s_X11_readLine_J24_ok (d : Nat) (ρ : Nat → Nat → Option zF) (hρ : zSh ρ) (l1 : Int32) (l2 : Int32) (s0 : Int32) (h : zH) (res : Int32 × zH) (hR : zRq h ρ) (e : s_X11_readLine_J24  l1 l2 s0 h = some res) : zwp (d + 101) zm_X11_readLine 24 [some (zr ((52, 11, 0) : zF)), some (zi l1), some (zi l2), none] [zi s0] h (zQi ρ res) := by
  rw [s_X11_readLine_J24] at e
  refine zwp.go (m := 4) (j := 28) (ls' := [some (zr ((52, 11, 0) : zF)), some (zi l1), some (zi l2), some (zi s0)]) (st' := [zi (s0 &&& l1)]) (h' := h) rfl ?_
  refine zb_if (j := 32) (j2 := 29) e rfl (fun e => ?_) (fun e => ?_)
  · exact s_X11_readLine_J32_ok d ρ hρ l1 l2 s0 h _ hR e
  · refine zwp.go (m := 2) (j := 31) (ls' := [some (zr ((52, 11, 0) : zF)), some (zi l1), some (zi l2), some (zi s0)]) (st' := [zi (5 : Int32), zr ((52, 11, 0) : zF)]) (h' := h) rfl ?_
    refine zc_cv (d := d + 100) e (fun q e => s_X11_wrong_ok (d + 100) ρ hρ (5 : Int32) h q hR e) rfl rfl (fun h1 hR1 e => ?_)
    exact s_X11_readLine_J32_ok d ρ hρ l1 l2 s0 h1 _ hR1 e
def s_X11_readLine (a1 : Int32) (h : zH) : Option (Int32 × zH) := (s_X11_which 53 2 h).bind fun v1 => (s_X11_is 38 h).bind fun v2 => if v2 = 0 then ((s_X11_is 39 h).bind fun v3 => if v3 = 0 then ((s_X11_is 40 h).bind fun v4 => if v4 = 0 then (s_X11_readLine_J24 a1 v1 (0 : Int32) h) else (s_X11_readLine_J24 a1 v1 (4 : Int32) h)) else (s_X11_readLine_J24 a1 v1 (2 : Int32) h)) else (s_X11_readLine_J24 a1 v1 (1 : Int32) h)
theorem s_X11_readLine_ok (d : Nat) (ρ : Nat → Nat → Option zF) (hρ : zSh ρ) (a1 : Int32) (h : zH) (res : Int32 × zH) (hR : zRq h ρ) (e : s_X11_readLine a1 h = some res) : zcl (d + 101) 80 [zr ((52, 11, 0) : zF), zi a1] h (zQi ρ res) := by
  rw [s_X11_readLine] at e
  refine ⟨zm_X11_readLine, rfl, ?_⟩
  show zwp (d + 101) zm_X11_readLine 0 [some (zr ((52, 11, 0) : zF)), some (zi a1), none, none] [] h _
  refine zwp.go (m := 2) (j := 2) (ls' := [some (zr ((52, 11, 0) : zF)), some (zi a1), none, none]) (st' := [zr ((52, 11, 0) : zF), zr ((52, 11, 0) : zF)]) (h' := h) rfl ?_
  refine zc_sr (r := ((53, 24, 2) : zF)) (zrf (a := 52) (y := 0) hR rfl (hρ 52 0 rfl)) rfl ?_
  refine zc_cp (d := d + 100) e (fun q e => s_X11_which_ok (d + 95) ρ hρ 53 2 h q hR e) rfl rfl (fun v1 e => ?_)
  refine zwp.go (m := 3) (j := 7) (ls' := [some (zr ((52, 11, 0) : zF)), some (zi a1), some (zi v1), none]) (st' := [zr ((38, 30, 0) : zF), zr ((52, 11, 0) : zF)]) (h' := h) rfl ?_
  refine zc_cp (d := d + 100) e (fun q e => s_X11_is_ok (d + 96) ρ hρ 38 h q hR e) rfl rfl (fun v2 e => ?_)
  refine zb_if (j := 11) (j2 := 9) e rfl (fun e => ?_) (fun e => ?_)
  · refine zwp.go (m := 2) (j := 13) (ls' := [some (zr ((52, 11, 0) : zF)), some (zi a1), some (zi v1), none]) (st' := [zr ((39, 30, 0) : zF), zr ((52, 11, 0) : zF)]) (h' := h) rfl ?_
    refine zc_cp (d := d + 100) e (fun q e => s_X11_is_ok (d + 96) ρ hρ 39 h q hR e) rfl rfl (fun v3 e => ?_)
    refine zb_if (j := 17) (j2 := 15) e rfl (fun e => ?_) (fun e => ?_)
    · refine zwp.go (m := 2) (j := 19) (ls' := [some (zr ((52, 11, 0) : zF)), some (zi a1), some (zi v1), none]) (st' := [zr ((40, 30, 0) : zF), zr ((52, 11, 0) : zF)]) (h' := h) rfl ?_
      refine zc_cp (d := d + 100) e (fun q e => s_X11_is_ok (d + 96) ρ hρ 40 h q hR e) rfl rfl (fun v4 e => ?_)
      refine zb_if (j := 23) (j2 := 21) e rfl (fun e => ?_) (fun e => ?_)
      · refine zwp.go (m := 1) (j := 24) (ls' := [some (zr ((52, 11, 0) : zF)), some (zi a1), some (zi v1), none]) (st' := [zi (0 : Int32)]) (h' := h) rfl ?_
        exact s_X11_readLine_J24_ok d ρ hρ a1 v1 (0 : Int32) h _ hR e
      · refine zwp.go (m := 2) (j := 24) (ls' := [some (zr ((52, 11, 0) : zF)), some (zi a1), some (zi v1), none]) (st' := [zi (4 : Int32)]) (h' := h) rfl ?_
        exact s_X11_readLine_J24_ok d ρ hρ a1 v1 (4 : Int32) h _ hR e
    · refine zwp.go (m := 2) (j := 24) (ls' := [some (zr ((52, 11, 0) : zF)), some (zi a1), some (zi v1), none]) (st' := [zi (2 : Int32)]) (h' := h) rfl ?_
      exact s_X11_readLine_J24_ok d ρ hρ a1 v1 (2 : Int32) h _ hR e
  · refine zwp.go (m := 2) (j := 24) (ls' := [some (zr ((52, 11, 0) : zF)), some (zi a1), some (zi v1), none]) (st' := [zi (1 : Int32)]) (h' := h) rfl ?_
    exact s_X11_readLine_J24_ok d ρ hρ a1 v1 (1 : Int32) h _ hR e
def s_X11_takeHalf_L2 (a0 n0 : Nat) : Nat → Int32 → zH → Option (zH)
  | 0, _, _ => none
  | n + 1, l1, h => (zdv (Int32.ofNat n0) (2 : Int32)).bind fun v1 => if v1 ≤ l1 then (some h) else ((zdv (Int32.ofNat n0) (2 : Int32)).bind fun v2 => zix (v2 + l1) n0 fun i3 => zix l1 n0 fun i5 => zlt (zwI h a0 i5 (zI h a0 i3)) fun h4 => s_X11_takeHalf_L2 a0 n0 n (l1 + (1 : Int32)) h4)
theorem s_X11_takeHalf_L2_ok (d : Nat) (ρ : Nat → Nat → Option zF) (hρ : zSh ρ) (a0 n0 : Nat) : ∀ (n : Nat) (l1 : Int32) (h : zH) (res : zH) (hR : zRq h ρ) (e : s_X11_takeHalf_L2 a0 n0 n l1 h = some res), zwp d zm_X11_takeHalf 2 [some (zr ((a0, 20, n0) : zF)), some (zi l1)] [] h (zQv ρ res) := by
  intro n
  induction n with
  | zero => intro l1 h res hR e; cases e
  | succ n ih =>
    intro l1 h res hR e
    rw [s_X11_takeHalf_L2] at e
    refine zwp.go (m := 4) (j := 6) (ls' := [some (zr ((a0, 20, n0) : zF)), some (zi l1)]) (st' := [zi (2 : Int32), zi (Int32.ofNat n0), zi l1]) (h' := h) rfl ?_
    refine zb_dv e rfl (fun v1 e => ?_)
    refine zb_if (j := 21) (j2 := 8) e rfl (fun e => ?_) (fun e => ?_)
    · cases e
      exact zwp.rv rfl ⟨⟨rfl, rfl⟩, hR⟩
    · refine zwp.go (m := 6) (j := 14) (ls' := [some (zr ((a0, 20, n0) : zF)), some (zi l1)]) (st' := [zi (2 : Int32), zi (Int32.ofNat n0), zr ((a0, 20, n0) : zF), zi l1, zr ((a0, 20, n0) : zF)]) (h' := h) rfl ?_
      refine zb_dv e rfl (fun v2 e => ?_)
      refine zwp.go (m := 2) (j := 17) (ls' := [some (zr ((a0, 20, n0) : zF)), some (zi l1)]) (st' := [zi (v2 + l1), zr ((a0, 20, n0) : zF), zi l1, zr ((a0, 20, n0) : zF)]) (h' := h) rfl ?_
      refine zc_ai e (fun _ => rfl) (fun i3 e => ?_)
      refine zc_si e (fun _ => rfl) hR (fun h4 hR4 e => ?_)
      refine zwp.go (m := 2) (j := 2) (ls' := [some (zr ((a0, 20, n0) : zF)), some (zi (l1 + (1 : Int32)))]) (st' := []) (h' := h4) rfl ?_
      exact ih (l1 + (1 : Int32)) h4 _ hR4 e
def s_X11_takeHalf (a0 n0 : Nat) (h : zH) : Option (zH) := s_X11_takeHalf_L2 a0 n0 zfu (0 : Int32) h
theorem s_X11_takeHalf_ok (d : Nat) (ρ : Nat → Nat → Option zF) (hρ : zSh ρ) (a0 n0 : Nat) (h : zH) (res : zH) (hR : zRq h ρ) (e : s_X11_takeHalf a0 n0 h = some res) : zcl d 81 [zr ((a0, 20, n0) : zF)] h (zQv ρ res) := by
  rw [s_X11_takeHalf] at e
  refine ⟨zm_X11_takeHalf, rfl, ?_⟩
  show zwp d zm_X11_takeHalf 0 [some (zr ((a0, 20, n0) : zF)), none] [] h _
  refine zwp.go (m := 2) (j := 2) (ls' := [some (zr ((a0, 20, n0) : zF)), some (zi (0 : Int32))]) (st' := []) (h' := h) rfl ?_
  exact s_X11_takeHalf_L2_ok d ρ hρ a0 n0 zfu (0 : Int32) h _ hR e
def s_X11_takeOver_L55 : Nat → Int32 → zH → Option (zH)
  | 0, _, _ => none
  | n + 1, l1, h => if (12 : Int32) ≤ l1 then (zlt (zwI h 65 0 (zI h 56 2)) fun h1 => zlt (zwI h1 65 1 (zI h1 56 3)) fun h2 => zlt (zwI h2 52 35 (0 : Int32)) fun h3 => zlt (zwI h3 52 36 (0 : Int32)) fun h4 => zlt (zwI h4 52 59 (0 : Int32)) fun h5 => some h5) else (if (zI h 56 0) ≤ l1 then (zix l1 12 fun i7 => zlt (zwI h 64 i7 (0 : Int32)) fun h6 => s_X11_takeOver_L55 n (l1 + (1 : Int32)) h6) else (zix l1 24 fun i8 => zix l1 12 fun i10 => zlt (zwI h 64 i10 (zI h 58 i8)) fun h9 => s_X11_takeOver_L55 n (l1 + (1 : Int32)) h9))
theorem s_X11_takeOver_L55_ok (d : Nat) (ρ : Nat → Nat → Option zF) (hρ : zSh ρ) : ∀ (n : Nat) (l1 : Int32) (h : zH) (res : zH) (hR : zRq h ρ) (e : s_X11_takeOver_L55  n l1 h = some res), zwp (d + 1) zm_X11_takeOver 55 [some (zr ((52, 11, 0) : zF)), some (zi l1)] [] h (zQv ρ res) := by
  intro n
  induction n with
  | zero => intro l1 h res hR e; cases e
  | succ n ih =>
    intro l1 h res hR e
    rw [s_X11_takeOver_L55] at e
    refine zwp.go (m := 2) (j := 57) (ls' := [some (zr ((52, 11, 0) : zF)), some (zi l1)]) (st' := [zi (12 : Int32), zi l1]) (h' := h) rfl ?_
    refine zb_if (j := 76) (j2 := 58) e rfl (fun e => ?_) (fun e => ?_)
    · refine zwp.go (m := 1) (j := 77) (ls' := [some (zr ((52, 11, 0) : zF)), some (zi l1)]) (st' := [zr ((52, 11, 0) : zF)]) (h' := h) rfl ?_
      refine zc_sr (r := ((65, 20, 2) : zF)) (zrf (a := 52) (y := 25) hR rfl (hρ 52 25 rfl)) rfl ?_
      refine zwp.go (m := 2) (j := 80) (ls' := [some (zr ((52, 11, 0) : zF)), some (zi l1)]) (st' := [zr ((52, 11, 0) : zF), zi (0 : Int32), zr ((65, 20, 2) : zF)]) (h' := h) rfl ?_
      refine zc_sr (r := ((56, 20, 12) : zF)) (zrf (a := 52) (y := 5) hR rfl (hρ 52 5 rfl)) rfl ?_
      refine zwp.go (m := 2) (j := 83) (ls' := [some (zr ((52, 11, 0) : zF)), some (zi l1)]) (st' := [zi (zI h 56 2), zi (0 : Int32), zr ((65, 20, 2) : zF)]) (h' := h) rfl ?_
      refine zc_w e rfl hR (fun h1 hR1 e => ?_)
      refine zwp.go (m := 1) (j := 85) (ls' := [some (zr ((52, 11, 0) : zF)), some (zi l1)]) (st' := [zr ((52, 11, 0) : zF)]) (h' := h1) rfl ?_
      refine zc_sr (r := ((65, 20, 2) : zF)) (zrf (a := 52) (y := 25) hR1 rfl (hρ 52 25 rfl)) rfl ?_
      refine zwp.go (m := 2) (j := 88) (ls' := [some (zr ((52, 11, 0) : zF)), some (zi l1)]) (st' := [zr ((52, 11, 0) : zF), zi (1 : Int32), zr ((65, 20, 2) : zF)]) (h' := h1) rfl ?_
      refine zc_sr (r := ((56, 20, 12) : zF)) (zrf (a := 52) (y := 5) hR1 rfl (hρ 52 5 rfl)) rfl ?_
      refine zwp.go (m := 2) (j := 91) (ls' := [some (zr ((52, 11, 0) : zF)), some (zi l1)]) (st' := [zi (zI h1 56 3), zi (1 : Int32), zr ((65, 20, 2) : zF)]) (h' := h1) rfl ?_
      refine zc_w e rfl hR1 (fun h2 hR2 e => ?_)
      refine zwp.go (m := 2) (j := 94) (ls' := [some (zr ((52, 11, 0) : zF)), some (zi l1)]) (st' := [zi (0 : Int32), zr ((52, 11, 0) : zF)]) (h' := h2) rfl ?_
      refine zc_w e rfl hR2 (fun h3 hR3 e => ?_)
      refine zwp.go (m := 2) (j := 97) (ls' := [some (zr ((52, 11, 0) : zF)), some (zi l1)]) (st' := [zi (0 : Int32), zr ((52, 11, 0) : zF)]) (h' := h3) rfl ?_
      refine zc_w e rfl hR3 (fun h4 hR4 e => ?_)
      refine zwp.go (m := 2) (j := 100) (ls' := [some (zr ((52, 11, 0) : zF)), some (zi l1)]) (st' := [zi (0 : Int32), zr ((52, 11, 0) : zF)]) (h' := h4) rfl ?_
      refine zc_w e rfl hR4 (fun h5 hR5 e => ?_)
      cases e
      exact zwp.rv rfl ⟨⟨rfl, rfl⟩, hR5⟩
    · refine zwp.go (m := 1) (j := 59) (ls' := [some (zr ((52, 11, 0) : zF)), some (zi l1)]) (st' := [zr ((52, 11, 0) : zF)]) (h' := h) rfl ?_
      refine zc_sr (r := ((64, 20, 12) : zF)) (zrf (a := 52) (y := 24) hR rfl (hρ 52 24 rfl)) rfl ?_
      refine zwp.go (m := 3) (j := 63) (ls' := [some (zr ((52, 11, 0) : zF)), some (zi l1)]) (st' := [zr ((52, 11, 0) : zF), zi l1, zi l1, zr ((64, 20, 12) : zF)]) (h' := h) rfl ?_
      refine zc_sr (r := ((56, 20, 12) : zF)) (zrf (a := 52) (y := 5) hR rfl (hρ 52 5 rfl)) rfl ?_
      refine zwp.go (m := 2) (j := 66) (ls' := [some (zr ((52, 11, 0) : zF)), some (zi l1)]) (st' := [zi (zI h 56 0), zi l1, zi l1, zr ((64, 20, 12) : zF)]) (h' := h) rfl ?_
      refine zb_if (j := 72) (j2 := 67) e rfl (fun e => ?_) (fun e => ?_)
      · refine zwp.go (m := 1) (j := 73) (ls' := [some (zr ((52, 11, 0) : zF)), some (zi l1)]) (st' := [zi (0 : Int32), zi l1, zr ((64, 20, 12) : zF)]) (h' := h) rfl ?_
        refine zc_si e (fun _ => rfl) hR (fun h6 hR6 e => ?_)
        refine zwp.go (m := 2) (j := 55) (ls' := [some (zr ((52, 11, 0) : zF)), some (zi (l1 + (1 : Int32)))]) (st' := []) (h' := h6) rfl ?_
        exact ih (l1 + (1 : Int32)) h6 _ hR6 e
      · refine zwp.go (m := 1) (j := 68) (ls' := [some (zr ((52, 11, 0) : zF)), some (zi l1)]) (st' := [zr ((52, 11, 0) : zF), zi l1, zr ((64, 20, 12) : zF)]) (h' := h) rfl ?_
        refine zc_sr (r := ((58, 20, 24) : zF)) (zrf (a := 52) (y := 7) hR rfl (hρ 52 7 rfl)) rfl ?_
        refine zwp.go (m := 1) (j := 70) (ls' := [some (zr ((52, 11, 0) : zF)), some (zi l1)]) (st' := [zi l1, zr ((58, 20, 24) : zF), zi l1, zr ((64, 20, 12) : zF)]) (h' := h) rfl ?_
        refine zc_ai e (fun _ => rfl) (fun i8 e => ?_)
        refine zwp.go (m := 1) (j := 73) (ls' := [some (zr ((52, 11, 0) : zF)), some (zi l1)]) (st' := [zi (zI h 58 i8), zi l1, zr ((64, 20, 12) : zF)]) (h' := h) rfl ?_
        refine zc_si e (fun _ => rfl) hR (fun h9 hR9 e => ?_)
        refine zwp.go (m := 2) (j := 55) (ls' := [some (zr ((52, 11, 0) : zF)), some (zi (l1 + (1 : Int32)))]) (st' := []) (h' := h9) rfl ?_
        exact ih (l1 + (1 : Int32)) h9 _ hR9 e
def s_X11_takeOver_L38 : Nat → Int32 → zH → Option (zH)
  | 0, _, _ => none
  | n + 1, l1, h => if (9 : Int32) ≤ l1 then (s_X11_takeOver_L55 zfu (0 : Int32) h) else (zix l1 9 fun i4 => zlt (zwI h 66 i4 (0 : Int32)) fun h1 => zix l1 9 fun i3 => zlt (zwI h1 67 i3 (0 : Int32)) fun h2 => s_X11_takeOver_L38 n (l1 + (1 : Int32)) h2)
theorem s_X11_takeOver_L38_ok (d : Nat) (ρ : Nat → Nat → Option zF) (hρ : zSh ρ) : ∀ (n : Nat) (l1 : Int32) (h : zH) (res : zH) (hR : zRq h ρ) (e : s_X11_takeOver_L38  n l1 h = some res), zwp (d + 1) zm_X11_takeOver 38 [some (zr ((52, 11, 0) : zF)), some (zi l1)] [] h (zQv ρ res) := by
  intro n
  induction n with
  | zero => intro l1 h res hR e; cases e
  | succ n ih =>
    intro l1 h res hR e
    rw [s_X11_takeOver_L38] at e
    refine zwp.go (m := 2) (j := 40) (ls' := [some (zr ((52, 11, 0) : zF)), some (zi l1)]) (st' := [zi (9 : Int32), zi l1]) (h' := h) rfl ?_
    refine zb_if (j := 53) (j2 := 41) e rfl (fun e => ?_) (fun e => ?_)
    · refine zwp.go (m := 2) (j := 55) (ls' := [some (zr ((52, 11, 0) : zF)), some (zi (0 : Int32))]) (st' := []) (h' := h) rfl ?_
      exact s_X11_takeOver_L55_ok d ρ hρ zfu (0 : Int32) h _ hR e
    · refine zwp.go (m := 1) (j := 42) (ls' := [some (zr ((52, 11, 0) : zF)), some (zi l1)]) (st' := [zr ((52, 11, 0) : zF)]) (h' := h) rfl ?_
      refine zc_sr (r := ((66, 20, 9) : zF)) (zrf (a := 52) (y := 26) hR rfl (hρ 52 26 rfl)) rfl ?_
      refine zwp.go (m := 2) (j := 45) (ls' := [some (zr ((52, 11, 0) : zF)), some (zi l1)]) (st' := [zi (0 : Int32), zi l1, zr ((66, 20, 9) : zF)]) (h' := h) rfl ?_
      refine zc_si e (fun _ => rfl) hR (fun h1 hR1 e => ?_)
      refine zwp.go (m := 1) (j := 47) (ls' := [some (zr ((52, 11, 0) : zF)), some (zi l1)]) (st' := [zr ((52, 11, 0) : zF)]) (h' := h1) rfl ?_
      refine zc_sr (r := ((67, 20, 9) : zF)) (zrf (a := 52) (y := 27) hR1 rfl (hρ 52 27 rfl)) rfl ?_
      refine zwp.go (m := 2) (j := 50) (ls' := [some (zr ((52, 11, 0) : zF)), some (zi l1)]) (st' := [zi (0 : Int32), zi l1, zr ((67, 20, 9) : zF)]) (h' := h1) rfl ?_
      refine zc_si e (fun _ => rfl) hR1 (fun h2 hR2 e => ?_)
      refine zwp.go (m := 2) (j := 38) (ls' := [some (zr ((52, 11, 0) : zF)), some (zi (l1 + (1 : Int32)))]) (st' := []) (h' := h2) rfl ?_
      exact ih (l1 + (1 : Int32)) h2 _ hR2 e
def s_X11_takeOver (h : zH) : Option (zH) := (s_X11_takeHalf 56 12 h).bind fun h1 => (s_X11_takeHalf 57 24 h1).bind fun h2 => (s_X11_takeHalf 58 24 h2).bind fun h3 => (s_X11_takeHalf 59 16 h3).bind fun h4 => (s_X11_takeHalf 60 1400 h4).bind fun h5 => (s_X11_takeHalf 61 1400 h5).bind fun h6 => zlt (zwI h6 52 29 (0 : Int32)) fun h7 => zlt (zwI h7 52 30 (0 : Int32)) fun h8 => zlt (zwI h8 52 31 (0 : Int32)) fun h9 => zlt (zwI h9 52 32 (0 : Int32)) fun h10 => zlt (zwI h10 52 33 (0 : Int32)) fun h11 => zlt (zwI h11 52 34 (0 : Int32)) fun h12 => s_X11_takeOver_L38 zfu (0 : Int32) h12
theorem s_X11_takeOver_ok (d : Nat) (ρ : Nat → Nat → Option zF) (hρ : zSh ρ) (h : zH) (res : zH) (hR : zRq h ρ) (e : s_X11_takeOver  h = some res) : zcl (d + 1) 82 [zr ((52, 11, 0) : zF)] h (zQv ρ res) := by
  rw [s_X11_takeOver] at e
  refine ⟨zm_X11_takeOver, rfl, ?_⟩
  show zwp (d + 1) zm_X11_takeOver 0 [some (zr ((52, 11, 0) : zF)), none] [] h _
  refine zwp.go (m := 1) (j := 1) (ls' := [some (zr ((52, 11, 0) : zF)), none]) (st' := [zr ((52, 11, 0) : zF)]) (h' := h) rfl ?_
  refine zc_sr (r := ((56, 20, 12) : zF)) (zrf (a := 52) (y := 5) hR rfl (hρ 52 5 rfl)) rfl ?_
  refine zc_cv (d := d + 0) e (fun q e => s_X11_takeHalf_ok (d + 0) ρ hρ 56 12 h q hR e) rfl rfl (fun h1 hR1 e => ?_)
  refine zwp.go (m := 1) (j := 4) (ls' := [some (zr ((52, 11, 0) : zF)), none]) (st' := [zr ((52, 11, 0) : zF)]) (h' := h1) rfl ?_
  refine zc_sr (r := ((57, 20, 24) : zF)) (zrf (a := 52) (y := 6) hR1 rfl (hρ 52 6 rfl)) rfl ?_
  refine zc_cv (d := d + 0) e (fun q e => s_X11_takeHalf_ok (d + 0) ρ hρ 57 24 h1 q hR1 e) rfl rfl (fun h2 hR2 e => ?_)
  refine zwp.go (m := 1) (j := 7) (ls' := [some (zr ((52, 11, 0) : zF)), none]) (st' := [zr ((52, 11, 0) : zF)]) (h' := h2) rfl ?_
  refine zc_sr (r := ((58, 20, 24) : zF)) (zrf (a := 52) (y := 7) hR2 rfl (hρ 52 7 rfl)) rfl ?_
  refine zc_cv (d := d + 0) e (fun q e => s_X11_takeHalf_ok (d + 0) ρ hρ 58 24 h2 q hR2 e) rfl rfl (fun h3 hR3 e => ?_)
  refine zwp.go (m := 1) (j := 10) (ls' := [some (zr ((52, 11, 0) : zF)), none]) (st' := [zr ((52, 11, 0) : zF)]) (h' := h3) rfl ?_
  refine zc_sr (r := ((59, 20, 16) : zF)) (zrf (a := 52) (y := 8) hR3 rfl (hρ 52 8 rfl)) rfl ?_
  refine zc_cv (d := d + 0) e (fun q e => s_X11_takeHalf_ok (d + 0) ρ hρ 59 16 h3 q hR3 e) rfl rfl (fun h4 hR4 e => ?_)
  refine zwp.go (m := 1) (j := 13) (ls' := [some (zr ((52, 11, 0) : zF)), none]) (st' := [zr ((52, 11, 0) : zF)]) (h' := h4) rfl ?_
  refine zc_sr (r := ((60, 20, 1400) : zF)) (zrf (a := 52) (y := 9) hR4 rfl (hρ 52 9 rfl)) rfl ?_
  refine zc_cv (d := d + 0) e (fun q e => s_X11_takeHalf_ok (d + 0) ρ hρ 60 1400 h4 q hR4 e) rfl rfl (fun h5 hR5 e => ?_)
  refine zwp.go (m := 1) (j := 16) (ls' := [some (zr ((52, 11, 0) : zF)), none]) (st' := [zr ((52, 11, 0) : zF)]) (h' := h5) rfl ?_
  refine zc_sr (r := ((61, 20, 1400) : zF)) (zrf (a := 52) (y := 10) hR5 rfl (hρ 52 10 rfl)) rfl ?_
  refine zc_cv (d := d + 0) e (fun q e => s_X11_takeHalf_ok (d + 0) ρ hρ 61 1400 h5 q hR5 e) rfl rfl (fun h6 hR6 e => ?_)
  refine zwp.go (m := 2) (j := 20) (ls' := [some (zr ((52, 11, 0) : zF)), none]) (st' := [zi (0 : Int32), zr ((52, 11, 0) : zF)]) (h' := h6) rfl ?_
  refine zc_w e rfl hR6 (fun h7 hR7 e => ?_)
  refine zwp.go (m := 2) (j := 23) (ls' := [some (zr ((52, 11, 0) : zF)), none]) (st' := [zi (0 : Int32), zr ((52, 11, 0) : zF)]) (h' := h7) rfl ?_
  refine zc_w e rfl hR7 (fun h8 hR8 e => ?_)
  refine zwp.go (m := 2) (j := 26) (ls' := [some (zr ((52, 11, 0) : zF)), none]) (st' := [zi (0 : Int32), zr ((52, 11, 0) : zF)]) (h' := h8) rfl ?_
  refine zc_w e rfl hR8 (fun h9 hR9 e => ?_)
  refine zwp.go (m := 2) (j := 29) (ls' := [some (zr ((52, 11, 0) : zF)), none]) (st' := [zi (0 : Int32), zr ((52, 11, 0) : zF)]) (h' := h9) rfl ?_
  refine zc_w e rfl hR9 (fun h10 hR10 e => ?_)
  refine zwp.go (m := 2) (j := 32) (ls' := [some (zr ((52, 11, 0) : zF)), none]) (st' := [zi (0 : Int32), zr ((52, 11, 0) : zF)]) (h' := h10) rfl ?_
  refine zc_w e rfl hR10 (fun h11 hR11 e => ?_)
  refine zwp.go (m := 2) (j := 35) (ls' := [some (zr ((52, 11, 0) : zF)), none]) (st' := [zi (0 : Int32), zr ((52, 11, 0) : zF)]) (h' := h11) rfl ?_
  refine zc_w e rfl hR11 (fun h12 hR12 e => ?_)
  refine zwp.go (m := 2) (j := 38) (ls' := [some (zr ((52, 11, 0) : zF)), some (zi (0 : Int32))]) (st' := []) (h' := h12) rfl ?_
  exact s_X11_takeOver_L38_ok d ρ hρ zfu (0 : Int32) h12 _ hR12 e
