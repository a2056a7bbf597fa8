/-! ===== methods as functions, 7 ===== -/
def s_L_fall (pp : Nat) (a1 : Int32) (a2 n2 : Nat) (h : zH) : Option (Int32 × zH) := zbx (s_X10_fall pp a1 h) (fun v3 h2 => zix (0 : Int32) n2 fun i5 => zlt (zwL h2 a2 i5 v3.toInt64) fun h4 => some ((0 : Int32), h4)) (fun x h1 => if x = 1 then (some ((1 : Int32), h1)) else none)
set_option maxRecDepth 100000 in
theorem s_L_fall_ok (d : Nat) (ρ : Nat → Nat → Option zF) (hρ : zSh ρ) (pp : Nat) (a1 : Int32) (a2 n2 : Nat) (hpp : ρ 0 3 = some (pp, 3, 0) ∧ zPlS ρ pp) (h : zH) (res : Int32 × zH) (hR : zRq h ρ) (e : s_L_fall pp a1 a2 n2 h = some res) : zcl (d + 7) 209 [zr ((0, 10, 0) : zF), zi a1, zr ((a2, 23, n2) : zF)] h (zQi ρ res) := by
  rw [s_L_fall] at e
  refine ⟨zm_L_fall, rfl, ?_⟩
  show zwp (d + 7) zm_L_fall 0 [some (zr ((0, 10, 0) : zF)), some (zi a1), some (zr ((a2, 23, n2) : zF)), none] [] h _
  refine zwp.go (m := 4) (j := 4) (ls' := [some (zr ((0, 10, 0) : zF)), some (zi a1), some (zr ((a2, 23, n2) : zF)), none]) (st' := [zi a1, zr ((0, 10, 0) : zF), zi (0 : Int32), zr ((a2, 23, n2) : zF)]) (h' := h) rfl ?_
  refine zc_cx (d := d + 6) e (fun q e => s_X10_fall_ok (d + 0) ρ hρ pp a1 hpp h q hR e) rfl rfl (fun v3 h2 hR2 e => ?_) (fun x h1 hR1 e => ?_)
  · refine zwp.go (m := 1) (j := 6) (ls' := [some (zr ((0, 10, 0) : zF)), some (zi a1), some (zr ((a2, 23, n2) : zF)), none]) (st' := [zl v3.toInt64, zi (0 : Int32), zr ((a2, 23, n2) : zF)]) (h' := h2) rfl ?_
    refine zc_sl e (fun _ => rfl) hR2 (fun h4 hR4 e => ?_)
    refine zwp.go (m := 2) (j := 12) (ls' := [some (zr ((0, 10, 0) : zF)), some (zi a1), some (zr ((a2, 23, n2) : zF)), none]) (st' := [zi (0 : Int32)]) (h' := h4) rfl ?_
    cases e
    exact zwp.ret rfl rfl ⟨⟨rfl, rfl⟩, hR4⟩
  · by_cases q1 : x = 1
    · subst q1
      replace e : (some ((1 : Int32), h1)) = some res := by simpa using e
      show zwp _ _ 9 [some (zr ((0, 10, 0) : zF)), some (zi a1), some (zr ((a2, 23, n2) : zF)), none] [] _ _
      refine zwp.go (m := 1) (j := 10) (ls' := [some (zr ((0, 10, 0) : zF)), some (zi a1), some (zr ((a2, 23, n2) : zF)), none]) (st' := [zi (1 : Int32)]) (h' := h1) rfl ?_
      cases e
      exact zwp.ret rfl rfl ⟨⟨rfl, rfl⟩, hR1⟩
    · skip
      simp [q1] at e
def s_X11_fall_J39 (k23 : (Int32 → Int32 → Int32 → Int32 → zH → Option (Int32 × zH))) (l1 : Int32) (l2 : Int32) (l3 : Int32) (l4 : Int32) (s0 : Int32) (h : zH) : Option (Int32 × zH) := if s0 = 0 then (k23 l1 l2 l3 (l4 + (1 : Int32)) h) else (if ¬ l1 = 0 then (if l3 < s0 then (k23 l1 l4 s0 (l4 + (1 : Int32)) h) else (k23 l1 l2 l3 (l4 + (1 : Int32)) h)) else (if s0 < l3 then (k23 l1 l4 s0 (l4 + (1 : Int32)) h) else (k23 l1 l2 l3 (l4 + (1 : Int32)) h)))
set_option maxRecDepth 100000 in
theorem s_X11_fall_J39_ok (d : Nat) (ρ : Nat → Nat → Option zF) (hρ : zSh ρ) (k23 : (Int32 → Int32 → Int32 → Int32 → zH → Option (Int32 × zH))) (hk23 : ∀ l1 l2 l3 l4 h res, zRq h ρ → k23 l1 l2 l3 l4 h = some res → zwp (d + 6) zm_X11_fall 23 [some (zr ((52, 11, 0) : zF)), some (zi l1), some (zi l2), some (zi l3), some (zi l4), none, none] [] h (zQi ρ res)) (l1 : Int32) (l2 : Int32) (l3 : Int32) (l4 : Int32) (s0 : Int32) (h : zH) (res : Int32 × zH) (hR : zRq h ρ) (e : s_X11_fall_J39 k23 l1 l2 l3 l4 s0 h = some res) : zwp (d + 6) zm_X11_fall 39 [some (zr ((52, 11, 0) : zF)), some (zi l1), some (zi l2), some (zi l3), some (zi l4), none, none] [zi s0] h (zQi ρ res) := by
  rw [s_X11_fall_J39] at e
  refine zwp.go (m := 2) (j := 41) (ls' := [some (zr ((52, 11, 0) : zF)), some (zi l1), some (zi l2), some (zi l3), some (zi l4), none, some (zi s0)]) (st' := [zi s0]) (h' := h) rfl ?_
  refine zb_if (j := 56) (j2 := 42) e rfl (fun e => ?_) (fun e => ?_)
  · refine zwp.go (m := 2) (j := 23) (ls' := [some (zr ((52, 11, 0) : zF)), some (zi l1), some (zi l2), some (zi l3), some (zi (l4 + (1 : Int32))), none, some (zi s0)]) (st' := []) (h' := h) rfl ?_
    refine zwp.fg (a := [some (zr ((52, 11, 0) : zF)), some (zi l1), some (zi l2), some (zi l3), some (zi (l4 + (1 : Int32))), none, none]) (And.intro rfl (And.intro rfl (And.intro rfl (And.intro rfl (And.intro rfl trivial))))) ?_
    exact hk23 l1 l2 l3 (l4 + (1 : Int32)) h _ hR e
  · refine zwp.go (m := 1) (j := 43) (ls' := [some (zr ((52, 11, 0) : zF)), some (zi l1), some (zi l2), some (zi l3), some (zi l4), none, some (zi s0)]) (st' := [zi l1]) (h' := h) rfl ?_
    refine zb_if (j := 48) (j2 := 44) e rfl (fun e => ?_) (fun e => ?_)
    · refine zwp.go (m := 2) (j := 50) (ls' := [some (zr ((52, 11, 0) : zF)), some (zi l1), some (zi l2), some (zi l3), some (zi l4), none, some (zi s0)]) (st' := [zi l3, zi s0]) (h' := h) rfl ?_
      refine zb_if (j := 52) (j2 := 51) e rfl (fun e => ?_) (fun e => ?_)
      · refine zwp.go (m := 6) (j := 23) (ls' := [some (zr ((52, 11, 0) : zF)), some (zi l1), some (zi l4), some (zi s0), some (zi (l4 + (1 : Int32))), none, some (zi s0)]) (st' := []) (h' := h) rfl ?_
        refine zwp.fg (a := [some (zr ((52, 11, 0) : zF)), some (zi l1), some (zi l4), some (zi s0), some (zi (l4 + (1 : Int32))), none, none]) (And.intro rfl (And.intro rfl (And.intro rfl (And.intro rfl (And.intro rfl trivial))))) ?_
        exact hk23 l1 l4 s0 (l4 + (1 : Int32)) h _ hR e
      · refine zwp.go (m := 3) (j := 23) (ls' := [some (zr ((52, 11, 0) : zF)), some (zi l1), some (zi l2), some (zi l3), some (zi (l4 + (1 : Int32))), none, some (zi s0)]) (st' := []) (h' := h) rfl ?_
        refine zwp.fg (a := [some (zr ((52, 11, 0) : zF)), some (zi l1), some (zi l2), some (zi l3), some (zi (l4 + (1 : Int32))), none, none]) (And.intro rfl (And.intro rfl (And.intro rfl (And.intro rfl (And.intro rfl trivial))))) ?_
        exact hk23 l1 l2 l3 (l4 + (1 : Int32)) h _ hR e
    · refine zwp.go (m := 2) (j := 46) (ls' := [some (zr ((52, 11, 0) : zF)), some (zi l1), some (zi l2), some (zi l3), some (zi l4), none, some (zi s0)]) (st' := [zi l3, zi s0]) (h' := h) rfl ?_
      refine zb_if (j := 52) (j2 := 47) e rfl (fun e => ?_) (fun e => ?_)
      · refine zwp.go (m := 6) (j := 23) (ls' := [some (zr ((52, 11, 0) : zF)), some (zi l1), some (zi l4), some (zi s0), some (zi (l4 + (1 : Int32))), none, some (zi s0)]) (st' := []) (h' := h) rfl ?_
        refine zwp.fg (a := [some (zr ((52, 11, 0) : zF)), some (zi l1), some (zi l4), some (zi s0), some (zi (l4 + (1 : Int32))), none, none]) (And.intro rfl (And.intro rfl (And.intro rfl (And.intro rfl (And.intro rfl trivial))))) ?_
        exact hk23 l1 l4 s0 (l4 + (1 : Int32)) h _ hR e
      · refine zwp.go (m := 3) (j := 23) (ls' := [some (zr ((52, 11, 0) : zF)), some (zi l1), some (zi l2), some (zi l3), some (zi (l4 + (1 : Int32))), none, some (zi s0)]) (st' := []) (h' := h) rfl ?_
        refine zwp.fg (a := [some (zr ((52, 11, 0) : zF)), some (zi l1), some (zi l2), some (zi l3), some (zi (l4 + (1 : Int32))), none, none]) (And.intro rfl (And.intro rfl (And.intro rfl (And.intro rfl (And.intro rfl trivial))))) ?_
        exact hk23 l1 l2 l3 (l4 + (1 : Int32)) h _ hR e
def s_X11_fall_L23 : Nat → Int32 → Int32 → Int32 → Int32 → zH → Option (Int32 × zH)
  | 0, _, _, _, _, _ => none
  | n + 1, l1, l2, l3, l4, h => if (zI h 56 0) ≤ l4 then (some (l2, h)) else (zbd (s_X11_goneIn l4 h) fun v2 h1 => if ¬ v2 = (-1 : Int32) then (s_X11_fall_J39 (s_X11_fall_L23 n) l1 l2 l3 l4 v2 h1) else (s_X11_fall_J39 (s_X11_fall_L23 n) l1 l2 l3 l4 (1000 : Int32) h1))
set_option maxRecDepth 100000 in
theorem s_X11_fall_L23_ok (d : Nat) (ρ : Nat → Nat → Option zF) (hρ : zSh ρ) : ∀ (n : Nat) (l1 : Int32) (l2 : Int32) (l3 : Int32) (l4 : Int32) (h : zH) (res : Int32 × zH) (hR : zRq h ρ) (e : s_X11_fall_L23  n l1 l2 l3 l4 h = some res), zwp (d + 6) zm_X11_fall 23 [some (zr ((52, 11, 0) : zF)), some (zi l1), some (zi l2), some (zi l3), some (zi l4), none, none] [] h (zQi ρ res) := by
  intro n
  induction n with
  | zero => intro l1 l2 l3 l4 h res hR e; cases e
  | succ n ih =>
    intro l1 l2 l3 l4 h res hR e
    rw [s_X11_fall_L23] at e
    refine zwp.go (m := 2) (j := 25) (ls' := [some (zr ((52, 11, 0) : zF)), some (zi l1), some (zi l2), some (zi l3), some (zi l4), none, none]) (st' := [zr ((52, 11, 0) : zF), zi l4]) (h' := h) rfl ?_
    refine zc_sr (r := ((56, 20, 12) : zF)) (zrf (a := 52) (y := 5) hR rfl (hρ 52 5 rfl)) rfl ?_
    refine zwp.go (m := 2) (j := 28) (ls' := [some (zr ((52, 11, 0) : zF)), some (zi l1), some (zi l2), some (zi l3), some (zi l4), none, none]) (st' := [zi (zI h 56 0), zi l4]) (h' := h) rfl ?_
    refine zb_if (j := 58) (j2 := 29) e rfl (fun e => ?_) (fun e => ?_)
    · refine zwp.go (m := 1) (j := 59) (ls' := [some (zr ((52, 11, 0) : zF)), some (zi l1), some (zi l2), some (zi l3), some (zi l4), none, none]) (st' := [zi l2]) (h' := h) rfl ?_
      cases e
      exact zwp.ret rfl rfl ⟨⟨rfl, rfl⟩, hR⟩
    · refine zwp.go (m := 2) (j := 31) (ls' := [some (zr ((52, 11, 0) : zF)), some (zi l1), some (zi l2), some (zi l3), some (zi l4), none, none]) (st' := [zi l4, zr ((52, 11, 0) : zF)]) (h' := h) rfl ?_
      refine zc_ci (d := d + 5) e (fun q e => s_X11_goneIn_ok (d + 0) ρ hρ l4 h q hR e) rfl rfl (fun v2 h1 hR1 e => ?_)
      refine zwp.go (m := 3) (j := 35) (ls' := [some (zr ((52, 11, 0) : zF)), some (zi l1), some (zi l2), some (zi l3), some (zi l4), some (zi v2), none]) (st' := [zi (-1 : Int32), zi v2]) (h' := h1) rfl ?_
      refine zb_if (j := 38) (j2 := 36) e rfl (fun e => ?_) (fun e => ?_)
      · refine zwp.go (m := 1) (j := 39) (ls' := [some (zr ((52, 11, 0) : zF)), some (zi l1), some (zi l2), some (zi l3), some (zi l4), some (zi v2), none]) (st' := [zi v2]) (h' := h1) rfl ?_
        refine zwp.fg (a := [some (zr ((52, 11, 0) : zF)), some (zi l1), some (zi l2), some (zi l3), some (zi l4), none, none]) (And.intro rfl (And.intro rfl (And.intro rfl (And.intro rfl (And.intro rfl trivial))))) ?_
        exact s_X11_fall_J39_ok d ρ hρ (s_X11_fall_L23 n) ih l1 l2 l3 l4 v2 h1 _ hR1 e
      · refine zwp.go (m := 2) (j := 39) (ls' := [some (zr ((52, 11, 0) : zF)), some (zi l1), some (zi l2), some (zi l3), some (zi l4), some (zi v2), none]) (st' := [zi (1000 : Int32)]) (h' := h1) rfl ?_
        refine zwp.fg (a := [some (zr ((52, 11, 0) : zF)), some (zi l1), some (zi l2), some (zi l3), some (zi l4), none, none]) (And.intro rfl (And.intro rfl (And.intro rfl (And.intro rfl (And.intro rfl trivial))))) ?_
        exact s_X11_fall_J39_ok d ρ hρ (s_X11_fall_L23 n) ih l1 l2 l3 l4 (1000 : Int32) h1 _ hR1 e
def s_X11_fall (a1 : Int32) (h : zH) : Option (Int32 × zH) := zlt (zwI h 52 4 (0 : Int32)) fun h1 => (s_X11_isIn a1.toInt64 (0 : Int64) (1 : Int64) h1).bind fun v2 => if ¬ v2 = 0 then (if ¬ a1 = 0 then (s_X11_fall_L23 zfu a1 (-1 : Int32) (0 : Int32) (0 : Int32) h1) else (s_X11_fall_L23 zfu a1 (-1 : Int32) (1000 : Int32) (0 : Int32) h1)) else (zbd (s_X11_fail (1 : Int32) h1) fun v4 h3 => some (v4, h3))
set_option maxRecDepth 100000 in
theorem s_X11_fall_ok (d : Nat) (ρ : Nat → Nat → Option zF) (hρ : zSh ρ) (a1 : Int32) (h : zH) (res : Int32 × zH) (hR : zRq h ρ) (e : s_X11_fall a1 h = some res) : zcl (d + 6) 210 [zr ((52, 11, 0) : zF), zi a1] h (zQi ρ res) := by
  rw [s_X11_fall] at e
  refine ⟨zm_X11_fall, rfl, ?_⟩
  show zwp (d + 6) zm_X11_fall 0 [some (zr ((52, 11, 0) : zF)), some (zi a1), none, none, none, none, none] [] h _
  refine zwp.go (m := 2) (j := 2) (ls' := [some (zr ((52, 11, 0) : zF)), some (zi a1), none, none, none, none, none]) (st' := [zi (0 : Int32), zr ((52, 11, 0) : zF)]) (h' := h) rfl ?_
  refine zc_w e rfl hR (fun h1 hR1 e => ?_)
  refine zwp.go (m := 4) (j := 7) (ls' := [some (zr ((52, 11, 0) : zF)), some (zi a1), none, none, none, none, none]) (st' := [zl (1 : Int64), zl (0 : Int64), zl a1.toInt64]) (h' := h1) rfl ?_
  refine zc_cp (d := d + 5) e (fun q e => s_X11_isIn_ok (d + 5) ρ hρ a1.toInt64 (0 : Int64) (1 : Int64) h1 q hR1 e) rfl rfl (fun v2 e => ?_)
  refine zb_if (j := 13) (j2 := 9) e rfl (fun e => ?_) (fun e => ?_)
  · refine zwp.go (m := 3) (j := 16) (ls' := [some (zr ((52, 11, 0) : zF)), some (zi a1), some (zi (-1 : Int32)), none, none, none, none]) (st' := [zi a1]) (h' := h1) rfl ?_
    refine zb_if (j := 19) (j2 := 17) e rfl (fun e => ?_) (fun e => ?_)
    · refine zwp.go (m := 4) (j := 23) (ls' := [some (zr ((52, 11, 0) : zF)), some (zi a1), some (zi (-1 : Int32)), some (zi (0 : Int32)), some (zi (0 : Int32)), none, none]) (st' := []) (h' := h1) rfl ?_
      exact s_X11_fall_L23_ok d ρ hρ zfu a1 (-1 : Int32) (0 : Int32) (0 : Int32) h1 _ hR1 e
    · refine zwp.go (m := 5) (j := 23) (ls' := [some (zr ((52, 11, 0) : zF)), some (zi a1), some (zi (-1 : Int32)), some (zi (1000 : Int32)), some (zi (0 : Int32)), none, none]) (st' := []) (h' := h1) rfl ?_
      exact s_X11_fall_L23_ok d ρ hρ zfu a1 (-1 : Int32) (1000 : Int32) (0 : Int32) h1 _ hR1 e
  · refine zwp.go (m := 2) (j := 11) (ls' := [some (zr ((52, 11, 0) : zF)), some (zi a1), none, none, none, none, none]) (st' := [zi (1 : Int32), zr ((52, 11, 0) : zF)]) (h' := h1) rfl ?_
    refine zc_ci (d := d + 5) e (fun q e => s_X11_fail_ok (d + 5) ρ hρ (1 : Int32) h1 q hR1 e) rfl rfl (fun v4 h3 hR3 e => ?_)
    cases e
    exact zwp.ret rfl rfl ⟨⟨rfl, rfl⟩, hR3⟩
def s_X7_fewestToTell_J20 (a1 : Nat) (k9 : (Int32 → Int32 → Int32 → Int32 → zH → Option (Int32))) (l2 : Int32) (l3 : Int32) (l4 : Int32) (l5 : Int32) (s0 : Int32) (h : zH) : Option (Int32) := if s0 = 0 then (k9 l2 l3 l4 (l5 + (1 : Int32)) h) else ((s_J6_bitCount_0f7a4 l5 h).bind fun v1 => (s_J6_bitCount_0f7a4 l4 h).bind fun v2 => if v2 ≤ v1 then (k9 l2 l3 l4 (l5 + (1 : Int32)) h) else ((s_X7_kinds a1 l5 h).bind fun v3 => if ¬ v3 = l3 then (k9 l2 l3 l4 (l5 + (1 : Int32)) h) else (k9 l2 l3 l5 (l5 + (1 : Int32)) h)))
set_option maxRecDepth 100000 in
theorem s_X7_fewestToTell_J20_ok (d : Nat) (ρ : Nat → Nat → Option zF) (hρ : zSh ρ) (a1 : Nat) (ha1 : zPlS ρ a1) (k9 : (Int32 → Int32 → Int32 → Int32 → zH → Option (Int32))) (hk9 : ∀ l2 l3 l4 l5 h res, zRq h ρ → k9 l2 l3 l4 l5 h = some res → zwp (d + 4) zm_X7_fewestToTell 9 [some (zr ((44, 7, 0) : zF)), some (zr ((a1, 3, 0) : zF)), some (zi l2), some (zi l3), some (zi l4), some (zi l5), none] [] h (zQp h res)) (l2 : Int32) (l3 : Int32) (l4 : Int32) (l5 : Int32) (s0 : Int32) (h : zH) (res : Int32) (hR : zRq h ρ) (e : s_X7_fewestToTell_J20 a1 k9 l2 l3 l4 l5 s0 h = some res) : zwp (d + 4) zm_X7_fewestToTell 20 [some (zr ((44, 7, 0) : zF)), some (zr ((a1, 3, 0) : zF)), some (zi l2), some (zi l3), some (zi l4), some (zi l5), none] [zi s0] h (zQp h res) := by
  rw [s_X7_fewestToTell_J20] at e
  refine zwp.go (m := 2) (j := 22) (ls' := [some (zr ((44, 7, 0) : zF)), some (zr ((a1, 3, 0) : zF)), some (zi l2), some (zi l3), some (zi l4), some (zi l5), some (zi s0)]) (st' := [zi s0]) (h' := h) rfl ?_
  refine zb_if (j := 36) (j2 := 23) e rfl (fun e => ?_) (fun e => ?_)
  · refine zwp.go (m := 2) (j := 9) (ls' := [some (zr ((44, 7, 0) : zF)), some (zr ((a1, 3, 0) : zF)), some (zi l2), some (zi l3), some (zi l4), some (zi (l5 + (1 : Int32))), some (zi s0)]) (st' := []) (h' := h) rfl ?_
    refine zwp.fg (a := [some (zr ((44, 7, 0) : zF)), some (zr ((a1, 3, 0) : zF)), some (zi l2), some (zi l3), some (zi l4), some (zi (l5 + (1 : Int32))), none]) (And.intro rfl (And.intro rfl (And.intro rfl (And.intro rfl (And.intro rfl (And.intro rfl trivial)))))) ?_
    exact hk9 l2 l3 l4 (l5 + (1 : Int32)) h _ hR e
  · refine zwp.go (m := 1) (j := 24) (ls' := [some (zr ((44, 7, 0) : zF)), some (zr ((a1, 3, 0) : zF)), some (zi l2), some (zi l3), some (zi l4), some (zi l5), some (zi s0)]) (st' := [zi l5]) (h' := h) rfl ?_
    refine zc_cp (d := d + 3) e (fun q e => s_J6_bitCount_0f7a4_ok (d + 3) ρ hρ l5 h q hR e) rfl rfl (fun v1 e => ?_)
    refine zwp.go (m := 1) (j := 26) (ls' := [some (zr ((44, 7, 0) : zF)), some (zr ((a1, 3, 0) : zF)), some (zi l2), some (zi l3), some (zi l4), some (zi l5), some (zi s0)]) (st' := [zi l4, zi v1]) (h' := h) rfl ?_
    refine zc_cp (d := d + 3) e (fun q e => s_J6_bitCount_0f7a4_ok (d + 3) ρ hρ l4 h q hR e) rfl rfl (fun v2 e => ?_)
    refine zb_if (j := 36) (j2 := 28) e rfl (fun e => ?_) (fun e => ?_)
    · refine zwp.go (m := 2) (j := 9) (ls' := [some (zr ((44, 7, 0) : zF)), some (zr ((a1, 3, 0) : zF)), some (zi l2), some (zi l3), some (zi l4), some (zi (l5 + (1 : Int32))), some (zi s0)]) (st' := []) (h' := h) rfl ?_
      refine zwp.fg (a := [some (zr ((44, 7, 0) : zF)), some (zr ((a1, 3, 0) : zF)), some (zi l2), some (zi l3), some (zi l4), some (zi (l5 + (1 : Int32))), none]) (And.intro rfl (And.intro rfl (And.intro rfl (And.intro rfl (And.intro rfl (And.intro rfl trivial)))))) ?_
      exact hk9 l2 l3 l4 (l5 + (1 : Int32)) h _ hR e
    · refine zwp.go (m := 3) (j := 31) (ls' := [some (zr ((44, 7, 0) : zF)), some (zr ((a1, 3, 0) : zF)), some (zi l2), some (zi l3), some (zi l4), some (zi l5), some (zi s0)]) (st' := [zi l5, zr ((a1, 3, 0) : zF), zr ((44, 7, 0) : zF)]) (h' := h) rfl ?_
      refine zc_cp (d := d + 3) e (fun q e => s_X7_kinds_ok (d + 0) ρ hρ a1 l5 ha1 h q hR e) rfl rfl (fun v3 e => ?_)
      refine zwp.go (m := 1) (j := 33) (ls' := [some (zr ((44, 7, 0) : zF)), some (zr ((a1, 3, 0) : zF)), some (zi l2), some (zi l3), some (zi l4), some (zi l5), some (zi s0)]) (st' := [zi l3, zi v3]) (h' := h) rfl ?_
      refine zb_if (j := 36) (j2 := 34) e rfl (fun e => ?_) (fun e => ?_)
      · refine zwp.go (m := 2) (j := 9) (ls' := [some (zr ((44, 7, 0) : zF)), some (zr ((a1, 3, 0) : zF)), some (zi l2), some (zi l3), some (zi l4), some (zi (l5 + (1 : Int32))), some (zi s0)]) (st' := []) (h' := h) rfl ?_
        refine zwp.fg (a := [some (zr ((44, 7, 0) : zF)), some (zr ((a1, 3, 0) : zF)), some (zi l2), some (zi l3), some (zi l4), some (zi (l5 + (1 : Int32))), none]) (And.intro rfl (And.intro rfl (And.intro rfl (And.intro rfl (And.intro rfl (And.intro rfl trivial)))))) ?_
        exact hk9 l2 l3 l4 (l5 + (1 : Int32)) h _ hR e
      · refine zwp.go (m := 4) (j := 9) (ls' := [some (zr ((44, 7, 0) : zF)), some (zr ((a1, 3, 0) : zF)), some (zi l2), some (zi l3), some (zi l5), some (zi (l5 + (1 : Int32))), some (zi s0)]) (st' := []) (h' := h) rfl ?_
        refine zwp.fg (a := [some (zr ((44, 7, 0) : zF)), some (zr ((a1, 3, 0) : zF)), some (zi l2), some (zi l3), some (zi l5), some (zi (l5 + (1 : Int32))), none]) (And.intro rfl (And.intro rfl (And.intro rfl (And.intro rfl (And.intro rfl (And.intro rfl trivial)))))) ?_
        exact hk9 l2 l3 l5 (l5 + (1 : Int32)) h _ hR e
def s_X7_fewestToTell_L9 (a1 : Nat) : Nat → Int32 → Int32 → Int32 → Int32 → zH → Option (Int32)
  | 0, _, _, _, _, _ => none
  | n + 1, l2, l3, l4, l5, h => if l2 ≤ l5 then (some l4) else (if ¬ (l5 &&& l2) = l5 then (s_X7_fewestToTell_J20 a1 (s_X7_fewestToTell_L9 a1 n) l2 l3 l4 l5 (0 : Int32) h) else (s_X7_fewestToTell_J20 a1 (s_X7_fewestToTell_L9 a1 n) l2 l3 l4 l5 (1 : Int32) h))
set_option maxRecDepth 100000 in
theorem s_X7_fewestToTell_L9_ok (d : Nat) (ρ : Nat → Nat → Option zF) (hρ : zSh ρ) (a1 : Nat) (ha1 : zPlS ρ a1) : ∀ (n : Nat) (l2 : Int32) (l3 : Int32) (l4 : Int32) (l5 : Int32) (h : zH) (res : Int32) (hR : zRq h ρ) (e : s_X7_fewestToTell_L9 a1 n l2 l3 l4 l5 h = some res), zwp (d + 4) zm_X7_fewestToTell 9 [some (zr ((44, 7, 0) : zF)), some (zr ((a1, 3, 0) : zF)), some (zi l2), some (zi l3), some (zi l4), some (zi l5), none] [] h (zQp h res) := by
  intro n
  induction n with
  | zero => intro l2 l3 l4 l5 h res hR e; cases e
  | succ n ih =>
    intro l2 l3 l4 l5 h res hR e
    rw [s_X7_fewestToTell_L9] at e
    refine zwp.go (m := 2) (j := 11) (ls' := [some (zr ((44, 7, 0) : zF)), some (zr ((a1, 3, 0) : zF)), some (zi l2), some (zi l3), some (zi l4), some (zi l5), none]) (st' := [zi l2, zi l5]) (h' := h) rfl ?_
    refine zb_if (j := 38) (j2 := 12) e rfl (fun e => ?_) (fun e => ?_)
    · refine zwp.go (m := 1) (j := 39) (ls' := [some (zr ((44, 7, 0) : zF)), some (zr ((a1, 3, 0) : zF)), some (zi l2), some (zi l3), some (zi l4), some (zi l5), none]) (st' := [zi l4]) (h' := h) rfl ?_
      cases e
      exact zwp.ret rfl rfl ⟨rfl, rfl⟩
    · refine zwp.go (m := 4) (j := 16) (ls' := [some (zr ((44, 7, 0) : zF)), some (zr ((a1, 3, 0) : zF)), some (zi l2), some (zi l3), some (zi l4), some (zi l5), none]) (st' := [zi l5, zi (l5 &&& l2)]) (h' := h) rfl ?_
      refine zb_if (j := 19) (j2 := 17) e rfl (fun e => ?_) (fun e => ?_)
      · refine zwp.go (m := 1) (j := 20) (ls' := [some (zr ((44, 7, 0) : zF)), some (zr ((a1, 3, 0) : zF)), some (zi l2), some (zi l3), some (zi l4), some (zi l5), none]) (st' := [zi (0 : Int32)]) (h' := h) rfl ?_
        exact s_X7_fewestToTell_J20_ok d ρ hρ a1 ha1 (s_X7_fewestToTell_L9 a1 n) ih l2 l3 l4 l5 (0 : Int32) h _ hR e
      · refine zwp.go (m := 2) (j := 20) (ls' := [some (zr ((44, 7, 0) : zF)), some (zr ((a1, 3, 0) : zF)), some (zi l2), some (zi l3), some (zi l4), some (zi l5), none]) (st' := [zi (1 : Int32)]) (h' := h) rfl ?_
        exact s_X7_fewestToTell_J20_ok d ρ hρ a1 ha1 (s_X7_fewestToTell_L9 a1 n) ih l2 l3 l4 l5 (1 : Int32) h _ hR e
def s_X7_fewestToTell (a1 : Nat) (a2 : Int32) (h : zH) : Option (Int32) := (s_X7_kinds a1 a2 h).bind fun v1 => s_X7_fewestToTell_L9 a1 zfu a2 v1 a2 (0 : Int32) h
set_option maxRecDepth 100000 in
theorem s_X7_fewestToTell_ok (d : Nat) (ρ : Nat → Nat → Option zF) (hρ : zSh ρ) (a1 : Nat) (a2 : Int32) (ha1 : zPlS ρ a1) (h : zH) (res : Int32) (hR : zRq h ρ) (e : s_X7_fewestToTell a1 a2 h = some res) : zcl (d + 4) 211 [zr ((44, 7, 0) : zF), zr ((a1, 3, 0) : zF), zi a2] h (zQp h res) := by
  rw [s_X7_fewestToTell] at e
  refine ⟨zm_X7_fewestToTell, rfl, ?_⟩
  show zwp (d + 4) zm_X7_fewestToTell 0 [some (zr ((44, 7, 0) : zF)), some (zr ((a1, 3, 0) : zF)), some (zi a2), none, none, none, none] [] h _
  refine zwp.go (m := 3) (j := 3) (ls' := [some (zr ((44, 7, 0) : zF)), some (zr ((a1, 3, 0) : zF)), some (zi a2), none, none, none, none]) (st' := [zi a2, zr ((a1, 3, 0) : zF), zr ((44, 7, 0) : zF)]) (h' := h) rfl ?_
  refine zc_cp (d := d + 3) e (fun q e => s_X7_kinds_ok (d + 0) ρ hρ a1 a2 ha1 h q hR e) rfl rfl (fun v1 e => ?_)
  refine zwp.go (m := 5) (j := 9) (ls' := [some (zr ((44, 7, 0) : zF)), some (zr ((a1, 3, 0) : zF)), some (zi a2), some (zi v1), some (zi a2), some (zi (0 : Int32)), none]) (st' := []) (h' := h) rfl ?_
  exact s_X7_fewestToTell_L9_ok d ρ hρ a1 ha1 zfu a2 v1 a2 (0 : Int32) h _ hR e
def s_X10_toTell (pp : Nat) (h : zH) : Option (Int32) := (s_X10_aliveNow pp h).bind fun v1 => (s_X7_fewestToTell pp v1 h).bind fun v2 => some v2
set_option maxRecDepth 100000 in
theorem s_X10_toTell_ok (d : Nat) (ρ : Nat → Nat → Option zF) (hρ : zSh ρ) (pp : Nat) (hpp : ρ 0 3 = some (pp, 3, 0) ∧ zPlS ρ pp) (h : zH) (res : Int32) (hR : zRq h ρ) (e : s_X10_toTell pp h = some res) : zcl (d + 5) 212 [zr ((0, 10, 0) : zF)] h (zQp h res) := by
  rw [s_X10_toTell] at e
  refine ⟨zm_X10_toTell, rfl, ?_⟩
  show zwp (d + 5) zm_X10_toTell 0 [some (zr ((0, 10, 0) : zF))] [] h _
  refine zwp.go (m := 1) (j := 1) (ls' := [some (zr ((0, 10, 0) : zF))]) (st' := [zr ((0, 10, 0) : zF)]) (h' := h) rfl ?_
  refine zc_sr (r := ((44, 7, 0) : zF)) (zrf (a := 0) (y := 12) hR rfl (hρ 0 12 rfl)) rfl ?_
  refine zwp.go (m := 1) (j := 3) (ls' := [some (zr ((0, 10, 0) : zF))]) (st' := [zr ((0, 10, 0) : zF), zr ((44, 7, 0) : zF)]) (h' := h) rfl ?_
  refine zc_sr (r := ((pp, 3, 0) : zF)) (zrf (a := 0) (y := 3) hR rfl hpp.1) rfl ?_
  refine zwp.go (m := 1) (j := 5) (ls' := [some (zr ((0, 10, 0) : zF))]) (st' := [zr ((0, 10, 0) : zF), zr ((pp, 3, 0) : zF), zr ((44, 7, 0) : zF)]) (h' := h) rfl ?_
  refine zc_cp (d := d + 4) e (fun q e => s_X10_aliveNow_ok (d + 3) ρ hρ pp hpp h q hR e) rfl rfl (fun v1 e => ?_)
  refine zc_cp (d := d + 4) e (fun q e => s_X7_fewestToTell_ok (d + 0) ρ hρ pp v1 hpp.2 h q hR e) rfl rfl (fun v2 e => ?_)
  cases e
  exact zwp.ret rfl rfl ⟨rfl, rfl⟩
def s_X11_toTell_J32 (k14 : (Int32 → Int32 → Int32 → Int32 → zH → Option (Int32 × zH))) (l1 : Int32) (l2 : Int32) (l3 : Int32) (l4 : Int32) (h : zH) : Option (Int32 × zH) := (s_X11_kindsBy l4 h).bind fun v1 => if ¬ v1 = l2 then (k14 l1 l2 l3 (l4 + (1 : Int32)) h) else (k14 l1 l2 l4 (l4 + (1 : Int32)) h)
set_option maxRecDepth 100000 in
theorem s_X11_toTell_J32_ok (d : Nat) (ρ : Nat → Nat → Option zF) (hρ : zSh ρ) (k14 : (Int32 → Int32 → Int32 → Int32 → zH → Option (Int32 × zH))) (hk14 : ∀ l1 l2 l3 l4 h res, zRq h ρ → k14 l1 l2 l3 l4 h = some res → zwp (d + 2) zm_X11_toTell 14 [some (zr ((52, 11, 0) : zF)), some (zi l1), some (zi l2), some (zi l3), some (zi l4)] [] h (zQi ρ res)) (l1 : Int32) (l2 : Int32) (l3 : Int32) (l4 : Int32) (h : zH) (res : Int32 × zH) (hR : zRq h ρ) (e : s_X11_toTell_J32 k14 l1 l2 l3 l4 h = some res) : zwp (d + 2) zm_X11_toTell 32 [some (zr ((52, 11, 0) : zF)), some (zi l1), some (zi l2), some (zi l3), some (zi l4)] [] h (zQi ρ res) := by
  rw [s_X11_toTell_J32] at e
  refine zwp.go (m := 2) (j := 34) (ls' := [some (zr ((52, 11, 0) : zF)), some (zi l1), some (zi l2), some (zi l3), some (zi l4)]) (st' := [zi l4, zr ((52, 11, 0) : zF)]) (h' := h) rfl ?_
  refine zc_cp (d := d + 1) e (fun q e => s_X11_kindsBy_ok (d + 0) ρ hρ l4 h q hR e) rfl rfl (fun v1 e => ?_)
  refine zwp.go (m := 1) (j := 36) (ls' := [some (zr ((52, 11, 0) : zF)), some (zi l1), some (zi l2), some (zi l3), some (zi l4)]) (st' := [zi l2, zi v1]) (h' := h) rfl ?_
  refine zb_if (j := 39) (j2 := 37) e rfl (fun e => ?_) (fun e => ?_)
  · refine zwp.go (m := 2) (j := 14) (ls' := [some (zr ((52, 11, 0) : zF)), some (zi l1), some (zi l2), some (zi l3), some (zi (l4 + (1 : Int32)))]) (st' := []) (h' := h) rfl ?_
    exact hk14 l1 l2 l3 (l4 + (1 : Int32)) h _ hR e
  · refine zwp.go (m := 4) (j := 14) (ls' := [some (zr ((52, 11, 0) : zF)), some (zi l1), some (zi l2), some (zi l4), some (zi (l4 + (1 : Int32)))]) (st' := []) (h' := h) rfl ?_
    exact hk14 l1 l2 l4 (l4 + (1 : Int32)) h _ hR e
def s_X11_toTell_L14 : Nat → Int32 → Int32 → Int32 → Int32 → zH → Option (Int32 × zH)
  | 0, _, _, _, _, _ => none
  | n + 1, l1, l2, l3, l4, h => if l1 < l4 then (some (l3, h)) else (if ¬ (l4 &&& (l1 ^^^ (-1 : Int32))) = 0 then (s_X11_toTell_L14 n l1 l2 l3 (l4 + (1 : Int32)) h) else (if l3 = (-1 : Int32) then (s_X11_toTell_J32 (s_X11_toTell_L14 n) l1 l2 l3 l4 h) else ((s_X11_bitsOf l4 h).bind fun v1 => (s_X11_bitsOf l3 h).bind fun v2 => if v1 < v2 then (s_X11_toTell_J32 (s_X11_toTell_L14 n) l1 l2 l3 l4 h) else (s_X11_toTell_L14 n l1 l2 l3 (l4 + (1 : Int32)) h))))
set_option maxRecDepth 100000 in
theorem s_X11_toTell_L14_ok (d : Nat) (ρ : Nat → Nat → Option zF) (hρ : zSh ρ) : ∀ (n : Nat) (l1 : Int32) (l2 : Int32) (l3 : Int32) (l4 : Int32) (h : zH) (res : Int32 × zH) (hR : zRq h ρ) (e : s_X11_toTell_L14  n l1 l2 l3 l4 h = some res), zwp (d + 2) zm_X11_toTell 14 [some (zr ((52, 11, 0) : zF)), some (zi l1), some (zi l2), some (zi l3), some (zi l4)] [] h (zQi ρ res) := by
  intro n
  induction n with
  | zero => intro l1 l2 l3 l4 h res hR e; cases e
  | succ n ih =>
    intro l1 l2 l3 l4 h res hR e
    rw [s_X11_toTell_L14] at e
    refine zwp.go (m := 2) (j := 16) (ls' := [some (zr ((52, 11, 0) : zF)), some (zi l1), some (zi l2), some (zi l3), some (zi l4)]) (st' := [zi l1, zi l4]) (h' := h) rfl ?_
    refine zb_if (j := 41) (j2 := 17) e rfl (fun e => ?_) (fun e => ?_)
    · refine zwp.go (m := 1) (j := 42) (ls' := [some (zr ((52, 11, 0) : zF)), some (zi l1), some (zi l2), some (zi l3), some (zi l4)]) (st' := [zi l3]) (h' := h) rfl ?_
      cases e
      exact zwp.ret rfl rfl ⟨⟨rfl, rfl⟩, hR⟩
    · refine zwp.go (m := 5) (j := 22) (ls' := [some (zr ((52, 11, 0) : zF)), some (zi l1), some (zi l2), some (zi l3), some (zi l4)]) (st' := [zi (l4 &&& (l1 ^^^ (-1 : Int32)))]) (h' := h) rfl ?_
      refine zb_if (j := 39) (j2 := 23) e rfl (fun e => ?_) (fun e => ?_)
      · refine zwp.go (m := 2) (j := 14) (ls' := [some (zr ((52, 11, 0) : zF)), some (zi l1), some (zi l2), some (zi l3), some (zi (l4 + (1 : Int32)))]) (st' := []) (h' := h) rfl ?_
        exact ih l1 l2 l3 (l4 + (1 : Int32)) h _ hR e
      · refine zwp.go (m := 2) (j := 25) (ls' := [some (zr ((52, 11, 0) : zF)), some (zi l1), some (zi l2), some (zi l3), some (zi l4)]) (st' := [zi (-1 : Int32), zi l3]) (h' := h) rfl ?_
        refine zb_if (j := 32) (j2 := 26) e rfl (fun e => ?_) (fun e => ?_)
        · exact s_X11_toTell_J32_ok d ρ hρ (s_X11_toTell_L14 n) ih l1 l2 l3 l4 h _ hR e
        · refine zwp.go (m := 1) (j := 27) (ls' := [some (zr ((52, 11, 0) : zF)), some (zi l1), some (zi l2), some (zi l3), some (zi l4)]) (st' := [zi l4]) (h' := h) rfl ?_
          refine zc_cp (d := d + 1) e (fun q e => s_X11_bitsOf_ok (d + 1) ρ hρ l4 h q hR e) rfl rfl (fun v1 e => ?_)
          refine zwp.go (m := 1) (j := 29) (ls' := [some (zr ((52, 11, 0) : zF)), some (zi l1), some (zi l2), some (zi l3), some (zi l4)]) (st' := [zi l3, zi v1]) (h' := h) rfl ?_
          refine zc_cp (d := d + 1) e (fun q e => s_X11_bitsOf_ok (d + 1) ρ hρ l3 h q hR e) rfl rfl (fun v2 e => ?_)
          refine zb_if (j := 32) (j2 := 31) e rfl (fun e => ?_) (fun e => ?_)
          · exact s_X11_toTell_J32_ok d ρ hρ (s_X11_toTell_L14 n) ih l1 l2 l3 l4 h _ hR e
          · refine zwp.go (m := 3) (j := 14) (ls' := [some (zr ((52, 11, 0) : zF)), some (zi l1), some (zi l2), some (zi l3), some (zi (l4 + (1 : Int32)))]) (st' := []) (h' := h) rfl ?_
            exact ih l1 l2 l3 (l4 + (1 : Int32)) h _ hR e
def s_X11_toTell (h : zH) : Option (Int32 × zH) := zlt (zwI h 52 4 (0 : Int32)) fun h1 => (s_X11_thereNow h1).bind fun v2 => (s_X11_kindsBy v2 h1).bind fun v3 => s_X11_toTell_L14 zfu v2 v3 (-1 : Int32) (0 : Int32) h1
set_option maxRecDepth 100000 in
theorem s_X11_toTell_ok (d : Nat) (ρ : Nat → Nat → Option zF) (hρ : zSh ρ) (h : zH) (res : Int32 × zH) (hR : zRq h ρ) (e : s_X11_toTell  h = some res) : zcl (d + 2) 213 [zr ((52, 11, 0) : zF)] h (zQi ρ res) := by
  rw [s_X11_toTell] at e
  refine ⟨zm_X11_toTell, rfl, ?_⟩
  show zwp (d + 2) zm_X11_toTell 0 [some (zr ((52, 11, 0) : zF)), none, none, none, none] [] h _
  refine zwp.go (m := 2) (j := 2) (ls' := [some (zr ((52, 11, 0) : zF)), none, none, none, none]) (st' := [zi (0 : Int32), zr ((52, 11, 0) : zF)]) (h' := h) rfl ?_
  refine zc_w e rfl hR (fun h1 hR1 e => ?_)
  refine zwp.go (m := 1) (j := 4) (ls' := [some (zr ((52, 11, 0) : zF)), none, none, none, none]) (st' := [zr ((52, 11, 0) : zF)]) (h' := h1) rfl ?_
  refine zc_cp (d := d + 1) e (fun q e => s_X11_thereNow_ok (d + 0) ρ hρ h1 q hR1 e) rfl rfl (fun v2 e => ?_)
  refine zwp.go (m := 3) (j := 8) (ls' := [some (zr ((52, 11, 0) : zF)), some (zi v2), none, none, none]) (st' := [zi v2, zr ((52, 11, 0) : zF)]) (h' := h1) rfl ?_
  refine zc_cp (d := d + 1) e (fun q e => s_X11_kindsBy_ok (d + 0) ρ hρ v2 h1 q hR1 e) rfl rfl (fun v3 e => ?_)
  refine zwp.go (m := 5) (j := 14) (ls' := [some (zr ((52, 11, 0) : zF)), some (zi v2), some (zi v3), some (zi (-1 : Int32)), some (zi (0 : Int32))]) (st' := []) (h' := h1) rfl ?_
  exact s_X11_toTell_L14_ok d ρ hρ zfu v2 v3 (-1 : Int32) (0 : Int32) h1 _ hR1 e
def s_X7_mostMissed_L6 (a1 : Nat) : Nat → Int32 → Int32 → Int32 → Int32 → zH → Option (Int32)
  | 0, _, _, _, _, _ => none
  | n + 1, l2, l3, l4, l5, h => if (zI h a1 6) ≤ l5 then (some l3) else (if ¬ ((l2 >>> (l5 &&& 31)) &&& (1 : Int32)) = (1 : Int32) then (s_X7_mostMissed_L6 a1 n l2 l3 l4 (l5 + (1 : Int32)) h) else ((s_X7_kinds a1 (l2 ^^^ ((1 : Int32) <<< (l5 &&& 31))) h).bind fun v1 => if l4 ≤ v1 then (s_X7_mostMissed_L6 a1 n l2 l3 l4 (l5 + (1 : Int32)) h) else (s_X7_mostMissed_L6 a1 n l2 l5 v1 (l5 + (1 : Int32)) h)))
set_option maxRecDepth 100000 in
theorem s_X7_mostMissed_L6_ok (d : Nat) (ρ : Nat → Nat → Option zF) (hρ : zSh ρ) (a1 : Nat) (ha1 : zPlS ρ a1) : ∀ (n : Nat) (l2 : Int32) (l3 : Int32) (l4 : Int32) (l5 : Int32) (h : zH) (res : Int32) (hR : zRq h ρ) (e : s_X7_mostMissed_L6 a1 n l2 l3 l4 l5 h = some res), zwp (d + 4) zm_X7_mostMissed 6 [some (zr ((44, 7, 0) : zF)), some (zr ((a1, 3, 0) : zF)), some (zi l2), some (zi l3), some (zi l4), some (zi l5), none] [] h (zQp h res) := by
  intro n
  induction n with
  | zero => intro l2 l3 l4 l5 h res hR e; cases e
  | succ n ih =>
    intro l2 l3 l4 l5 h res hR e
    rw [s_X7_mostMissed_L6] at e
    refine zwp.go (m := 3) (j := 9) (ls' := [some (zr ((44, 7, 0) : zF)), some (zr ((a1, 3, 0) : zF)), some (zi l2), some (zi l3), some (zi l4), some (zi l5), none]) (st' := [zi (zI h a1 6), zi l5]) (h' := h) rfl ?_
    refine zb_if (j := 35) (j2 := 10) e rfl (fun e => ?_) (fun e => ?_)
    · refine zwp.go (m := 1) (j := 36) (ls' := [some (zr ((44, 7, 0) : zF)), some (zr ((a1, 3, 0) : zF)), some (zi l2), some (zi l3), some (zi l4), some (zi l5), none]) (st' := [zi l3]) (h' := h) rfl ?_
      cases e
      exact zwp.ret rfl rfl ⟨rfl, rfl⟩
    · refine zwp.go (m := 6) (j := 16) (ls' := [some (zr ((44, 7, 0) : zF)), some (zr ((a1, 3, 0) : zF)), some (zi l2), some (zi l3), some (zi l4), some (zi l5), none]) (st' := [zi (1 : Int32), zi ((l2 >>> (l5 &&& 31)) &&& (1 : Int32))]) (h' := h) rfl ?_
      refine zb_if (j := 33) (j2 := 17) e rfl (fun e => ?_) (fun e => ?_)
      · refine zwp.go (m := 2) (j := 6) (ls' := [some (zr ((44, 7, 0) : zF)), some (zr ((a1, 3, 0) : zF)), some (zi l2), some (zi l3), some (zi l4), some (zi (l5 + (1 : Int32))), none]) (st' := []) (h' := h) rfl ?_
        exact ih l2 l3 l4 (l5 + (1 : Int32)) h _ hR e
      · refine zwp.go (m := 7) (j := 24) (ls' := [some (zr ((44, 7, 0) : zF)), some (zr ((a1, 3, 0) : zF)), some (zi l2), some (zi l3), some (zi l4), some (zi l5), none]) (st' := [zi (l2 ^^^ ((1 : Int32) <<< (l5 &&& 31))), zr ((a1, 3, 0) : zF), zr ((44, 7, 0) : zF)]) (h' := h) rfl ?_
        refine zc_cp (d := d + 3) e (fun q e => s_X7_kinds_ok (d + 0) ρ hρ a1 (l2 ^^^ ((1 : Int32) <<< (l5 &&& 31))) ha1 h q hR e) rfl rfl (fun v1 e => ?_)
        refine zwp.go (m := 3) (j := 28) (ls' := [some (zr ((44, 7, 0) : zF)), some (zr ((a1, 3, 0) : zF)), some (zi l2), some (zi l3), some (zi l4), some (zi l5), some (zi v1)]) (st' := [zi l4, zi v1]) (h' := h) rfl ?_
        refine zb_if (j := 33) (j2 := 29) e rfl (fun e => ?_) (fun e => ?_)
        · refine zwp.go (m := 2) (j := 6) (ls' := [some (zr ((44, 7, 0) : zF)), some (zr ((a1, 3, 0) : zF)), some (zi l2), some (zi l3), some (zi l4), some (zi (l5 + (1 : Int32))), some (zi v1)]) (st' := []) (h' := h) rfl ?_
          refine zwp.fg (a := [some (zr ((44, 7, 0) : zF)), some (zr ((a1, 3, 0) : zF)), some (zi l2), some (zi l3), some (zi l4), some (zi (l5 + (1 : Int32))), none]) (And.intro rfl (And.intro rfl (And.intro rfl (And.intro rfl (And.intro rfl (And.intro rfl trivial)))))) ?_
          exact ih l2 l3 l4 (l5 + (1 : Int32)) h _ hR e
        · refine zwp.go (m := 6) (j := 6) (ls' := [some (zr ((44, 7, 0) : zF)), some (zr ((a1, 3, 0) : zF)), some (zi l2), some (zi l5), some (zi v1), some (zi (l5 + (1 : Int32))), some (zi v1)]) (st' := []) (h' := h) rfl ?_
          refine zwp.fg (a := [some (zr ((44, 7, 0) : zF)), some (zr ((a1, 3, 0) : zF)), some (zi l2), some (zi l5), some (zi v1), some (zi (l5 + (1 : Int32))), none]) (And.intro rfl (And.intro rfl (And.intro rfl (And.intro rfl (And.intro rfl (And.intro rfl trivial)))))) ?_
          exact ih l2 l5 v1 (l5 + (1 : Int32)) h _ hR e
def s_X7_mostMissed (a1 : Nat) (a2 : Int32) (h : zH) : Option (Int32) := s_X7_mostMissed_L6 a1 zfu a2 (-1 : Int32) (9 : Int32) (0 : Int32) h
set_option maxRecDepth 100000 in
theorem s_X7_mostMissed_ok (d : Nat) (ρ : Nat → Nat → Option zF) (hρ : zSh ρ) (a1 : Nat) (a2 : Int32) (ha1 : zPlS ρ a1) (h : zH) (res : Int32) (hR : zRq h ρ) (e : s_X7_mostMissed a1 a2 h = some res) : zcl (d + 4) 214 [zr ((44, 7, 0) : zF), zr ((a1, 3, 0) : zF), zi a2] h (zQp h res) := by
  rw [s_X7_mostMissed] at e
  refine ⟨zm_X7_mostMissed, rfl, ?_⟩
  show zwp (d + 4) zm_X7_mostMissed 0 [some (zr ((44, 7, 0) : zF)), some (zr ((a1, 3, 0) : zF)), some (zi a2), none, none, none, none] [] h _
  refine zwp.go (m := 6) (j := 6) (ls' := [some (zr ((44, 7, 0) : zF)), some (zr ((a1, 3, 0) : zF)), some (zi a2), some (zi (-1 : Int32)), some (zi (9 : Int32)), some (zi (0 : Int32)), none]) (st' := []) (h' := h) rfl ?_
  exact s_X7_mostMissed_L6_ok d ρ hρ a1 ha1 zfu a2 (-1 : Int32) (9 : Int32) (0 : Int32) h _ hR e
def s_X10_missed (pp : Nat) (h : zH) : Option (Int32) := (s_X10_aliveNow pp h).bind fun v1 => (s_X7_mostMissed pp v1 h).bind fun v2 => some v2
set_option maxRecDepth 100000 in
theorem s_X10_missed_ok (d : Nat) (ρ : Nat → Nat → Option zF) (hρ : zSh ρ) (pp : Nat) (hpp : ρ 0 3 = some (pp, 3, 0) ∧ zPlS ρ pp) (h : zH) (res : Int32) (hR : zRq h ρ) (e : s_X10_missed pp h = some res) : zcl (d + 5) 215 [zr ((0, 10, 0) : zF)] h (zQp h res) := by
  rw [s_X10_missed] at e
  refine ⟨zm_X10_missed, rfl, ?_⟩
  show zwp (d + 5) zm_X10_missed 0 [some (zr ((0, 10, 0) : zF))] [] h _
  refine zwp.go (m := 1) (j := 1) (ls' := [some (zr ((0, 10, 0) : zF))]) (st' := [zr ((0, 10, 0) : zF)]) (h' := h) rfl ?_
  refine zc_sr (r := ((44, 7, 0) : zF)) (zrf (a := 0) (y := 12) hR rfl (hρ 0 12 rfl)) rfl ?_
  refine zwp.go (m := 1) (j := 3) (ls' := [some (zr ((0, 10, 0) : zF))]) (st' := [zr ((0, 10, 0) : zF), zr ((44, 7, 0) : zF)]) (h' := h) rfl ?_
  refine zc_sr (r := ((pp, 3, 0) : zF)) (zrf (a := 0) (y := 3) hR rfl hpp.1) rfl ?_
  refine zwp.go (m := 1) (j := 5) (ls' := [some (zr ((0, 10, 0) : zF))]) (st' := [zr ((0, 10, 0) : zF), zr ((pp, 3, 0) : zF), zr ((44, 7, 0) : zF)]) (h' := h) rfl ?_
  refine zc_cp (d := d + 4) e (fun q e => s_X10_aliveNow_ok (d + 3) ρ hρ pp hpp h q hR e) rfl rfl (fun v1 e => ?_)
  refine zc_cp (d := d + 4) e (fun q e => s_X7_mostMissed_ok (d + 0) ρ hρ pp v1 hpp.2 h q hR e) rfl rfl (fun v2 e => ?_)
  cases e
  exact zwp.ret rfl rfl ⟨rfl, rfl⟩
def s_X11_missed_J33 (k12 : (Int32 → Int32 → Int32 → Int32 → zH → Option (Int32 × zH))) (l1 : Int32) (l2 : Int32) (l3 : Int32) (l4 : Int32) (s0 : Int32) (h : zH) : Option (Int32 × zH) := if s0 < l3 then (k12 l1 l4 s0 (l4 + (1 : Int32)) h) else (k12 l1 l2 l3 (l4 + (1 : Int32)) h)
set_option maxRecDepth 100000 in
theorem s_X11_missed_J33_ok (d : Nat) (ρ : Nat → Nat → Option zF) (hρ : zSh ρ) (k12 : (Int32 → Int32 → Int32 → Int32 → zH → Option (Int32 × zH))) (hk12 : ∀ l1 l2 l3 l4 h res, zRq h ρ → k12 l1 l2 l3 l4 h = some res → zwp (d + 2) zm_X11_missed 12 [some (zr ((52, 11, 0) : zF)), some (zi l1), some (zi l2), some (zi l3), some (zi l4), none] [] h (zQi ρ res)) (l1 : Int32) (l2 : Int32) (l3 : Int32) (l4 : Int32) (s0 : Int32) (h : zH) (res : Int32 × zH) (hR : zRq h ρ) (e : s_X11_missed_J33 k12 l1 l2 l3 l4 s0 h = some res) : zwp (d + 2) zm_X11_missed 33 [some (zr ((52, 11, 0) : zF)), some (zi l1), some (zi l2), some (zi l3), some (zi l4), none] [zi s0] h (zQi ρ res) := by
  rw [s_X11_missed_J33] at e
  refine zwp.go (m := 3) (j := 36) (ls' := [some (zr ((52, 11, 0) : zF)), some (zi l1), some (zi l2), some (zi l3), some (zi l4), some (zi s0)]) (st' := [zi l3, zi s0]) (h' := h) rfl ?_
  refine zb_if (j := 38) (j2 := 37) e rfl (fun e => ?_) (fun e => ?_)
  · refine zwp.go (m := 6) (j := 12) (ls' := [some (zr ((52, 11, 0) : zF)), some (zi l1), some (zi l4), some (zi s0), some (zi (l4 + (1 : Int32))), some (zi s0)]) (st' := []) (h' := h) rfl ?_
    refine zwp.fg (a := [some (zr ((52, 11, 0) : zF)), some (zi l1), some (zi l4), some (zi s0), some (zi (l4 + (1 : Int32))), none]) (And.intro rfl (And.intro rfl (And.intro rfl (And.intro rfl (And.intro rfl trivial))))) ?_
    exact hk12 l1 l4 s0 (l4 + (1 : Int32)) h _ hR e
  · refine zwp.go (m := 3) (j := 12) (ls' := [some (zr ((52, 11, 0) : zF)), some (zi l1), some (zi l2), some (zi l3), some (zi (l4 + (1 : Int32))), some (zi s0)]) (st' := []) (h' := h) rfl ?_
    refine zwp.fg (a := [some (zr ((52, 11, 0) : zF)), some (zi l1), some (zi l2), some (zi l3), some (zi (l4 + (1 : Int32))), none]) (And.intro rfl (And.intro rfl (And.intro rfl (And.intro rfl (And.intro rfl trivial))))) ?_
    exact hk12 l1 l2 l3 (l4 + (1 : Int32)) h _ hR e
def s_X11_missed_L12 : Nat → Int32 → Int32 → Int32 → Int32 → zH → Option (Int32 × zH)
  | 0, _, _, _, _, _ => none
  | n + 1, l1, l2, l3, l4, h => if (zI h 56 0) ≤ l4 then (some (l2, h)) else ((s_X11_isOf l1 l4 h).bind fun v1 => if v1 = 0 then (s_X11_missed_J33 (s_X11_missed_L12 n) l1 l2 l3 l4 (1000 : Int32) h) else ((s_X11_kindsBy (l1 &&& (((1 : Int32) <<< (l4 &&& 31)) ^^^ (-1 : Int32))) h).bind fun v2 => s_X11_missed_J33 (s_X11_missed_L12 n) l1 l2 l3 l4 v2 h))
set_option maxRecDepth 100000 in
theorem s_X11_missed_L12_ok (d : Nat) (ρ : Nat → Nat → Option zF) (hρ : zSh ρ) : ∀ (n : Nat) (l1 : Int32) (l2 : Int32) (l3 : Int32) (l4 : Int32) (h : zH) (res : Int32 × zH) (hR : zRq h ρ) (e : s_X11_missed_L12  n l1 l2 l3 l4 h = some res), zwp (d + 2) zm_X11_missed 12 [some (zr ((52, 11, 0) : zF)), some (zi l1), some (zi l2), some (zi l3), some (zi l4), none] [] h (zQi ρ res) := by
  intro n
  induction n with
  | zero => intro l1 l2 l3 l4 h res hR e; cases e
  | succ n ih =>
    intro l1 l2 l3 l4 h res hR e
    rw [s_X11_missed_L12] at e
    refine zwp.go (m := 2) (j := 14) (ls' := [some (zr ((52, 11, 0) : zF)), some (zi l1), some (zi l2), some (zi l3), some (zi l4), none]) (st' := [zr ((52, 11, 0) : zF), zi l4]) (h' := h) rfl ?_
    refine zc_sr (r := ((56, 20, 12) : zF)) (zrf (a := 52) (y := 5) hR rfl (hρ 52 5 rfl)) rfl ?_
    refine zwp.go (m := 2) (j := 17) (ls' := [some (zr ((52, 11, 0) : zF)), some (zi l1), some (zi l2), some (zi l3), some (zi l4), none]) (st' := [zi (zI h 56 0), zi l4]) (h' := h) rfl ?_
    refine zb_if (j := 44) (j2 := 18) e rfl (fun e => ?_) (fun e => ?_)
    · refine zwp.go (m := 1) (j := 45) (ls' := [some (zr ((52, 11, 0) : zF)), some (zi l1), some (zi l2), some (zi l3), some (zi l4), none]) (st' := [zi l2]) (h' := h) rfl ?_
      cases e
      exact zwp.ret rfl rfl ⟨⟨rfl, rfl⟩, hR⟩
    · refine zwp.go (m := 2) (j := 20) (ls' := [some (zr ((52, 11, 0) : zF)), some (zi l1), some (zi l2), some (zi l3), some (zi l4), none]) (st' := [zi l4, zi l1]) (h' := h) rfl ?_
      refine zc_cp (d := d + 1) e (fun q e => s_X11_isOf_ok (d + 1) ρ hρ l1 l4 h q hR e) rfl rfl (fun v1 e => ?_)
      refine zb_if (j := 32) (j2 := 22) e rfl (fun e => ?_) (fun e => ?_)
      · refine zwp.go (m := 1) (j := 33) (ls' := [some (zr ((52, 11, 0) : zF)), some (zi l1), some (zi l2), some (zi l3), some (zi l4), none]) (st' := [zi (1000 : Int32)]) (h' := h) rfl ?_
        exact s_X11_missed_J33_ok d ρ hρ (s_X11_missed_L12 n) ih l1 l2 l3 l4 (1000 : Int32) h _ hR e
      · refine zwp.go (m := 8) (j := 30) (ls' := [some (zr ((52, 11, 0) : zF)), some (zi l1), some (zi l2), some (zi l3), some (zi l4), none]) (st' := [zi (l1 &&& (((1 : Int32) <<< (l4 &&& 31)) ^^^ (-1 : Int32))), zr ((52, 11, 0) : zF)]) (h' := h) rfl ?_
        refine zc_cp (d := d + 1) e (fun q e => s_X11_kindsBy_ok (d + 0) ρ hρ (l1 &&& (((1 : Int32) <<< (l4 &&& 31)) ^^^ (-1 : Int32))) h q hR e) rfl rfl (fun v2 e => ?_)
        refine zwp.go (m := 1) (j := 33) (ls' := [some (zr ((52, 11, 0) : zF)), some (zi l1), some (zi l2), some (zi l3), some (zi l4), none]) (st' := [zi v2]) (h' := h) rfl ?_
        exact s_X11_missed_J33_ok d ρ hρ (s_X11_missed_L12 n) ih l1 l2 l3 l4 v2 h _ hR e
def s_X11_missed (h : zH) : Option (Int32 × zH) := zlt (zwI h 52 4 (0 : Int32)) fun h1 => (s_X11_thereNow h1).bind fun v2 => s_X11_missed_L12 zfu v2 (-1 : Int32) (1000 : Int32) (0 : Int32) h1
set_option maxRecDepth 100000 in
theorem s_X11_missed_ok (d : Nat) (ρ : Nat → Nat → Option zF) (hρ : zSh ρ) (h : zH) (res : Int32 × zH) (hR : zRq h ρ) (e : s_X11_missed  h = some res) : zcl (d + 2) 216 [zr ((52, 11, 0) : zF)] h (zQi ρ res) := by
  rw [s_X11_missed] at e
  refine ⟨zm_X11_missed, rfl, ?_⟩
  show zwp (d + 2) zm_X11_missed 0 [some (zr ((52, 11, 0) : zF)), none, none, none, none, none] [] h _
  refine zwp.go (m := 2) (j := 2) (ls' := [some (zr ((52, 11, 0) : zF)), none, none, none, none, none]) (st' := [zi (0 : Int32), zr ((52, 11, 0) : zF)]) (h' := h) rfl ?_
  refine zc_w e rfl hR (fun h1 hR1 e => ?_)
  refine zwp.go (m := 1) (j := 4) (ls' := [some (zr ((52, 11, 0) : zF)), none, none, none, none, none]) (st' := [zr ((52, 11, 0) : zF)]) (h' := h1) rfl ?_
  refine zc_cp (d := d + 1) e (fun q e => s_X11_thereNow_ok (d + 0) ρ hρ h1 q hR1 e) rfl rfl (fun v2 e => ?_)
  refine zwp.go (m := 7) (j := 12) (ls' := [some (zr ((52, 11, 0) : zF)), some (zi v2), some (zi (-1 : Int32)), some (zi (1000 : Int32)), some (zi (0 : Int32)), none]) (st' := []) (h' := h1) rfl ?_
  exact s_X11_missed_L12_ok d ρ hρ zfu v2 (-1 : Int32) (1000 : Int32) (0 : Int32) h1 _ hR1 e
def s_X10_between (pp : Nat) (a1 : Int32) (a2 : Int32) (h : zH) : Option ((Int32 ⊕ Nat) × zH) := zbx (s_X10_needVerse pp a1 h) (fun _ h2 => zbx (s_X10_needVerse pp a2 h2) (fun _ h4 => (s_X10_aliveNow pp h4).bind fun v5 => (s_X7_turns pp v5 a1 a2 h4).bind fun v6 => some (Sum.inl v6, h4)) (fun x h3 => some (Sum.inr x, h3))) (fun x h1 => some (Sum.inr x, h1))
set_option maxRecDepth 100000 in
theorem s_X10_between_ok (d : Nat) (ρ : Nat → Nat → Option zF) (hρ : zSh ρ) (pp : Nat) (a1 : Int32) (a2 : Int32) (hpp : ρ 0 3 = some (pp, 3, 0) ∧ zPlS ρ pp) (h : zH) (res : (Int32 ⊕ Nat) × zH) (hR : zRq h ρ) (e : s_X10_between pp a1 a2 h = some res) : zcl (d + 2) 217 [zr ((0, 10, 0) : zF), zi a1, zi a2] h (zQx ρ res) := by
  rw [s_X10_between] at e
  refine ⟨zm_X10_between, rfl, ?_⟩
  show zwp (d + 2) zm_X10_between 0 [some (zr ((0, 10, 0) : zF)), some (zi a1), some (zi a2)] [] h _
  refine zwp.go (m := 2) (j := 2) (ls' := [some (zr ((0, 10, 0) : zF)), some (zi a1), some (zi a2)]) (st' := [zi a1, zr ((0, 10, 0) : zF)]) (h' := h) rfl ?_
  refine zc_cu (d := d + 1) e (fun q e => s_X10_needVerse_ok (d + 1) ρ hρ pp a1 hpp h q hR e) rfl rfl (fun h2 hR2 e => ?_) (fun x h1 hR1 e => ?_)
  · refine zwp.go (m := 2) (j := 5) (ls' := [some (zr ((0, 10, 0) : zF)), some (zi a1), some (zi a2)]) (st' := [zi a2, zr ((0, 10, 0) : zF)]) (h' := h2) rfl ?_
    refine zc_cu (d := d + 1) e (fun q e => s_X10_needVerse_ok (d + 1) ρ hρ pp a2 hpp h2 q hR2 e) rfl rfl (fun h4 hR4 e => ?_) (fun x h3 hR3 e => ?_)
    · refine zwp.go (m := 1) (j := 7) (ls' := [some (zr ((0, 10, 0) : zF)), some (zi a1), some (zi a2)]) (st' := [zr ((0, 10, 0) : zF)]) (h' := h4) rfl ?_
      refine zc_sr (r := ((44, 7, 0) : zF)) (zrf (a := 0) (y := 12) hR4 rfl (hρ 0 12 rfl)) rfl ?_
      refine zwp.go (m := 1) (j := 9) (ls' := [some (zr ((0, 10, 0) : zF)), some (zi a1), some (zi a2)]) (st' := [zr ((0, 10, 0) : zF), zr ((44, 7, 0) : zF)]) (h' := h4) rfl ?_
      refine zc_sr (r := ((pp, 3, 0) : zF)) (zrf (a := 0) (y := 3) hR4 rfl hpp.1) rfl ?_
      refine zwp.go (m := 1) (j := 11) (ls' := [some (zr ((0, 10, 0) : zF)), some (zi a1), some (zi a2)]) (st' := [zr ((0, 10, 0) : zF), zr ((pp, 3, 0) : zF), zr ((44, 7, 0) : zF)]) (h' := h4) rfl ?_
      refine zc_cp (d := d + 1) e (fun q e => s_X10_aliveNow_ok (d + 0) ρ hρ pp hpp h4 q hR4 e) rfl rfl (fun v5 e => ?_)
      refine zwp.go (m := 2) (j := 14) (ls' := [some (zr ((0, 10, 0) : zF)), some (zi a1), some (zi a2)]) (st' := [zi a2, zi a1, zi v5, zr ((pp, 3, 0) : zF), zr ((44, 7, 0) : zF)]) (h' := h4) rfl ?_
      refine zc_cp (d := d + 1) e (fun q e => s_X7_turns_ok (d + 0) ρ hρ pp v5 a1 a2 hpp.2 h4 q hR4 e) rfl rfl (fun v6 e => ?_)
      cases e
      exact zwp.ret rfl rfl ⟨⟨rfl, rfl⟩, hR4⟩
    · cases e
      exact ⟨rfl, ⟨⟨rfl, rfl⟩, hR3⟩⟩
  · cases e
    exact ⟨rfl, ⟨⟨rfl, rfl⟩, hR1⟩⟩
def s_L_between (pp : Nat) (a1 : Int32) (a2 : Int32) (a3 n3 : Nat) (h : zH) : Option (Int32 × zH) := zbx (s_X10_between pp a1 a2 h) (fun v3 h2 => zix (0 : Int32) n3 fun i5 => zlt (zwL h2 a3 i5 v3.toInt64) fun h4 => some ((0 : Int32), h4)) (fun x h1 => if x = 1 then (some ((1 : Int32), h1)) else none)
set_option maxRecDepth 100000 in
theorem s_L_between_ok (d : Nat) (ρ : Nat → Nat → Option zF) (hρ : zSh ρ) (pp : Nat) (a1 : Int32) (a2 : Int32) (a3 n3 : Nat) (hpp : ρ 0 3 = some (pp, 3, 0) ∧ zPlS ρ pp) (h : zH) (res : Int32 × zH) (hR : zRq h ρ) (e : s_L_between pp a1 a2 a3 n3 h = some res) : zcl (d + 3) 218 [zr ((0, 10, 0) : zF), zi a1, zi a2, zr ((a3, 23, n3) : zF)] h (zQi ρ res) := by
  rw [s_L_between] at e
  refine ⟨zm_L_between, rfl, ?_⟩
  show zwp (d + 3) zm_L_between 0 [some (zr ((0, 10, 0) : zF)), some (zi a1), some (zi a2), some (zr ((a3, 23, n3) : zF)), none] [] h _
  refine zwp.go (m := 5) (j := 5) (ls' := [some (zr ((0, 10, 0) : zF)), some (zi a1), some (zi a2), some (zr ((a3, 23, n3) : zF)), none]) (st' := [zi a2, zi a1, zr ((0, 10, 0) : zF), zi (0 : Int32), zr ((a3, 23, n3) : zF)]) (h' := h) rfl ?_
  refine zc_cx (d := d + 2) e (fun q e => s_X10_between_ok (d + 0) ρ hρ pp a1 a2 hpp h q hR e) rfl rfl (fun v3 h2 hR2 e => ?_) (fun x h1 hR1 e => ?_)
  · refine zwp.go (m := 1) (j := 7) (ls' := [some (zr ((0, 10, 0) : zF)), some (zi a1), some (zi a2), some (zr ((a3, 23, n3) : zF)), none]) (st' := [zl v3.toInt64, zi (0 : Int32), zr ((a3, 23, n3) : zF)]) (h' := h2) rfl ?_
    refine zc_sl e (fun _ => rfl) hR2 (fun h4 hR4 e => ?_)
    refine zwp.go (m := 2) (j := 13) (ls' := [some (zr ((0, 10, 0) : zF)), some (zi a1), some (zi a2), some (zr ((a3, 23, n3) : zF)), none]) (st' := [zi (0 : Int32)]) (h' := h4) rfl ?_
    cases e
    exact zwp.ret rfl rfl ⟨⟨rfl, rfl⟩, hR4⟩
  · by_cases q1 : x = 1
    · subst q1
      replace e : (some ((1 : Int32), h1)) = some res := by simpa using e
      show zwp _ _ 10 [some (zr ((0, 10, 0) : zF)), some (zi a1), some (zi a2), some (zr ((a3, 23, n3) : zF)), none] [] _ _
      refine zwp.go (m := 1) (j := 11) (ls' := [some (zr ((0, 10, 0) : zF)), some (zi a1), some (zi a2), some (zr ((a3, 23, n3) : zF)), none]) (st' := [zi (1 : Int32)]) (h' := h1) rfl ?_
      cases e
      exact zwp.ret rfl rfl ⟨⟨rfl, rfl⟩, hR1⟩
    · skip
      simp [q1] at e
def s_X11_turns (a1 : Int32) (a2 : Int32) (h : zH) : Option (Int32) := (s_X11_throwNow a1 h).bind fun v1 => (s_X11_throwNow a2 h).bind fun v2 => (s_X11_bitsOf (v1 ^^^ v2) h).bind fun v3 => some v3
set_option maxRecDepth 100000 in
theorem s_X11_turns_ok (d : Nat) (ρ : Nat → Nat → Option zF) (hρ : zSh ρ) (a1 : Int32) (a2 : Int32) (h : zH) (res : Int32) (hR : zRq h ρ) (e : s_X11_turns a1 a2 h = some res) : zcl (d + 2) 219 [zr ((52, 11, 0) : zF), zi a1, zi a2] h (zQp h res) := by
  rw [s_X11_turns] at e
  refine ⟨zm_X11_turns, rfl, ?_⟩
  show zwp (d + 2) zm_X11_turns 0 [some (zr ((52, 11, 0) : zF)), some (zi a1), some (zi a2)] [] h _
  refine zwp.go (m := 2) (j := 2) (ls' := [some (zr ((52, 11, 0) : zF)), some (zi a1), some (zi a2)]) (st' := [zi a1, zr ((52, 11, 0) : zF)]) (h' := h) rfl ?_
  refine zc_cp (d := d + 1) e (fun q e => s_X11_throwNow_ok (d + 0) ρ hρ a1 h q hR e) rfl rfl (fun v1 e => ?_)
  refine zwp.go (m := 2) (j := 5) (ls' := [some (zr ((52, 11, 0) : zF)), some (zi a1), some (zi a2)]) (st' := [zi a2, zr ((52, 11, 0) : zF), zi v1]) (h' := h) rfl ?_
  refine zc_cp (d := d + 1) e (fun q e => s_X11_throwNow_ok (d + 0) ρ hρ a2 h q hR e) rfl rfl (fun v2 e => ?_)
  refine zwp.go (m := 1) (j := 7) (ls' := [some (zr ((52, 11, 0) : zF)), some (zi a1), some (zi a2)]) (st' := [zi (v1 ^^^ v2)]) (h' := h) rfl ?_
  refine zc_cp (d := d + 1) e (fun q e => s_X11_bitsOf_ok (d + 1) ρ hρ (v1 ^^^ v2) h q hR e) rfl rfl (fun v3 e => ?_)
  cases e
  exact zwp.ret rfl rfl ⟨rfl, rfl⟩
def s_X11_between_J16 (h : zH) : Option (Int32 × zH) := zbd (s_X11_fail (1 : Int32) h) fun v2 h1 => some (v2, h1)
set_option maxRecDepth 100000 in
theorem s_X11_between_J16_ok (d : Nat) (ρ : Nat → Nat → Option zF) (hρ : zSh ρ) (h : zH) (res : Int32 × zH) (hR : zRq h ρ) (e : s_X11_between_J16   h = some res) : zwp (d + 3) zm_X11_between 16 [some (zr ((52, 11, 0) : zF)), none, none] [] h (zQi ρ res) := by
  rw [s_X11_between_J16] at e
  refine zwp.go (m := 2) (j := 18) (ls' := [some (zr ((52, 11, 0) : zF)), none, none]) (st' := [zi (1 : Int32), zr ((52, 11, 0) : zF)]) (h' := h) rfl ?_
  refine zc_ci (d := d + 2) e (fun q e => s_X11_fail_ok (d + 2) ρ hρ (1 : Int32) h q hR e) rfl rfl (fun v2 h1 hR1 e => ?_)
  cases e
  exact zwp.ret rfl rfl ⟨⟨rfl, rfl⟩, hR1⟩
def s_X11_between (a1 : Int32) (a2 : Int32) (h : zH) : Option (Int32 × zH) := zlt (zwI h 52 4 (0 : Int32)) fun h1 => (s_X11_isVerse a1 h1).bind fun v2 => if v2 = 0 then (s_X11_between_J16 h1) else ((s_X11_isVerse a2 h1).bind fun v3 => if v3 = 0 then (s_X11_between_J16 h1) else ((s_X11_turns a1 a2 h1).bind fun v4 => some (v4, h1)))
set_option maxRecDepth 100000 in
theorem s_X11_between_ok (d : Nat) (ρ : Nat → Nat → Option zF) (hρ : zSh ρ) (a1 : Int32) (a2 : Int32) (h : zH) (res : Int32 × zH) (hR : zRq h ρ) (e : s_X11_between a1 a2 h = some res) : zcl (d + 3) 220 [zr ((52, 11, 0) : zF), zi a1, zi a2] h (zQi ρ res) := by
  rw [s_X11_between] at e
  refine ⟨zm_X11_between, rfl, ?_⟩
  show zwp (d + 3) zm_X11_between 0 [some (zr ((52, 11, 0) : zF)), some (zi a1), some (zi a2)] [] h _
  refine zwp.go (m := 2) (j := 2) (ls' := [some (zr ((52, 11, 0) : zF)), some (zi a1), some (zi a2)]) (st' := [zi (0 : Int32), zr ((52, 11, 0) : zF)]) (h' := h) rfl ?_
  refine zc_w e rfl hR (fun h1 hR1 e => ?_)
  refine zwp.go (m := 2) (j := 5) (ls' := [some (zr ((52, 11, 0) : zF)), some (zi a1), some (zi a2)]) (st' := [zi a1, zr ((52, 11, 0) : zF)]) (h' := h1) rfl ?_
  refine zc_cp (d := d + 2) e (fun q e => s_X11_isVerse_ok (d + 1) ρ hρ a1 h1 q hR1 e) rfl rfl (fun v2 e => ?_)
  refine zb_if (j := 16) (j2 := 7) e rfl (fun e => ?_) (fun e => ?_)
  · refine zwp.fg (a := [some (zr ((52, 11, 0) : zF)), none, none]) (And.intro rfl trivial) ?_
    exact s_X11_between_J16_ok d ρ hρ h1 _ hR1 e
  · refine zwp.go (m := 2) (j := 9) (ls' := [some (zr ((52, 11, 0) : zF)), some (zi a1), some (zi a2)]) (st' := [zi a2, zr ((52, 11, 0) : zF)]) (h' := h1) rfl ?_
    refine zc_cp (d := d + 2) e (fun q e => s_X11_isVerse_ok (d + 1) ρ hρ a2 h1 q hR1 e) rfl rfl (fun v3 e => ?_)
    refine zb_if (j := 16) (j2 := 11) e rfl (fun e => ?_) (fun e => ?_)
    · refine zwp.fg (a := [some (zr ((52, 11, 0) : zF)), none, none]) (And.intro rfl trivial) ?_
      exact s_X11_between_J16_ok d ρ hρ h1 _ hR1 e
    · refine zwp.go (m := 3) (j := 14) (ls' := [some (zr ((52, 11, 0) : zF)), some (zi a1), some (zi a2)]) (st' := [zi a2, zi a1, zr ((52, 11, 0) : zF)]) (h' := h1) rfl ?_
      refine zc_cp (d := d + 2) e (fun q e => s_X11_turns_ok (d + 0) ρ hρ a1 a2 h1 q hR1 e) rfl rfl (fun v4 e => ?_)
      refine zwp.go (m := 1) (j := 19) (ls' := [some (zr ((52, 11, 0) : zF)), some (zi a1), some (zi a2)]) (st' := [zi v4]) (h' := h1) rfl ?_
      cases e
      exact zwp.ret rfl rfl ⟨⟨rfl, rfl⟩, hR1⟩
def s_X7_extendOrder_J12 (rx : Nat → Int32 → Int32 → Int32 → Int32 → zH → Option (zH)) (a1 : Nat) (l5 : Int32) (h : zH) : Option (zH) := zlt (zwI h 44 2 l5) fun h1 => zcq 45 8 (0 : Int32) 46 8 (0 : Int32) (8 : Int32) h1 fun h2 => some h2
set_option maxRecDepth 100000 in
theorem s_X7_extendOrder_J12_ok (d : Nat) (ρ : Nat → Nat → Option zF) (hρ : zSh ρ) (rx : Nat → Int32 → Int32 → Int32 → Int32 → zH → Option (zH)) (a1 : Nat) (ha1 : zPlS ρ a1) (hrx : ∀ a1 a2 a3 a4 a5 h res, zPlS ρ a1 → zRq h ρ → rx a1 a2 a3 a4 a5  h = some res → zcl d 221 [zr ((44, 7, 0) : zF), zr ((a1, 3, 0) : zF), zi a2, zi a3, zi a4, zi a5] h (zQv ρ res)) (l5 : Int32) (h : zH) (res : zH) (hR : zRq h ρ) (e : s_X7_extendOrder_J12 rx a1 l5 h = some res) : zwp (d + 2) zm_X7_extendOrder 12 [some (zr ((44, 7, 0) : zF)), none, none, none, none, some (zi l5), none, none] [] h (zQv ρ res) := by
  rw [s_X7_extendOrder_J12] at e
  refine zwp.go (m := 2) (j := 14) (ls' := [some (zr ((44, 7, 0) : zF)), none, none, none, none, some (zi l5), none, none]) (st' := [zi l5, zr ((44, 7, 0) : zF)]) (h' := h) rfl ?_
  refine zc_w e rfl hR (fun h1 hR1 e => ?_)
  refine zwp.go (m := 1) (j := 16) (ls' := [some (zr ((44, 7, 0) : zF)), none, none, none, none, some (zi l5), none, none]) (st' := [zr ((44, 7, 0) : zF)]) (h' := h1) rfl ?_
  refine zc_sr (r := ((45, 20, 8) : zF)) (zrf (a := 44) (y := 0) hR1 rfl (hρ 44 0 rfl)) rfl ?_
  refine zwp.go (m := 2) (j := 19) (ls' := [some (zr ((44, 7, 0) : zF)), none, none, none, none, some (zi l5), none, none]) (st' := [zr ((44, 7, 0) : zF), zi (0 : Int32), zr ((45, 20, 8) : zF)]) (h' := h1) rfl ?_
  refine zc_sr (r := ((46, 20, 8) : zF)) (zrf (a := 44) (y := 1) hR1 rfl (hρ 44 1 rfl)) rfl ?_
  refine zwp.go (m := 2) (j := 22) (ls' := [some (zr ((44, 7, 0) : zF)), none, none, none, none, some (zi l5), none, none]) (st' := [zi (8 : Int32), zi (0 : Int32), zr ((46, 20, 8) : zF), zi (0 : Int32), zr ((45, 20, 8) : zF)]) (h' := h1) rfl ?_
  refine zc_cq e rfl rfl hR1 (fun h2 hR2 e => ?_)
  cases e
  exact zwp.rv rfl ⟨⟨rfl, rfl⟩, hR2⟩
def s_X7_extendOrder_L26 (rx : Nat → Int32 → Int32 → Int32 → Int32 → zH → Option (zH)) (a1 : Nat) : Nat → Int32 → Int32 → Int32 → Int32 → Int32 → zH → Option (zH)
  | 0, _, _, _, _, _, _ => none
  | n + 1, l2, l3, l4, l5, l6, h => if (zI h a1 8) ≤ l6 then (some h) else (if ¬ ((l4 >>> (l6 &&& 31)) &&& (1 : Int32)) = 0 then (s_X7_extendOrder_L26 rx a1 n l2 l3 l4 l5 (l6 + (1 : Int32)) h) else (zix l3 8 fun i5 => zlt (zwI h 45 i5 l6) fun h1 => zix (l3 - (1 : Int32)) 8 fun i2 => (s_X7_turns a1 l2 (zI h1 45 i2) l6 h1).bind fun v3 => (rx a1 l2 (l3 + (1 : Int32)) (l4 ||| ((1 : Int32) <<< (l6 &&& 31))) (l5 + v3) h1).bind fun h4 => s_X7_extendOrder_L26 rx a1 n l2 l3 l4 l5 (l6 + (1 : Int32)) h4))
set_option maxRecDepth 100000 in
theorem s_X7_extendOrder_L26_ok (d : Nat) (ρ : Nat → Nat → Option zF) (hρ : zSh ρ) (rx : Nat → Int32 → Int32 → Int32 → Int32 → zH → Option (zH)) (a1 : Nat) (ha1 : zPlS ρ a1) (hrx : ∀ a1 a2 a3 a4 a5 h res, zPlS ρ a1 → zRq h ρ → rx a1 a2 a3 a4 a5  h = some res → zcl d 221 [zr ((44, 7, 0) : zF), zr ((a1, 3, 0) : zF), zi a2, zi a3, zi a4, zi a5] h (zQv ρ res)) : ∀ (n : Nat) (l2 : Int32) (l3 : Int32) (l4 : Int32) (l5 : Int32) (l6 : Int32) (h : zH) (res : zH) (hR : zRq h ρ) (e : s_X7_extendOrder_L26 rx a1 n l2 l3 l4 l5 l6 h = some res), zwp (d + 2) zm_X7_extendOrder 26 [some (zr ((44, 7, 0) : zF)), some (zr ((a1, 3, 0) : zF)), some (zi l2), some (zi l3), some (zi l4), some (zi l5), some (zi l6), none] [] h (zQv ρ res) := by
  intro n
  induction n with
  | zero => intro l2 l3 l4 l5 l6 h res hR e; cases e
  | succ n ih =>
    intro l2 l3 l4 l5 l6 h res hR e
    rw [s_X7_extendOrder_L26] at e
    refine zwp.go (m := 3) (j := 29) (ls' := [some (zr ((44, 7, 0) : zF)), some (zr ((a1, 3, 0) : zF)), some (zi l2), some (zi l3), some (zi l4), some (zi l5), some (zi l6), none]) (st' := [zi (zI h a1 8), zi l6]) (h' := h) rfl ?_
    refine zb_if (j := 70) (j2 := 30) e rfl (fun e => ?_) (fun e => ?_)
    · cases e
      exact zwp.rv rfl ⟨⟨rfl, rfl⟩, hR⟩
    · refine zwp.go (m := 5) (j := 35) (ls' := [some (zr ((44, 7, 0) : zF)), some (zr ((a1, 3, 0) : zF)), some (zi l2), some (zi l3), some (zi l4), some (zi l5), some (zi l6), none]) (st' := [zi ((l4 >>> (l6 &&& 31)) &&& (1 : Int32))]) (h' := h) rfl ?_
      refine zb_if (j := 68) (j2 := 36) e rfl (fun e => ?_) (fun e => ?_)
      · refine zwp.go (m := 2) (j := 26) (ls' := [some (zr ((44, 7, 0) : zF)), some (zr ((a1, 3, 0) : zF)), some (zi l2), some (zi l3), some (zi l4), some (zi l5), some (zi (l6 + (1 : Int32))), none]) (st' := []) (h' := h) rfl ?_
        exact ih l2 l3 l4 l5 (l6 + (1 : Int32)) h _ hR e
      · refine zwp.go (m := 1) (j := 37) (ls' := [some (zr ((44, 7, 0) : zF)), some (zr ((a1, 3, 0) : zF)), some (zi l2), some (zi l3), some (zi l4), some (zi l5), some (zi l6), none]) (st' := [zr ((44, 7, 0) : zF)]) (h' := h) rfl ?_
        refine zc_sr (r := ((45, 20, 8) : zF)) (zrf (a := 44) (y := 0) hR rfl (hρ 44 0 rfl)) rfl ?_
        refine zwp.go (m := 2) (j := 40) (ls' := [some (zr ((44, 7, 0) : zF)), some (zr ((a1, 3, 0) : zF)), some (zi l2), some (zi l3), some (zi l4), some (zi l5), some (zi l6), none]) (st' := [zi l6, zi l3, zr ((45, 20, 8) : zF)]) (h' := h) rfl ?_
        refine zc_si e (fun _ => rfl) hR (fun h1 hR1 e => ?_)
        refine zwp.go (m := 4) (j := 45) (ls' := [some (zr ((44, 7, 0) : zF)), some (zr ((a1, 3, 0) : zF)), some (zi l2), some (zi l3), some (zi l4), some (zi l5), some (zi l6), none]) (st' := [zr ((44, 7, 0) : zF), zi l2, zr ((a1, 3, 0) : zF), zr ((44, 7, 0) : zF)]) (h' := h1) rfl ?_
        refine zc_sr (r := ((45, 20, 8) : zF)) (zrf (a := 44) (y := 0) hR1 rfl (hρ 44 0 rfl)) rfl ?_
        refine zwp.go (m := 3) (j := 49) (ls' := [some (zr ((44, 7, 0) : zF)), some (zr ((a1, 3, 0) : zF)), some (zi l2), some (zi l3), some (zi l4), some (zi l5), some (zi l6), none]) (st' := [zi (l3 - (1 : Int32)), zr ((45, 20, 8) : zF), zi l2, zr ((a1, 3, 0) : zF), zr ((44, 7, 0) : zF)]) (h' := h1) rfl ?_
        refine zc_ai e (fun _ => rfl) (fun i2 e => ?_)
        refine zwp.go (m := 1) (j := 51) (ls' := [some (zr ((44, 7, 0) : zF)), some (zr ((a1, 3, 0) : zF)), some (zi l2), some (zi l3), some (zi l4), some (zi l5), some (zi l6), none]) (st' := [zi l6, zi (zI h1 45 i2), zi l2, zr ((a1, 3, 0) : zF), zr ((44, 7, 0) : zF)]) (h' := h1) rfl ?_
        refine zc_cp (d := d + 1) e (fun q e => s_X7_turns_ok (d + 0) ρ hρ a1 l2 (zI h1 45 i2) l6 ha1 h1 q hR1 e) rfl rfl (fun v3 e => ?_)
        refine zwp.go (m := 15) (j := 67) (ls' := [some (zr ((44, 7, 0) : zF)), some (zr ((a1, 3, 0) : zF)), some (zi l2), some (zi l3), some (zi l4), some (zi l5), some (zi l6), some (zi v3)]) (st' := [zi (l5 + v3), zi (l4 ||| ((1 : Int32) <<< (l6 &&& 31))), zi (l3 + (1 : Int32)), zi l2, zr ((a1, 3, 0) : zF), zr ((44, 7, 0) : zF)]) (h' := h1) rfl ?_
        refine zc_cv (d := d + 1) e (fun q e => (hrx a1 l2 (l3 + (1 : Int32)) (l4 ||| ((1 : Int32) <<< (l6 &&& 31))) (l5 + v3) h1 q ha1 hR1 e).le (by omega)) rfl rfl (fun h4 hR4 e => ?_)
        refine zwp.go (m := 2) (j := 26) (ls' := [some (zr ((44, 7, 0) : zF)), some (zr ((a1, 3, 0) : zF)), some (zi l2), some (zi l3), some (zi l4), some (zi l5), some (zi (l6 + (1 : Int32))), some (zi v3)]) (st' := []) (h' := h4) rfl ?_
        refine zwp.fg (a := [some (zr ((44, 7, 0) : zF)), some (zr ((a1, 3, 0) : zF)), some (zi l2), some (zi l3), some (zi l4), some (zi l5), some (zi (l6 + (1 : Int32))), none]) (And.intro rfl (And.intro rfl (And.intro rfl (And.intro rfl (And.intro rfl (And.intro rfl (And.intro rfl trivial))))))) ?_
        exact ih l2 l3 l4 l5 (l6 + (1 : Int32)) h4 _ hR4 e
def s_X7_extendOrder (rx : Nat → Int32 → Int32 → Int32 → Int32 → zH → Option (zH)) (a1 : Nat) (a2 : Int32) (a3 : Int32) (a4 : Int32) (a5 : Int32) (h : zH) : Option (zH) := if a5 < (zI h 44 2) then (if (zI h a1 8) ≤ a3 then (s_X7_extendOrder_J12 rx a1 a5 h) else (if a3 < (8 : Int32) then (s_X7_extendOrder_L26 rx a1 zfu a2 a3 a4 a5 (0 : Int32) h) else (s_X7_extendOrder_J12 rx a1 a5 h))) else (some h)
set_option maxRecDepth 100000 in
theorem s_X7_extendOrder_ok (d : Nat) (ρ : Nat → Nat → Option zF) (hρ : zSh ρ) (rx : Nat → Int32 → Int32 → Int32 → Int32 → zH → Option (zH)) (a1 : Nat) (a2 : Int32) (a3 : Int32) (a4 : Int32) (a5 : Int32) (ha1 : zPlS ρ a1) (hrx : ∀ a1 a2 a3 a4 a5 h res, zPlS ρ a1 → zRq h ρ → rx a1 a2 a3 a4 a5  h = some res → zcl d 221 [zr ((44, 7, 0) : zF), zr ((a1, 3, 0) : zF), zi a2, zi a3, zi a4, zi a5] h (zQv ρ res)) (h : zH) (res : zH) (hR : zRq h ρ) (e : s_X7_extendOrder rx a1 a2 a3 a4 a5 h = some res) : zcl (d + 2) 221 [zr ((44, 7, 0) : zF), zr ((a1, 3, 0) : zF), zi a2, zi a3, zi a4, zi a5] h (zQv ρ res) := by
  rw [s_X7_extendOrder] at e
  refine ⟨zm_X7_extendOrder, rfl, ?_⟩
  show zwp (d + 2) zm_X7_extendOrder 0 [some (zr ((44, 7, 0) : zF)), some (zr ((a1, 3, 0) : zF)), some (zi a2), some (zi a3), some (zi a4), some (zi a5), none, none] [] h _
  refine zwp.go (m := 3) (j := 3) (ls' := [some (zr ((44, 7, 0) : zF)), some (zr ((a1, 3, 0) : zF)), some (zi a2), some (zi a3), some (zi a4), some (zi a5), none, none]) (st' := [zi (zI h 44 2), zi a5]) (h' := h) rfl ?_
  refine zb_if (j := 5) (j2 := 4) e rfl (fun e => ?_) (fun e => ?_)
  · refine zwp.go (m := 3) (j := 8) (ls' := [some (zr ((44, 7, 0) : zF)), some (zr ((a1, 3, 0) : zF)), some (zi a2), some (zi a3), some (zi a4), some (zi a5), none, none]) (st' := [zi (zI h a1 8), zi a3]) (h' := h) rfl ?_
    refine zb_if (j := 12) (j2 := 9) e rfl (fun e => ?_) (fun e => ?_)
    · refine zwp.fg (a := [some (zr ((44, 7, 0) : zF)), none, none, none, none, some (zi a5), none, none]) (And.intro rfl (And.intro rfl trivial)) ?_
      exact s_X7_extendOrder_J12_ok d ρ hρ rx a1 ha1 hrx a5 h _ hR e
    · refine zwp.go (m := 2) (j := 11) (ls' := [some (zr ((44, 7, 0) : zF)), some (zr ((a1, 3, 0) : zF)), some (zi a2), some (zi a3), some (zi a4), some (zi a5), none, none]) (st' := [zi (8 : Int32), zi a3]) (h' := h) rfl ?_
      refine zb_if (j := 24) (j2 := 12) e rfl (fun e => ?_) (fun e => ?_)
      · refine zwp.go (m := 2) (j := 26) (ls' := [some (zr ((44, 7, 0) : zF)), some (zr ((a1, 3, 0) : zF)), some (zi a2), some (zi a3), some (zi a4), some (zi a5), some (zi (0 : Int32)), none]) (st' := []) (h' := h) rfl ?_
        exact s_X7_extendOrder_L26_ok d ρ hρ rx a1 ha1 hrx zfu a2 a3 a4 a5 (0 : Int32) h _ hR e
      · refine zwp.fg (a := [some (zr ((44, 7, 0) : zF)), none, none, none, none, some (zi a5), none, none]) (And.intro rfl (And.intro rfl trivial)) ?_
        exact s_X7_extendOrder_J12_ok d ρ hρ rx a1 ha1 hrx a5 h _ hR e
  · cases e
    exact zwp.rv rfl ⟨⟨rfl, rfl⟩, hR⟩
def t_X7_extendOrder : Nat → Nat → Int32 → Int32 → Int32 → Int32 → zH → Option (zH)
  | 0 => fun _ _ _ _ _ _ => none
  | n + 1 => fun a1 a2 a3 a4 a5 h => s_X7_extendOrder (t_X7_extendOrder n) a1 a2 a3 a4 a5 h
theorem t_X7_extendOrder_ok (d : Nat) (ρ : Nat → Nat → Option zF) (hρ : zSh ρ) : ∀ (n : Nat) (a1 : Nat) (a2 : Int32) (a3 : Int32) (a4 : Int32) (a5 : Int32) (ha1 : zPlS ρ a1) (h : zH) (res : zH) (hR : zRq h ρ) (e : t_X7_extendOrder n a1 a2 a3 a4 a5 h = some res), zcl (d + n * 2) 221 [zr ((44, 7, 0) : zF), zr ((a1, 3, 0) : zF), zi a2, zi a3, zi a4, zi a5] h (zQv ρ res) := by
  intro n
  induction n with
  | zero => intro a1 a2 a3 a4 a5 ha1 h res hR e; cases e
  | succ n ih =>
    intro a1 a2 a3 a4 a5 ha1 h res hR e
    have q := s_X7_extendOrder_ok (d + n * 2) ρ hρ (t_X7_extendOrder n) a1 a2 a3 a4 a5 ha1 (fun a1 a2 a3 a4 a5 h res ha1 hR e => ih a1 a2 a3 a4 a5 ha1 h res hR e) h res hR e
    rw [show d + (n + 1) * 2 = d + n * 2 + 2 by omega]
    exact q
def u_X7_extendOrder (a1 : Nat) (a2 : Int32) (a3 : Int32) (a4 : Int32) (a5 : Int32) (h : zH) : Option (zH) := t_X7_extendOrder 10 a1 a2 a3 a4 a5 h
theorem u_X7_extendOrder_ok (d : Nat) (ρ : Nat → Nat → Option zF) (hρ : zSh ρ) (a1 : Nat) (a2 : Int32) (a3 : Int32) (a4 : Int32) (a5 : Int32) (ha1 : zPlS ρ a1) (h : zH) (res : zH) (hR : zRq h ρ) (e : u_X7_extendOrder a1 a2 a3 a4 a5 h = some res) : zcl (d + 20) 221 [zr ((44, 7, 0) : zF), zr ((a1, 3, 0) : zF), zi a2, zi a3, zi a4, zi a5] h (zQv ρ res) := t_X7_extendOrder_ok d ρ hρ 10 a1 a2 a3 a4 a5 ha1 h res hR e
def s_X7_findOrder (a1 : Nat) (a2 : Int32) (h : zH) : Option (zH) := zlt (zwI h 44 2 (0 : Int32)) fun h1 => if (zI h1 a1 8) ≤ 0 then (some h1) else (zlt (zwI h1 44 2 (96 : Int32)) fun h2 => zlt (zwI h2 45 0 (0 : Int32)) fun h3 => (u_X7_extendOrder a1 a2 (1 : Int32) (1 : Int32) (0 : Int32) h3).bind fun h4 => some h4)
set_option maxRecDepth 100000 in
theorem s_X7_findOrder_ok (d : Nat) (ρ : Nat → Nat → Option zF) (hρ : zSh ρ) (a1 : Nat) (a2 : Int32) (ha1 : zPlS ρ a1) (h : zH) (res : zH) (hR : zRq h ρ) (e : s_X7_findOrder a1 a2 h = some res) : zcl (d + 21) 222 [zr ((44, 7, 0) : zF), zr ((a1, 3, 0) : zF), zi a2] h (zQv ρ res) := by
  rw [s_X7_findOrder] at e
  refine ⟨zm_X7_findOrder, rfl, ?_⟩
  show zwp (d + 21) zm_X7_findOrder 0 [some (zr ((44, 7, 0) : zF)), some (zr ((a1, 3, 0) : zF)), some (zi a2)] [] h _
  refine zwp.go (m := 2) (j := 2) (ls' := [some (zr ((44, 7, 0) : zF)), some (zr ((a1, 3, 0) : zF)), some (zi a2)]) (st' := [zi (0 : Int32), zr ((44, 7, 0) : zF)]) (h' := h) rfl ?_
  refine zc_w e rfl hR (fun h1 hR1 e => ?_)
  refine zwp.go (m := 2) (j := 5) (ls' := [some (zr ((44, 7, 0) : zF)), some (zr ((a1, 3, 0) : zF)), some (zi a2)]) (st' := [zi (zI h1 a1 8)]) (h' := h1) rfl ?_
  refine zb_if (j := 21) (j2 := 6) e rfl (fun e => ?_) (fun e => ?_)
  · cases e
    exact zwp.rv rfl ⟨⟨rfl, rfl⟩, hR1⟩
  · refine zwp.go (m := 2) (j := 8) (ls' := [some (zr ((44, 7, 0) : zF)), some (zr ((a1, 3, 0) : zF)), some (zi a2)]) (st' := [zi (96 : Int32), zr ((44, 7, 0) : zF)]) (h' := h1) rfl ?_
    refine zc_w e rfl hR1 (fun h2 hR2 e => ?_)
    refine zwp.go (m := 1) (j := 10) (ls' := [some (zr ((44, 7, 0) : zF)), some (zr ((a1, 3, 0) : zF)), some (zi a2)]) (st' := [zr ((44, 7, 0) : zF)]) (h' := h2) rfl ?_
    refine zc_sr (r := ((45, 20, 8) : zF)) (zrf (a := 44) (y := 0) hR2 rfl (hρ 44 0 rfl)) rfl ?_
    refine zwp.go (m := 2) (j := 13) (ls' := [some (zr ((44, 7, 0) : zF)), some (zr ((a1, 3, 0) : zF)), some (zi a2)]) (st' := [zi (0 : Int32), zi (0 : Int32), zr ((45, 20, 8) : zF)]) (h' := h2) rfl ?_
    refine zc_w e rfl hR2 (fun h3 hR3 e => ?_)
    refine zwp.go (m := 6) (j := 20) (ls' := [some (zr ((44, 7, 0) : zF)), some (zr ((a1, 3, 0) : zF)), some (zi a2)]) (st' := [zi (0 : Int32), zi (1 : Int32), zi (1 : Int32), zi a2, zr ((a1, 3, 0) : zF), zr ((44, 7, 0) : zF)]) (h' := h3) rfl ?_
    refine zc_cv (d := d + 20) e (fun q e => u_X7_extendOrder_ok (d + 0) ρ hρ a1 a2 (1 : Int32) (1 : Int32) (0 : Int32) ha1 h3 q hR3 e) rfl rfl (fun h4 hR4 e => ?_)
    cases e
    exact zwp.rv rfl ⟨⟨rfl, rfl⟩, hR4⟩
def s_X10_order (pp : Nat) (a1 : Int32) (h : zH) : Option ((Int32 ⊕ Nat) × zH) := if a1 < (-1 : Int32) then (some (Sum.inr 1, zth h)) else (if a1 < (zI h pp 8) then ((s_X10_aliveNow pp h).bind fun v1 => (s_X7_findOrder pp v1 h).bind fun h2 => if ¬ a1 = (-1 : Int32) then (zix a1 8 fun i3 => some (Sum.inl (zI h2 46 i3), h2)) else (some (Sum.inl (zI h2 44 2), h2))) else (some (Sum.inr 1, zth h)))
set_option maxRecDepth 100000 in
theorem s_X10_order_ok (d : Nat) (ρ : Nat → Nat → Option zF) (hρ : zSh ρ) (pp : Nat) (a1 : Int32) (hpp : ρ 0 3 = some (pp, 3, 0) ∧ zPlS ρ pp) (h : zH) (res : (Int32 ⊕ Nat) × zH) (hR : zRq h ρ) (e : s_X10_order pp a1 h = some res) : zcl (d + 22) 223 [zr ((0, 10, 0) : zF), zi a1] h (zQx ρ res) := by
  rw [s_X10_order] at e
  refine ⟨zm_X10_order, rfl, ?_⟩
  show zwp (d + 22) zm_X10_order 0 [some (zr ((0, 10, 0) : zF)), some (zi a1)] [] h _
  refine zwp.go (m := 2) (j := 2) (ls' := [some (zr ((0, 10, 0) : zF)), some (zi a1)]) (st' := [zi (-1 : Int32), zi a1]) (h' := h) rfl ?_
  refine zb_if (j := 8) (j2 := 3) e rfl (fun e => ?_) (fun e => ?_)
  · cases e
    exact zwp.th rfl rfl ⟨⟨rfl, rfl⟩, hR⟩
  · refine zwp.go (m := 2) (j := 5) (ls' := [some (zr ((0, 10, 0) : zF)), some (zi a1)]) (st' := [zr ((0, 10, 0) : zF), zi a1]) (h' := h) rfl ?_
    refine zc_sr (r := ((pp, 3, 0) : zF)) (zrf (a := 0) (y := 3) hR rfl hpp.1) rfl ?_
    refine zwp.go (m := 1) (j := 7) (ls' := [some (zr ((0, 10, 0) : zF)), some (zi a1)]) (st' := [zi (zI h pp 8), zi a1]) (h' := h) rfl ?_
    refine zb_if (j := 13) (j2 := 8) e rfl (fun e => ?_) (fun e => ?_)
    · refine zwp.go (m := 1) (j := 14) (ls' := [some (zr ((0, 10, 0) : zF)), some (zi a1)]) (st' := [zr ((0, 10, 0) : zF)]) (h' := h) rfl ?_
      refine zc_sr (r := ((44, 7, 0) : zF)) (zrf (a := 0) (y := 12) hR rfl (hρ 0 12 rfl)) rfl ?_
      refine zwp.go (m := 1) (j := 16) (ls' := [some (zr ((0, 10, 0) : zF)), some (zi a1)]) (st' := [zr ((0, 10, 0) : zF), zr ((44, 7, 0) : zF)]) (h' := h) rfl ?_
      refine zc_sr (r := ((pp, 3, 0) : zF)) (zrf (a := 0) (y := 3) hR rfl hpp.1) rfl ?_
      refine zwp.go (m := 1) (j := 18) (ls' := [some (zr ((0, 10, 0) : zF)), some (zi a1)]) (st' := [zr ((0, 10, 0) : zF), zr ((pp, 3, 0) : zF), zr ((44, 7, 0) : zF)]) (h' := h) rfl ?_
      refine zc_cp (d := d + 21) e (fun q e => s_X10_aliveNow_ok (d + 20) ρ hρ pp hpp h q hR e) rfl rfl (fun v1 e => ?_)
      refine zc_cv (d := d + 21) e (fun q e => s_X7_findOrder_ok (d + 0) ρ hρ pp v1 hpp.2 h q hR e) rfl rfl (fun h2 hR2 e => ?_)
      refine zwp.go (m := 2) (j := 22) (ls' := [some (zr ((0, 10, 0) : zF)), some (zi a1)]) (st' := [zi (-1 : Int32), zi a1]) (h' := h2) rfl ?_
      refine zb_if (j := 27) (j2 := 23) e rfl (fun e => ?_) (fun e => ?_)
      · refine zwp.go (m := 1) (j := 28) (ls' := [some (zr ((0, 10, 0) : zF)), some (zi a1)]) (st' := [zr ((0, 10, 0) : zF)]) (h' := h2) rfl ?_
        refine zc_sr (r := ((44, 7, 0) : zF)) (zrf (a := 0) (y := 12) hR2 rfl (hρ 0 12 rfl)) rfl ?_
        refine zc_sr (r := ((46, 20, 8) : zF)) (zrf (a := 44) (y := 1) hR2 rfl (hρ 44 1 rfl)) rfl ?_
        refine zwp.go (m := 1) (j := 31) (ls' := [some (zr ((0, 10, 0) : zF)), some (zi a1)]) (st' := [zi a1, zr ((46, 20, 8) : zF)]) (h' := h2) rfl ?_
        refine zc_ai e (fun _ => rfl) (fun i3 e => ?_)
        cases e
        exact zwp.ret rfl rfl ⟨⟨rfl, rfl⟩, hR2⟩
      · refine zwp.go (m := 1) (j := 24) (ls' := [some (zr ((0, 10, 0) : zF)), some (zi a1)]) (st' := [zr ((0, 10, 0) : zF)]) (h' := h2) rfl ?_
        refine zc_sr (r := ((44, 7, 0) : zF)) (zrf (a := 0) (y := 12) hR2 rfl (hρ 0 12 rfl)) rfl ?_
        refine zwp.go (m := 2) (j := 32) (ls' := [some (zr ((0, 10, 0) : zF)), some (zi a1)]) (st' := [zi (zI h2 44 2)]) (h' := h2) rfl ?_
        cases e
        exact zwp.ret rfl rfl ⟨⟨rfl, rfl⟩, hR2⟩
    · cases e
      exact zwp.th rfl rfl ⟨⟨rfl, rfl⟩, hR⟩
def s_L_order (pp : Nat) (a1 : Int32) (a2 n2 : Nat) (h : zH) : Option (Int32 × zH) := zbx (s_X10_order pp a1 h) (fun v3 h2 => zix (0 : Int32) n2 fun i5 => zlt (zwL h2 a2 i5 v3.toInt64) fun h4 => some ((0 : Int32), h4)) (fun x h1 => if x = 1 then (some ((1 : Int32), h1)) else none)
set_option maxRecDepth 100000 in
theorem s_L_order_ok (d : Nat) (ρ : Nat → Nat → Option zF) (hρ : zSh ρ) (pp : Nat) (a1 : Int32) (a2 n2 : Nat) (hpp : ρ 0 3 = some (pp, 3, 0) ∧ zPlS ρ pp) (h : zH) (res : Int32 × zH) (hR : zRq h ρ) (e : s_L_order pp a1 a2 n2 h = some res) : zcl (d + 23) 224 [zr ((0, 10, 0) : zF), zi a1, zr ((a2, 23, n2) : zF)] h (zQi ρ res) := by
  rw [s_L_order] at e
  refine ⟨zm_L_order, rfl, ?_⟩
  show zwp (d + 23) zm_L_order 0 [some (zr ((0, 10, 0) : zF)), some (zi a1), some (zr ((a2, 23, n2) : zF)), none] [] h _
  refine zwp.go (m := 4) (j := 4) (ls' := [some (zr ((0, 10, 0) : zF)), some (zi a1), some (zr ((a2, 23, n2) : zF)), none]) (st' := [zi a1, zr ((0, 10, 0) : zF), zi (0 : Int32), zr ((a2, 23, n2) : zF)]) (h' := h) rfl ?_
  refine zc_cx (d := d + 22) e (fun q e => s_X10_order_ok (d + 0) ρ hρ pp a1 hpp h q hR e) rfl rfl (fun v3 h2 hR2 e => ?_) (fun x h1 hR1 e => ?_)
  · refine zwp.go (m := 1) (j := 6) (ls' := [some (zr ((0, 10, 0) : zF)), some (zi a1), some (zr ((a2, 23, n2) : zF)), none]) (st' := [zl v3.toInt64, zi (0 : Int32), zr ((a2, 23, n2) : zF)]) (h' := h2) rfl ?_
    refine zc_sl e (fun _ => rfl) hR2 (fun h4 hR4 e => ?_)
    refine zwp.go (m := 2) (j := 12) (ls' := [some (zr ((0, 10, 0) : zF)), some (zi a1), some (zr ((a2, 23, n2) : zF)), none]) (st' := [zi (0 : Int32)]) (h' := h4) rfl ?_
    cases e
    exact zwp.ret rfl rfl ⟨⟨rfl, rfl⟩, hR4⟩
  · by_cases q1 : x = 1
    · subst q1
      replace e : (some ((1 : Int32), h1)) = some res := by simpa using e
      show zwp _ _ 9 [some (zr ((0, 10, 0) : zF)), some (zi a1), some (zr ((a2, 23, n2) : zF)), none] [] _ _
      refine zwp.go (m := 1) (j := 10) (ls' := [some (zr ((0, 10, 0) : zF)), some (zi a1), some (zr ((a2, 23, n2) : zF)), none]) (st' := [zi (1 : Int32)]) (h' := h1) rfl ?_
      cases e
      exact zwp.ret rfl rfl ⟨⟨rfl, rfl⟩, hR1⟩
    · skip
      simp [q1] at e
def s_X11_tellOrder_L35 (k15 : (Int32 → Int32 → Int32 → zH → Option (zH))) : Nat → Int32 → Int32 → Int32 → Int32 → Int32 → zH → Option (zH)
  | 0, _, _, _, _, _, _ => none
  | n + 1, l1, l2, l3, l4, l5, h => if (zI h 56 1) ≤ l5 then (zix ((l3 <<< ((8 : Int32) &&& 31)) + l2) 2048 fun i2 => zlt (zwI h 75 i2 l4) fun h1 => k15 l1 l2 (l3 + (1 : Int32)) h1) else ((s_X11_isOf l2 l5 h).bind fun v3 => if ¬ v3 = 0 then (s_X11_tellOrder_L35 k15 n l1 l2 l3 l4 (l5 + (1 : Int32)) h) else ((s_X11_turns l3 l5 h).bind fun v4 => zix ((l5 <<< ((8 : Int32) &&& 31)) + (l2 ||| ((1 : Int32) <<< (l5 &&& 31)))) 2048 fun i5 => (s_J9_min_7cf53 l4 (v4 + (zI h 75 i5)) h).bind fun v6 => s_X11_tellOrder_L35 k15 n l1 l2 l3 v6 (l5 + (1 : Int32)) h))
set_option maxRecDepth 100000 in
theorem s_X11_tellOrder_L35_ok (d : Nat) (ρ : Nat → Nat → Option zF) (hρ : zSh ρ) (k15 : (Int32 → Int32 → Int32 → zH → Option (zH))) (hk15 : ∀ l1 l2 l3 h res, zRq h ρ → k15 l1 l2 l3 h = some res → zwp (d + 3) zm_X11_tellOrder 15 [some (zr ((52, 11, 0) : zF)), some (zi l1), some (zi l2), some (zi l3), none, none] [] h (zQv ρ res)) : ∀ (n : Nat) (l1 : Int32) (l2 : Int32) (l3 : Int32) (l4 : Int32) (l5 : Int32) (h : zH) (res : zH) (hR : zRq h ρ) (e : s_X11_tellOrder_L35 k15 n l1 l2 l3 l4 l5 h = some res), zwp (d + 3) zm_X11_tellOrder 35 [some (zr ((52, 11, 0) : zF)), some (zi l1), some (zi l2), some (zi l3), some (zi l4), some (zi l5)] [] h (zQv ρ res) := by
  intro n
  induction n with
  | zero => intro l1 l2 l3 l4 l5 h res hR e; cases e
  | succ n ih =>
    intro l1 l2 l3 l4 l5 h res hR e
    rw [s_X11_tellOrder_L35] at e
    refine zwp.go (m := 2) (j := 37) (ls' := [some (zr ((52, 11, 0) : zF)), some (zi l1), some (zi l2), some (zi l3), some (zi l4), some (zi l5)]) (st' := [zr ((52, 11, 0) : zF), zi l5]) (h' := h) rfl ?_
    refine zc_sr (r := ((56, 20, 12) : zF)) (zrf (a := 52) (y := 5) hR rfl (hρ 52 5 rfl)) rfl ?_
    refine zwp.go (m := 2) (j := 40) (ls' := [some (zr ((52, 11, 0) : zF)), some (zi l1), some (zi l2), some (zi l3), some (zi l4), some (zi l5)]) (st' := [zi (zI h 56 1), zi l5]) (h' := h) rfl ?_
    refine zb_if (j := 67) (j2 := 41) e rfl (fun e => ?_) (fun e => ?_)
    · refine zwp.go (m := 1) (j := 68) (ls' := [some (zr ((52, 11, 0) : zF)), some (zi l1), some (zi l2), some (zi l3), some (zi l4), some (zi l5)]) (st' := [zr ((52, 11, 0) : zF)]) (h' := h) rfl ?_
      refine zc_sr (r := ((75, 20, 2048) : zF)) (zrf (a := 52) (y := 47) hR rfl (hρ 52 47 rfl)) rfl ?_
      refine zwp.go (m := 6) (j := 75) (ls' := [some (zr ((52, 11, 0) : zF)), some (zi l1), some (zi l2), some (zi l3), some (zi l4), some (zi l5)]) (st' := [zi l4, zi ((l3 <<< ((8 : Int32) &&& 31)) + l2), zr ((75, 20, 2048) : zF)]) (h' := h) rfl ?_
      refine zc_si e (fun _ => rfl) hR (fun h1 hR1 e => ?_)
      refine zwp.go (m := 2) (j := 15) (ls' := [some (zr ((52, 11, 0) : zF)), some (zi l1), some (zi l2), some (zi (l3 + (1 : Int32))), some (zi l4), some (zi l5)]) (st' := []) (h' := h1) rfl ?_
      refine zwp.fg (a := [some (zr ((52, 11, 0) : zF)), some (zi l1), some (zi l2), some (zi (l3 + (1 : Int32))), none, none]) (And.intro rfl (And.intro rfl (And.intro rfl (And.intro rfl trivial)))) ?_
      exact hk15 l1 l2 (l3 + (1 : Int32)) h1 _ hR1 e
    · refine zwp.go (m := 2) (j := 43) (ls' := [some (zr ((52, 11, 0) : zF)), some (zi l1), some (zi l2), some (zi l3), some (zi l4), some (zi l5)]) (st' := [zi l5, zi l2]) (h' := h) rfl ?_
      refine zc_cp (d := d + 2) e (fun q e => s_X11_isOf_ok (d + 2) ρ hρ l2 l5 h q hR e) rfl rfl (fun v3 e => ?_)
      refine zb_if (j := 65) (j2 := 45) e rfl (fun e => ?_) (fun e => ?_)
      · refine zwp.go (m := 2) (j := 35) (ls' := [some (zr ((52, 11, 0) : zF)), some (zi l1), some (zi l2), some (zi l3), some (zi l4), some (zi (l5 + (1 : Int32)))]) (st' := []) (h' := h) rfl ?_
        exact ih l1 l2 l3 l4 (l5 + (1 : Int32)) h _ hR e
      · refine zwp.go (m := 4) (j := 49) (ls' := [some (zr ((52, 11, 0) : zF)), some (zi l1), some (zi l2), some (zi l3), some (zi l4), some (zi l5)]) (st' := [zi l5, zi l3, zr ((52, 11, 0) : zF), zi l4]) (h' := h) rfl ?_
        refine zc_cp (d := d + 2) e (fun q e => s_X11_turns_ok (d + 0) ρ hρ l3 l5 h q hR e) rfl rfl (fun v4 e => ?_)
        refine zwp.go (m := 1) (j := 51) (ls' := [some (zr ((52, 11, 0) : zF)), some (zi l1), some (zi l2), some (zi l3), some (zi l4), some (zi l5)]) (st' := [zr ((52, 11, 0) : zF), zi v4, zi l4]) (h' := h) rfl ?_
        refine zc_sr (r := ((75, 20, 2048) : zF)) (zrf (a := 52) (y := 47) hR rfl (hρ 52 47 rfl)) rfl ?_
        refine zwp.go (m := 9) (j := 61) (ls' := [some (zr ((52, 11, 0) : zF)), some (zi l1), some (zi l2), some (zi l3), some (zi l4), some (zi l5)]) (st' := [zi ((l5 <<< ((8 : Int32) &&& 31)) + (l2 ||| ((1 : Int32) <<< (l5 &&& 31)))), zr ((75, 20, 2048) : zF), zi v4, zi l4]) (h' := h) rfl ?_
        refine zc_ai e (fun _ => rfl) (fun i5 e => ?_)
        refine zwp.go (m := 1) (j := 63) (ls' := [some (zr ((52, 11, 0) : zF)), some (zi l1), some (zi l2), some (zi l3), some (zi l4), some (zi l5)]) (st' := [zi (v4 + (zI h 75 i5)), zi l4]) (h' := h) rfl ?_
        refine zc_cp (d := d + 2) e (fun q e => s_J9_min_7cf53_ok (d + 2) ρ hρ l4 (v4 + (zI h 75 i5)) h q hR e) rfl rfl (fun v6 e => ?_)
        refine zwp.go (m := 3) (j := 35) (ls' := [some (zr ((52, 11, 0) : zF)), some (zi l1), some (zi l2), some (zi l3), some (zi v6), some (zi (l5 + (1 : Int32)))]) (st' := []) (h' := h) rfl ?_
        exact ih l1 l2 l3 v6 (l5 + (1 : Int32)) h _ hR e
def s_X11_tellOrder_L15 (k11 : (Int32 → Int32 → zH → Option (zH))) : Nat → Int32 → Int32 → Int32 → zH → Option (zH)
  | 0, _, _, _, _ => none
  | n + 1, l1, l2, l3, h => if (zI h 56 1) ≤ l3 then (k11 l1 (l2 + (-1 : Int32)) h) else ((s_X11_isOf l2 l3 h).bind fun v1 => if ¬ v1 = 0 then (if ¬ l2 = l1 then (s_X11_tellOrder_L35 (s_X11_tellOrder_L15 k11 n) zfu l1 l2 l3 (1000 : Int32) (0 : Int32) h) else (s_X11_tellOrder_L35 (s_X11_tellOrder_L15 k11 n) zfu l1 l2 l3 (0 : Int32) (0 : Int32) h)) else (s_X11_tellOrder_L15 k11 n l1 l2 (l3 + (1 : Int32)) h))
set_option maxRecDepth 100000 in
theorem s_X11_tellOrder_L15_ok (d : Nat) (ρ : Nat → Nat → Option zF) (hρ : zSh ρ) (k11 : (Int32 → Int32 → zH → Option (zH))) (hk11 : ∀ l1 l2 h res, zRq h ρ → k11 l1 l2 h = some res → zwp (d + 3) zm_X11_tellOrder 11 [some (zr ((52, 11, 0) : zF)), some (zi l1), some (zi l2), none, none, none] [] h (zQv ρ res)) : ∀ (n : Nat) (l1 : Int32) (l2 : Int32) (l3 : Int32) (h : zH) (res : zH) (hR : zRq h ρ) (e : s_X11_tellOrder_L15 k11 n l1 l2 l3 h = some res), zwp (d + 3) zm_X11_tellOrder 15 [some (zr ((52, 11, 0) : zF)), some (zi l1), some (zi l2), some (zi l3), none, none] [] h (zQv ρ res) := by
  intro n
  induction n with
  | zero => intro l1 l2 l3 h res hR e; cases e
  | succ n ih =>
    intro l1 l2 l3 h res hR e
    rw [s_X11_tellOrder_L15] at e
    refine zwp.go (m := 2) (j := 17) (ls' := [some (zr ((52, 11, 0) : zF)), some (zi l1), some (zi l2), some (zi l3), none, none]) (st' := [zr ((52, 11, 0) : zF), zi l3]) (h' := h) rfl ?_
    refine zc_sr (r := ((56, 20, 12) : zF)) (zrf (a := 52) (y := 5) hR rfl (hρ 52 5 rfl)) rfl ?_
    refine zwp.go (m := 2) (j := 20) (ls' := [some (zr ((52, 11, 0) : zF)), some (zi l1), some (zi l2), some (zi l3), none, none]) (st' := [zi (zI h 56 1), zi l3]) (h' := h) rfl ?_
    refine zb_if (j := 78) (j2 := 21) e rfl (fun e => ?_) (fun e => ?_)
    · refine zwp.go (m := 2) (j := 11) (ls' := [some (zr ((52, 11, 0) : zF)), some (zi l1), some (zi (l2 + (-1 : Int32))), some (zi l3), none, none]) (st' := []) (h' := h) rfl ?_
      refine zwp.fg (a := [some (zr ((52, 11, 0) : zF)), some (zi l1), some (zi (l2 + (-1 : Int32))), none, none, none]) (And.intro rfl (And.intro rfl (And.intro rfl trivial))) ?_
      exact hk11 l1 (l2 + (-1 : Int32)) h _ hR e
    · refine zwp.go (m := 2) (j := 23) (ls' := [some (zr ((52, 11, 0) : zF)), some (zi l1), some (zi l2), some (zi l3), none, none]) (st' := [zi l3, zi l2]) (h' := h) rfl ?_
      refine zc_cp (d := d + 2) e (fun q e => s_X11_isOf_ok (d + 2) ρ hρ l2 l3 h q hR e) rfl rfl (fun v1 e => ?_)
      refine zb_if (j := 26) (j2 := 25) e rfl (fun e => ?_) (fun e => ?_)
      · refine zwp.go (m := 2) (j := 28) (ls' := [some (zr ((52, 11, 0) : zF)), some (zi l1), some (zi l2), some (zi l3), none, none]) (st' := [zi l1, zi l2]) (h' := h) rfl ?_
        refine zb_if (j := 31) (j2 := 29) e rfl (fun e => ?_) (fun e => ?_)
        · refine zwp.go (m := 4) (j := 35) (ls' := [some (zr ((52, 11, 0) : zF)), some (zi l1), some (zi l2), some (zi l3), some (zi (1000 : Int32)), some (zi (0 : Int32))]) (st' := []) (h' := h) rfl ?_
          exact s_X11_tellOrder_L35_ok d ρ hρ (s_X11_tellOrder_L15 k11 n) ih zfu l1 l2 l3 (1000 : Int32) (0 : Int32) h _ hR e
        · refine zwp.go (m := 5) (j := 35) (ls' := [some (zr ((52, 11, 0) : zF)), some (zi l1), some (zi l2), some (zi l3), some (zi (0 : Int32)), some (zi (0 : Int32))]) (st' := []) (h' := h) rfl ?_
          exact s_X11_tellOrder_L35_ok d ρ hρ (s_X11_tellOrder_L15 k11 n) ih zfu l1 l2 l3 (0 : Int32) (0 : Int32) h _ hR e
      · refine zwp.go (m := 3) (j := 15) (ls' := [some (zr ((52, 11, 0) : zF)), some (zi l1), some (zi l2), some (zi (l3 + (1 : Int32))), none, none]) (st' := []) (h' := h) rfl ?_
        exact ih l1 l2 (l3 + (1 : Int32)) h _ hR e
def s_X11_tellOrder_L11 : Nat → Int32 → Int32 → zH → Option (zH)
  | 0, _, _, _ => none
  | n + 1, l1, l2, h => if l2 ≤ 0 then (some h) else (s_X11_tellOrder_L15 (s_X11_tellOrder_L11 n) zfu l1 l2 (0 : Int32) h)
set_option maxRecDepth 100000 in
theorem s_X11_tellOrder_L11_ok (d : Nat) (ρ : Nat → Nat → Option zF) (hρ : zSh ρ) : ∀ (n : Nat) (l1 : Int32) (l2 : Int32) (h : zH) (res : zH) (hR : zRq h ρ) (e : s_X11_tellOrder_L11  n l1 l2 h = some res), zwp (d + 3) zm_X11_tellOrder 11 [some (zr ((52, 11, 0) : zF)), some (zi l1), some (zi l2), none, none, none] [] h (zQv ρ res) := by
  intro n
  induction n with
  | zero => intro l1 l2 h res hR e; cases e
  | succ n ih =>
    intro l1 l2 h res hR e
    rw [s_X11_tellOrder_L11] at e
    refine zwp.go (m := 1) (j := 12) (ls' := [some (zr ((52, 11, 0) : zF)), some (zi l1), some (zi l2), none, none, none]) (st' := [zi l2]) (h' := h) rfl ?_
    refine zb_if (j := 80) (j2 := 13) e rfl (fun e => ?_) (fun e => ?_)
    · cases e
      exact zwp.rv rfl ⟨⟨rfl, rfl⟩, hR⟩
    · refine zwp.go (m := 2) (j := 15) (ls' := [some (zr ((52, 11, 0) : zF)), some (zi l1), some (zi l2), some (zi (0 : Int32)), none, none]) (st' := []) (h' := h) rfl ?_
      exact s_X11_tellOrder_L15_ok d ρ hρ (s_X11_tellOrder_L11 n) ih zfu l1 l2 (0 : Int32) h _ hR e
def s_X11_tellOrder (h : zH) : Option (zH) := s_X11_tellOrder_L11 zfu (((1 : Int32) <<< ((zI h 56 1) &&& 31)) - (1 : Int32)) (((1 : Int32) <<< ((zI h 56 1) &&& 31)) - (1 : Int32)) h
set_option maxRecDepth 100000 in
theorem s_X11_tellOrder_ok (d : Nat) (ρ : Nat → Nat → Option zF) (hρ : zSh ρ) (h : zH) (res : zH) (hR : zRq h ρ) (e : s_X11_tellOrder  h = some res) : zcl (d + 3) 225 [zr ((52, 11, 0) : zF)] h (zQv ρ res) := by
  rw [s_X11_tellOrder] at e
  refine ⟨zm_X11_tellOrder, rfl, ?_⟩
  show zwp (d + 3) zm_X11_tellOrder 0 [some (zr ((52, 11, 0) : zF)), none, none, none, none, none] [] h _
  refine zwp.go (m := 2) (j := 2) (ls' := [some (zr ((52, 11, 0) : zF)), none, none, none, none, none]) (st' := [zr ((52, 11, 0) : zF), zi (1 : Int32)]) (h' := h) rfl ?_
  refine zc_sr (r := ((56, 20, 12) : zF)) (zrf (a := 52) (y := 5) hR rfl (hρ 52 5 rfl)) rfl ?_
  refine zwp.go (m := 8) (j := 11) (ls' := [some (zr ((52, 11, 0) : zF)), some (zi (((1 : Int32) <<< ((zI h 56 1) &&& 31)) - (1 : Int32))), some (zi (((1 : Int32) <<< ((zI h 56 1) &&& 31)) - (1 : Int32))), none, none, none]) (st' := []) (h' := h) rfl ?_
  exact s_X11_tellOrder_L11_ok d ρ hρ zfu (((1 : Int32) <<< ((zI h 56 1) &&& 31)) - (1 : Int32)) (((1 : Int32) <<< ((zI h 56 1) &&& 31)) - (1 : Int32)) h _ hR e
def s_X11_order_L54 (k42 : (Int32 → Int32 → Int32 → Int32 → zH → Option (Int32 × zH))) : Nat → Int32 → Int32 → Int32 → Int32 → Int32 → Int32 → zH → Option (Int32 × zH)
  | 0, _, _, _, _, _, _, _ => none
  | n + 1, l1, l2, l3, l4, l5, l6, h => if l6 ≤ 0 then (k42 l1 (l2 ||| ((1 : Int32) <<< (l5 &&& 31))) l5 (l4 + (1 : Int32)) h) else ((s_X11_isOf l2 l6 h).bind fun v1 => if ¬ v1 = 0 then (s_X11_order_L54 k42 n l1 l2 l3 l4 l5 (l6 + (-1 : Int32)) h) else ((s_X11_turns l3 l6 h).bind fun v2 => zix ((l6 <<< ((8 : Int32) &&& 31)) + (l2 ||| ((1 : Int32) <<< (l6 &&& 31)))) 2048 fun i3 => zix ((l3 <<< ((8 : Int32) &&& 31)) + l2) 2048 fun i4 => if ¬ (v2 + (zI h 75 i3)) = (zI h 75 i4) then (s_X11_order_L54 k42 n l1 l2 l3 l4 l5 (l6 + (-1 : Int32)) h) else (s_X11_order_L54 k42 n l1 l2 l3 l4 l6 (l6 + (-1 : Int32)) h)))
set_option maxRecDepth 100000 in
theorem s_X11_order_L54_ok (d : Nat) (ρ : Nat → Nat → Option zF) (hρ : zSh ρ) (k42 : (Int32 → Int32 → Int32 → Int32 → zH → Option (Int32 × zH))) (hk42 : ∀ l1 l2 l3 l4 h res, zRq h ρ → k42 l1 l2 l3 l4 h = some res → zwp (d + 4) zm_X11_order 42 [some (zr ((52, 11, 0) : zF)), some (zi l1), some (zi l2), some (zi l3), some (zi l4), none, none] [] h (zQi ρ res)) : ∀ (n : Nat) (l1 : Int32) (l2 : Int32) (l3 : Int32) (l4 : Int32) (l5 : Int32) (l6 : Int32) (h : zH) (res : Int32 × zH) (hR : zRq h ρ) (e : s_X11_order_L54 k42 n l1 l2 l3 l4 l5 l6 h = some res), zwp (d + 4) zm_X11_order 54 [some (zr ((52, 11, 0) : zF)), some (zi l1), some (zi l2), some (zi l3), some (zi l4), some (zi l5), some (zi l6)] [] h (zQi ρ res) := by
  intro n
  induction n with
  | zero => intro l1 l2 l3 l4 l5 l6 h res hR e; cases e
  | succ n ih =>
    intro l1 l2 l3 l4 l5 l6 h res hR e
    rw [s_X11_order_L54] at e
    refine zwp.go (m := 1) (j := 55) (ls' := [some (zr ((52, 11, 0) : zF)), some (zi l1), some (zi l2), some (zi l3), some (zi l4), some (zi l5), some (zi l6)]) (st' := [zi l6]) (h' := h) rfl ?_
    refine zb_if (j := 90) (j2 := 56) e rfl (fun e => ?_) (fun e => ?_)
    · refine zwp.go (m := 10) (j := 42) (ls' := [some (zr ((52, 11, 0) : zF)), some (zi l1), some (zi (l2 ||| ((1 : Int32) <<< (l5 &&& 31)))), some (zi l5), some (zi (l4 + (1 : Int32))), some (zi l5), some (zi l6)]) (st' := []) (h' := h) rfl ?_
      refine zwp.fg (a := [some (zr ((52, 11, 0) : zF)), some (zi l1), some (zi (l2 ||| ((1 : Int32) <<< (l5 &&& 31)))), some (zi l5), some (zi (l4 + (1 : Int32))), none, none]) (And.intro rfl (And.intro rfl (And.intro rfl (And.intro rfl (And.intro rfl trivial))))) ?_
      exact hk42 l1 (l2 ||| ((1 : Int32) <<< (l5 &&& 31))) l5 (l4 + (1 : Int32)) h _ hR e
    · refine zwp.go (m := 2) (j := 58) (ls' := [some (zr ((52, 11, 0) : zF)), some (zi l1), some (zi l2), some (zi l3), some (zi l4), some (zi l5), some (zi l6)]) (st' := [zi l6, zi l2]) (h' := h) rfl ?_
      refine zc_cp (d := d + 3) e (fun q e => s_X11_isOf_ok (d + 3) ρ hρ l2 l6 h q hR e) rfl rfl (fun v1 e => ?_)
      refine zb_if (j := 88) (j2 := 60) e rfl (fun e => ?_) (fun e => ?_)
      · refine zwp.go (m := 2) (j := 54) (ls' := [some (zr ((52, 11, 0) : zF)), some (zi l1), some (zi l2), some (zi l3), some (zi l4), some (zi l5), some (zi (l6 + (-1 : Int32)))]) (st' := []) (h' := h) rfl ?_
        exact ih l1 l2 l3 l4 l5 (l6 + (-1 : Int32)) h _ hR e
      · refine zwp.go (m := 3) (j := 63) (ls' := [some (zr ((52, 11, 0) : zF)), some (zi l1), some (zi l2), some (zi l3), some (zi l4), some (zi l5), some (zi l6)]) (st' := [zi l6, zi l3, zr ((52, 11, 0) : zF)]) (h' := h) rfl ?_
        refine zc_cp (d := d + 3) e (fun q e => s_X11_turns_ok (d + 1) ρ hρ l3 l6 h q hR e) rfl rfl (fun v2 e => ?_)
        refine zwp.go (m := 1) (j := 65) (ls' := [some (zr ((52, 11, 0) : zF)), some (zi l1), some (zi l2), some (zi l3), some (zi l4), some (zi l5), some (zi l6)]) (st' := [zr ((52, 11, 0) : zF), zi v2]) (h' := h) rfl ?_
        refine zc_sr (r := ((75, 20, 2048) : zF)) (zrf (a := 52) (y := 47) hR rfl (hρ 52 47 rfl)) rfl ?_
        refine zwp.go (m := 9) (j := 75) (ls' := [some (zr ((52, 11, 0) : zF)), some (zi l1), some (zi l2), some (zi l3), some (zi l4), some (zi l5), some (zi l6)]) (st' := [zi ((l6 <<< ((8 : Int32) &&& 31)) + (l2 ||| ((1 : Int32) <<< (l6 &&& 31)))), zr ((75, 20, 2048) : zF), zi v2]) (h' := h) rfl ?_
        refine zc_ai e (fun _ => rfl) (fun i3 e => ?_)
        refine zwp.go (m := 2) (j := 78) (ls' := [some (zr ((52, 11, 0) : zF)), some (zi l1), some (zi l2), some (zi l3), some (zi l4), some (zi l5), some (zi l6)]) (st' := [zr ((52, 11, 0) : zF), zi (v2 + (zI h 75 i3))]) (h' := h) rfl ?_
        refine zc_sr (r := ((75, 20, 2048) : zF)) (zrf (a := 52) (y := 47) hR rfl (hρ 52 47 rfl)) rfl ?_
        refine zwp.go (m := 5) (j := 84) (ls' := [some (zr ((52, 11, 0) : zF)), some (zi l1), some (zi l2), some (zi l3), some (zi l4), some (zi l5), some (zi l6)]) (st' := [zi ((l3 <<< ((8 : Int32) &&& 31)) + l2), zr ((75, 20, 2048) : zF), zi (v2 + (zI h 75 i3))]) (h' := h) rfl ?_
        refine zc_ai e (fun _ => rfl) (fun i4 e => ?_)
        refine zb_if (j := 88) (j2 := 86) e rfl (fun e => ?_) (fun e => ?_)
        · refine zwp.go (m := 2) (j := 54) (ls' := [some (zr ((52, 11, 0) : zF)), some (zi l1), some (zi l2), some (zi l3), some (zi l4), some (zi l5), some (zi (l6 + (-1 : Int32)))]) (st' := []) (h' := h) rfl ?_
          exact ih l1 l2 l3 l4 l5 (l6 + (-1 : Int32)) h _ hR e
        · refine zwp.go (m := 4) (j := 54) (ls' := [some (zr ((52, 11, 0) : zF)), some (zi l1), some (zi l2), some (zi l3), some (zi l4), some (zi l6), some (zi (l6 + (-1 : Int32)))]) (st' := []) (h' := h) rfl ?_
          exact ih l1 l2 l3 l4 l6 (l6 + (-1 : Int32)) h _ hR e
def s_X11_order_L42 : Nat → Int32 → Int32 → Int32 → Int32 → zH → Option (Int32 × zH)
  | 0, _, _, _, _, _ => none
  | n + 1, l1, l2, l3, l4, h => if l1 ≤ l4 then (some (l3, h)) else (s_X11_order_L54 (s_X11_order_L42 n) zfu l1 l2 l3 l4 (-1 : Int32) ((zI h 56 1) - (1 : Int32)) h)
set_option maxRecDepth 100000 in
theorem s_X11_order_L42_ok (d : Nat) (ρ : Nat → Nat → Option zF) (hρ : zSh ρ) : ∀ (n : Nat) (l1 : Int32) (l2 : Int32) (l3 : Int32) (l4 : Int32) (h : zH) (res : Int32 × zH) (hR : zRq h ρ) (e : s_X11_order_L42  n l1 l2 l3 l4 h = some res), zwp (d + 4) zm_X11_order 42 [some (zr ((52, 11, 0) : zF)), some (zi l1), some (zi l2), some (zi l3), some (zi l4), none, none] [] h (zQi ρ res) := by
  intro n
  induction n with
  | zero => intro l1 l2 l3 l4 h res hR e; cases e
  | succ n ih =>
    intro l1 l2 l3 l4 h res hR e
    rw [s_X11_order_L42] at e
    refine zwp.go (m := 2) (j := 44) (ls' := [some (zr ((52, 11, 0) : zF)), some (zi l1), some (zi l2), some (zi l3), some (zi l4), none, none]) (st' := [zi l1, zi l4]) (h' := h) rfl ?_
    refine zb_if (j := 100) (j2 := 45) e rfl (fun e => ?_) (fun e => ?_)
    · refine zwp.go (m := 1) (j := 101) (ls' := [some (zr ((52, 11, 0) : zF)), some (zi l1), some (zi l2), some (zi l3), some (zi l4), none, none]) (st' := [zi l3]) (h' := h) rfl ?_
      cases e
      exact zwp.ret rfl rfl ⟨⟨rfl, rfl⟩, hR⟩
    · refine zwp.go (m := 3) (j := 48) (ls' := [some (zr ((52, 11, 0) : zF)), some (zi l1), some (zi l2), some (zi l3), some (zi l4), some (zi (-1 : Int32)), none]) (st' := [zr ((52, 11, 0) : zF)]) (h' := h) rfl ?_
      refine zc_sr (r := ((56, 20, 12) : zF)) (zrf (a := 52) (y := 5) hR rfl (hρ 52 5 rfl)) rfl ?_
      refine zwp.go (m := 5) (j := 54) (ls' := [some (zr ((52, 11, 0) : zF)), some (zi l1), some (zi l2), some (zi l3), some (zi l4), some (zi (-1 : Int32)), some (zi ((zI h 56 1) - (1 : Int32)))]) (st' := []) (h' := h) rfl ?_
      exact s_X11_order_L54_ok d ρ hρ (s_X11_order_L42 n) ih zfu l1 l2 l3 l4 (-1 : Int32) ((zI h 56 1) - (1 : Int32)) h _ hR e
def s_X11_order (a1 : Int32) (h : zH) : Option (Int32 × zH) := zlt (zwI h 52 4 (0 : Int32)) fun h1 => (s_X11_isIn a1.toInt64 (-1 : Int64) ((zI h1 56 1) - (1 : Int32)).toInt64 h1).bind fun v2 => if ¬ v2 = 0 then (if ¬ (zI h1 56 1) = 0 then ((s_X11_tellOrder h1).bind fun h3 => if ¬ a1 = (-1 : Int32) then (s_X11_order_L42 zfu a1 (1 : Int32) (0 : Int32) (0 : Int32) h3) else (some ((zI h3 75 1), h3))) else (some ((0 : Int32), h1))) else (zbd (s_X11_fail (1 : Int32) h1) fun v5 h4 => some (v5, h4))
set_option maxRecDepth 100000 in
theorem s_X11_order_ok (d : Nat) (ρ : Nat → Nat → Option zF) (hρ : zSh ρ) (a1 : Int32) (h : zH) (res : Int32 × zH) (hR : zRq h ρ) (e : s_X11_order a1 h = some res) : zcl (d + 4) 226 [zr ((52, 11, 0) : zF), zi a1] h (zQi ρ res) := by
  rw [s_X11_order] at e
  refine ⟨zm_X11_order, rfl, ?_⟩
  show zwp (d + 4) zm_X11_order 0 [some (zr ((52, 11, 0) : zF)), some (zi a1), none, none, none, none, none] [] h _
  refine zwp.go (m := 2) (j := 2) (ls' := [some (zr ((52, 11, 0) : zF)), some (zi a1), none, none, none, none, none]) (st' := [zi (0 : Int32), zr ((52, 11, 0) : zF)]) (h' := h) rfl ?_
  refine zc_w e rfl hR (fun h1 hR1 e => ?_)
  refine zwp.go (m := 4) (j := 7) (ls' := [some (zr ((52, 11, 0) : zF)), some (zi a1), none, none, none, none, none]) (st' := [zr ((52, 11, 0) : zF), zl (-1 : Int64), zl a1.toInt64]) (h' := h1) rfl ?_
  refine zc_sr (r := ((56, 20, 12) : zF)) (zrf (a := 52) (y := 5) hR1 rfl (hρ 52 5 rfl)) rfl ?_
  refine zwp.go (m := 5) (j := 13) (ls' := [some (zr ((52, 11, 0) : zF)), some (zi a1), none, none, none, none, none]) (st' := [zl ((zI h1 56 1) - (1 : Int32)).toInt64, zl (-1 : Int64), zl a1.toInt64]) (h' := h1) rfl ?_
  refine zc_cp (d := d + 3) e (fun q e => s_X11_isIn_ok (d + 3) ρ hρ a1.toInt64 (-1 : Int64) ((zI h1 56 1) - (1 : Int32)).toInt64 h1 q hR1 e) rfl rfl (fun v2 e => ?_)
  refine zb_if (j := 19) (j2 := 15) e rfl (fun e => ?_) (fun e => ?_)
  · refine zwp.go (m := 1) (j := 20) (ls' := [some (zr ((52, 11, 0) : zF)), some (zi a1), none, none, none, none, none]) (st' := [zr ((52, 11, 0) : zF)]) (h' := h1) rfl ?_
    refine zc_sr (r := ((56, 20, 12) : zF)) (zrf (a := 52) (y := 5) hR1 rfl (hρ 52 5 rfl)) rfl ?_
    refine zwp.go (m := 2) (j := 23) (ls' := [some (zr ((52, 11, 0) : zF)), some (zi a1), none, none, none, none, none]) (st' := [zi (zI h1 56 1)]) (h' := h1) rfl ?_
    refine zb_if (j := 26) (j2 := 24) e rfl (fun e => ?_) (fun e => ?_)
    · refine zwp.go (m := 1) (j := 27) (ls' := [some (zr ((52, 11, 0) : zF)), some (zi a1), none, none, none, none, none]) (st' := [zr ((52, 11, 0) : zF)]) (h' := h1) rfl ?_
      refine zc_cv (d := d + 3) e (fun q e => s_X11_tellOrder_ok (d + 0) ρ hρ h1 q hR1 e) rfl rfl (fun h3 hR3 e => ?_)
      refine zwp.go (m := 2) (j := 30) (ls' := [some (zr ((52, 11, 0) : zF)), some (zi a1), none, none, none, none, none]) (st' := [zi (-1 : Int32), zi a1]) (h' := h3) rfl ?_
      refine zb_if (j := 36) (j2 := 31) e rfl (fun e => ?_) (fun e => ?_)
      · refine zwp.go (m := 6) (j := 42) (ls' := [some (zr ((52, 11, 0) : zF)), some (zi a1), some (zi (1 : Int32)), some (zi (0 : Int32)), some (zi (0 : Int32)), none, none]) (st' := []) (h' := h3) rfl ?_
        exact s_X11_order_L42_ok d ρ hρ zfu a1 (1 : Int32) (0 : Int32) (0 : Int32) h3 _ hR3 e
      · refine zwp.go (m := 1) (j := 32) (ls' := [some (zr ((52, 11, 0) : zF)), some (zi a1), none, none, none, none, none]) (st' := [zr ((52, 11, 0) : zF)]) (h' := h3) rfl ?_
        refine zc_sr (r := ((75, 20, 2048) : zF)) (zrf (a := 52) (y := 47) hR3 rfl (hρ 52 47 rfl)) rfl ?_
        refine zwp.go (m := 2) (j := 35) (ls' := [some (zr ((52, 11, 0) : zF)), some (zi a1), none, none, none, none, none]) (st' := [zi (zI h3 75 1)]) (h' := h3) rfl ?_
        cases e
        exact zwp.ret rfl rfl ⟨⟨rfl, rfl⟩, hR3⟩
    · refine zwp.go (m := 1) (j := 25) (ls' := [some (zr ((52, 11, 0) : zF)), some (zi a1), none, none, none, none, none]) (st' := [zi (0 : Int32)]) (h' := h1) rfl ?_
      cases e
      exact zwp.ret rfl rfl ⟨⟨rfl, rfl⟩, hR1⟩
  · refine zwp.go (m := 2) (j := 17) (ls' := [some (zr ((52, 11, 0) : zF)), some (zi a1), none, none, none, none, none]) (st' := [zi (1 : Int32), zr ((52, 11, 0) : zF)]) (h' := h1) rfl ?_
    refine zc_ci (d := d + 3) e (fun q e => s_X11_fail_ok (d + 3) ρ hρ (1 : Int32) h1 q hR1 e) rfl rfl (fun v5 h4 hR4 e => ?_)
    cases e
    exact zwp.ret rfl rfl ⟨⟨rfl, rfl⟩, hR4⟩
def s_X10_needBits (pp : Nat) (a1 : Int32) (h : zH) : Option ((Unit ⊕ Nat) × zH) := if a1 < 0 then (some (Sum.inr 0, zth h)) else (if a1 < ((1 : Int32) <<< ((zI h pp 6) &&& 31)) then (some (Sum.inl (), h)) else (some (Sum.inr 0, zth h)))
set_option maxRecDepth 100000 in
theorem s_X10_needBits_ok (d : Nat) (ρ : Nat → Nat → Option zF) (hρ : zSh ρ) (pp : Nat) (a1 : Int32) (hpp : ρ 0 3 = some (pp, 3, 0) ∧ zPlS ρ pp) (h : zH) (res : (Unit ⊕ Nat) × zH) (hR : zRq h ρ) (e : s_X10_needBits pp a1 h = some res) : zcl d 227 [zr ((0, 10, 0) : zF), zi a1] h (zQu ρ res) := by
  rw [s_X10_needBits] at e
  refine ⟨zm_X10_needBits, rfl, ?_⟩
  show zwp d zm_X10_needBits 0 [some (zr ((0, 10, 0) : zF)), some (zi a1)] [] h _
  refine zwp.go (m := 1) (j := 1) (ls' := [some (zr ((0, 10, 0) : zF)), some (zi a1)]) (st' := [zi a1]) (h' := h) rfl ?_
  refine zb_if (j := 9) (j2 := 2) e rfl (fun e => ?_) (fun e => ?_)
  · cases e
    exact zwp.th rfl rfl ⟨⟨rfl, rfl⟩, hR⟩
  · refine zwp.go (m := 3) (j := 5) (ls' := [some (zr ((0, 10, 0) : zF)), some (zi a1)]) (st' := [zr ((0, 10, 0) : zF), zi (1 : Int32), zi a1]) (h' := h) rfl ?_
    refine zc_sr (r := ((pp, 3, 0) : zF)) (zrf (a := 0) (y := 3) hR rfl hpp.1) rfl ?_
    refine zwp.go (m := 2) (j := 8) (ls' := [some (zr ((0, 10, 0) : zF)), some (zi a1)]) (st' := [zi ((1 : Int32) <<< ((zI h pp 6) &&& 31)), zi a1]) (h' := h) rfl ?_
    refine zb_if (j := 14) (j2 := 9) e rfl (fun e => ?_) (fun e => ?_)
    · cases e
      exact zwp.rv rfl ⟨⟨rfl, rfl⟩, hR⟩
    · cases e
      exact zwp.th rfl rfl ⟨⟨rfl, rfl⟩, hR⟩
def s_X1_firstWith_L2 : Nat → Int32 → Int32 → zH → Option (Int32)
  | 0, _, _, _ => none
  | n + 1, l1, l2, h => if (zI h 39 4) ≤ l2 then (some (-1 : Int32)) else (zix l2 60 fun i1 => if ¬ (zI h 41 i1) = l1 then (s_X1_firstWith_L2 n l1 (l2 + (1 : Int32)) h) else (some (l2 + (1 : Int32))))
set_option maxRecDepth 100000 in
theorem s_X1_firstWith_L2_ok (d : Nat) (ρ : Nat → Nat → Option zF) (hρ : zSh ρ) : ∀ (n : Nat) (l1 : Int32) (l2 : Int32) (h : zH) (res : Int32) (hR : zRq h ρ) (e : s_X1_firstWith_L2  n l1 l2 h = some res), zwp d zm_X1_firstWith 2 [some (zr ((39, 1, 0) : zF)), some (zi l1), some (zi l2)] [] h (zQp h res) := by
  intro n
  induction n with
  | zero => intro l1 l2 h res hR e; cases e
  | succ n ih =>
    intro l1 l2 h res hR e
    rw [s_X1_firstWith_L2] at e
    refine zwp.go (m := 3) (j := 5) (ls' := [some (zr ((39, 1, 0) : zF)), some (zi l1), some (zi l2)]) (st' := [zi (zI h 39 4), zi l2]) (h' := h) rfl ?_
    refine zb_if (j := 18) (j2 := 6) e rfl (fun e => ?_) (fun e => ?_)
    · refine zwp.go (m := 1) (j := 19) (ls' := [some (zr ((39, 1, 0) : zF)), some (zi l1), some (zi l2)]) (st' := [zi (-1 : Int32)]) (h' := h) rfl ?_
      cases e
      exact zwp.ret rfl rfl ⟨rfl, rfl⟩
    · refine zwp.go (m := 1) (j := 7) (ls' := [some (zr ((39, 1, 0) : zF)), some (zi l1), some (zi l2)]) (st' := [zr ((39, 1, 0) : zF)]) (h' := h) rfl ?_
      refine zc_sr (r := ((41, 20, 60) : zF)) (zrf (a := 39) (y := 1) hR rfl (hρ 39 1 rfl)) rfl ?_
      refine zwp.go (m := 1) (j := 9) (ls' := [some (zr ((39, 1, 0) : zF)), some (zi l1), some (zi l2)]) (st' := [zi l2, zr ((41, 20, 60) : zF)]) (h' := h) rfl ?_
      refine zc_ai e (fun _ => rfl) (fun i1 e => ?_)
      refine zwp.go (m := 1) (j := 11) (ls' := [some (zr ((39, 1, 0) : zF)), some (zi l1), some (zi l2)]) (st' := [zi l1, zi (zI h 41 i1)]) (h' := h) rfl ?_
      refine zb_if (j := 16) (j2 := 12) e rfl (fun e => ?_) (fun e => ?_)
      · refine zwp.go (m := 2) (j := 2) (ls' := [some (zr ((39, 1, 0) : zF)), some (zi l1), some (zi (l2 + (1 : Int32)))]) (st' := []) (h' := h) rfl ?_
        exact ih l1 (l2 + (1 : Int32)) h _ hR e
      · refine zwp.go (m := 3) (j := 15) (ls' := [some (zr ((39, 1, 0) : zF)), some (zi l1), some (zi l2)]) (st' := [zi (l2 + (1 : Int32))]) (h' := h) rfl ?_
        cases e
        exact zwp.ret rfl rfl ⟨rfl, rfl⟩
def s_X1_firstWith (a1 : Int32) (h : zH) : Option (Int32) := s_X1_firstWith_L2 zfu a1 (0 : Int32) h
set_option maxRecDepth 100000 in
theorem s_X1_firstWith_ok (d : Nat) (ρ : Nat → Nat → Option zF) (hρ : zSh ρ) (a1 : Int32) (h : zH) (res : Int32) (hR : zRq h ρ) (e : s_X1_firstWith a1 h = some res) : zcl d 228 [zr ((39, 1, 0) : zF), zi a1] h (zQp h res) := by
  rw [s_X1_firstWith] at e
  refine ⟨zm_X1_firstWith, rfl, ?_⟩
  show zwp d zm_X1_firstWith 0 [some (zr ((39, 1, 0) : zF)), some (zi a1), none] [] h _
  refine zwp.go (m := 2) (j := 2) (ls' := [some (zr ((39, 1, 0) : zF)), some (zi a1), some (zi (0 : Int32))]) (st' := []) (h' := h) rfl ?_
  exact s_X1_firstWith_L2_ok d ρ hρ zfu a1 (0 : Int32) h _ hR e
def s_X1_lastWith_L3 : Nat → Int32 → Int32 → zH → Option (Int32)
  | 0, _, _, _ => none
  | n + 1, l1, l2, h => if l2 ≤ 0 then (some (-1 : Int32)) else (zix (l2 - (1 : Int32)) 60 fun i1 => if ¬ (zI h 41 i1) = l1 then (s_X1_lastWith_L3 n l1 (l2 + (-1 : Int32)) h) else (some l2))
set_option maxRecDepth 100000 in
theorem s_X1_lastWith_L3_ok (d : Nat) (ρ : Nat → Nat → Option zF) (hρ : zSh ρ) : ∀ (n : Nat) (l1 : Int32) (l2 : Int32) (h : zH) (res : Int32) (hR : zRq h ρ) (e : s_X1_lastWith_L3  n l1 l2 h = some res), zwp d zm_X1_lastWith 3 [some (zr ((39, 1, 0) : zF)), some (zi l1), some (zi l2)] [] h (zQp h res) := by
  intro n
  induction n with
  | zero => intro l1 l2 h res hR e; cases e
  | succ n ih =>
    intro l1 l2 h res hR e
    rw [s_X1_lastWith_L3] at e
    refine zwp.go (m := 1) (j := 4) (ls' := [some (zr ((39, 1, 0) : zF)), some (zi l1), some (zi l2)]) (st' := [zi l2]) (h' := h) rfl ?_
    refine zb_if (j := 17) (j2 := 5) e rfl (fun e => ?_) (fun e => ?_)
    · refine zwp.go (m := 1) (j := 18) (ls' := [some (zr ((39, 1, 0) : zF)), some (zi l1), some (zi l2)]) (st' := [zi (-1 : Int32)]) (h' := h) rfl ?_
      cases e
      exact zwp.ret rfl rfl ⟨rfl, rfl⟩
    · refine zwp.go (m := 1) (j := 6) (ls' := [some (zr ((39, 1, 0) : zF)), some (zi l1), some (zi l2)]) (st' := [zr ((39, 1, 0) : zF)]) (h' := h) rfl ?_
      refine zc_sr (r := ((41, 20, 60) : zF)) (zrf (a := 39) (y := 1) hR rfl (hρ 39 1 rfl)) rfl ?_
      refine zwp.go (m := 3) (j := 10) (ls' := [some (zr ((39, 1, 0) : zF)), some (zi l1), some (zi l2)]) (st' := [zi (l2 - (1 : Int32)), zr ((41, 20, 60) : zF)]) (h' := h) rfl ?_
      refine zc_ai e (fun _ => rfl) (fun i1 e => ?_)
      refine zwp.go (m := 1) (j := 12) (ls' := [some (zr ((39, 1, 0) : zF)), some (zi l1), some (zi l2)]) (st' := [zi l1, zi (zI h 41 i1)]) (h' := h) rfl ?_
      refine zb_if (j := 15) (j2 := 13) e rfl (fun e => ?_) (fun e => ?_)
      · refine zwp.go (m := 2) (j := 3) (ls' := [some (zr ((39, 1, 0) : zF)), some (zi l1), some (zi (l2 + (-1 : Int32)))]) (st' := []) (h' := h) rfl ?_
        exact ih l1 (l2 + (-1 : Int32)) h _ hR e
      · refine zwp.go (m := 1) (j := 14) (ls' := [some (zr ((39, 1, 0) : zF)), some (zi l1), some (zi l2)]) (st' := [zi l2]) (h' := h) rfl ?_
        cases e
        exact zwp.ret rfl rfl ⟨rfl, rfl⟩
def s_X1_lastWith (a1 : Int32) (h : zH) : Option (Int32) := s_X1_lastWith_L3 zfu a1 (zI h 39 4) h
set_option maxRecDepth 100000 in
theorem s_X1_lastWith_ok (d : Nat) (ρ : Nat → Nat → Option zF) (hρ : zSh ρ) (a1 : Int32) (h : zH) (res : Int32) (hR : zRq h ρ) (e : s_X1_lastWith a1 h = some res) : zcl d 229 [zr ((39, 1, 0) : zF), zi a1] h (zQp h res) := by
  rw [s_X1_lastWith] at e
  refine ⟨zm_X1_lastWith, rfl, ?_⟩
  show zwp d zm_X1_lastWith 0 [some (zr ((39, 1, 0) : zF)), some (zi a1), none] [] h _
  refine zwp.go (m := 3) (j := 3) (ls' := [some (zr ((39, 1, 0) : zF)), some (zi a1), some (zi (zI h 39 4))]) (st' := []) (h' := h) rfl ?_
  exact s_X1_lastWith_L3_ok d ρ hρ zfu a1 (zI h 39 4) h _ hR e
def s_X10_dating (pp : Nat) (a1 : Int32) (a2 : Int32) (h : zH) : Option ((Int32 ⊕ Nat) × zH) := zbx (s_X10_needWhat pp a2 (2 : Int32) h) (fun _ h2 => zbx (s_X10_needBits pp a1 h2) (fun _ h4 => (s_X10_foresee pp h4).bind fun h5 => if ¬ a2 = 0 then ((s_X1_lastWith a1 h5).bind fun v6 => some (Sum.inl v6, h5)) else ((s_X1_firstWith a1 h5).bind fun v7 => some (Sum.inl v7, h5))) (fun x h3 => some (Sum.inr x, h3))) (fun x h1 => some (Sum.inr x, h1))
set_option maxRecDepth 100000 in
theorem s_X10_dating_ok (d : Nat) (ρ : Nat → Nat → Option zF) (hρ : zSh ρ) (pp : Nat) (a1 : Int32) (a2 : Int32) (hpp : ρ 0 3 = some (pp, 3, 0) ∧ zPlS ρ pp) (h : zH) (res : (Int32 ⊕ Nat) × zH) (hR : zRq h ρ) (e : s_X10_dating pp a1 a2 h = some res) : zcl (d + 6) 230 [zr ((0, 10, 0) : zF), zi a1, zi a2] h (zQx ρ res) := by
  rw [s_X10_dating] at e
  refine ⟨zm_X10_dating, rfl, ?_⟩
  show zwp (d + 6) zm_X10_dating 0 [some (zr ((0, 10, 0) : zF)), some (zi a1), some (zi a2)] [] h _
  refine zwp.go (m := 3) (j := 3) (ls' := [some (zr ((0, 10, 0) : zF)), some (zi a1), some (zi a2)]) (st' := [zi (2 : Int32), zi a2, zr ((0, 10, 0) : zF)]) (h' := h) rfl ?_
  refine zc_cu (d := d + 5) e (fun q e => s_X10_needWhat_ok (d + 5) ρ hρ pp a2 (2 : Int32) hpp h q hR e) rfl rfl (fun h2 hR2 e => ?_) (fun x h1 hR1 e => ?_)
  · refine zwp.go (m := 2) (j := 6) (ls' := [some (zr ((0, 10, 0) : zF)), some (zi a1), some (zi a2)]) (st' := [zi a1, zr ((0, 10, 0) : zF)]) (h' := h2) rfl ?_
    refine zc_cu (d := d + 5) e (fun q e => s_X10_needBits_ok (d + 5) ρ hρ pp a1 hpp h2 q hR2 e) rfl rfl (fun h4 hR4 e => ?_) (fun x h3 hR3 e => ?_)
    · refine zwp.go (m := 1) (j := 8) (ls' := [some (zr ((0, 10, 0) : zF)), some (zi a1), some (zi a2)]) (st' := [zr ((0, 10, 0) : zF)]) (h' := h4) rfl ?_
      refine zc_cv (d := d + 5) e (fun q e => s_X10_foresee_ok (d + 0) ρ hρ pp hpp h4 q hR4 e) rfl rfl (fun h5 hR5 e => ?_)
      refine zwp.go (m := 1) (j := 10) (ls' := [some (zr ((0, 10, 0) : zF)), some (zi a1), some (zi a2)]) (st' := [zi a2]) (h' := h5) rfl ?_
      refine zb_if (j := 16) (j2 := 11) e rfl (fun e => ?_) (fun e => ?_)
      · refine zwp.go (m := 1) (j := 17) (ls' := [some (zr ((0, 10, 0) : zF)), some (zi a1), some (zi a2)]) (st' := [zr ((0, 10, 0) : zF)]) (h' := h5) rfl ?_
        refine zc_sr (r := ((39, 1, 0) : zF)) (zrf (a := 0) (y := 11) hR5 rfl (hρ 0 11 rfl)) rfl ?_
        refine zwp.go (m := 1) (j := 19) (ls' := [some (zr ((0, 10, 0) : zF)), some (zi a1), some (zi a2)]) (st' := [zi a1, zr ((39, 1, 0) : zF)]) (h' := h5) rfl ?_
        refine zc_cp (d := d + 5) e (fun q e => s_X1_lastWith_ok (d + 5) ρ hρ a1 h5 q hR5 e) rfl rfl (fun v6 e => ?_)
        cases e
        exact zwp.ret rfl rfl ⟨⟨rfl, rfl⟩, hR5⟩
      · refine zwp.go (m := 1) (j := 12) (ls' := [some (zr ((0, 10, 0) : zF)), some (zi a1), some (zi a2)]) (st' := [zr ((0, 10, 0) : zF)]) (h' := h5) rfl ?_
        refine zc_sr (r := ((39, 1, 0) : zF)) (zrf (a := 0) (y := 11) hR5 rfl (hρ 0 11 rfl)) rfl ?_
        refine zwp.go (m := 1) (j := 14) (ls' := [some (zr ((0, 10, 0) : zF)), some (zi a1), some (zi a2)]) (st' := [zi a1, zr ((39, 1, 0) : zF)]) (h' := h5) rfl ?_
        refine zc_cp (d := d + 5) e (fun q e => s_X1_firstWith_ok (d + 5) ρ hρ a1 h5 q hR5 e) rfl rfl (fun v7 e => ?_)
        refine zwp.go (m := 1) (j := 20) (ls' := [some (zr ((0, 10, 0) : zF)), some (zi a1), some (zi a2)]) (st' := [zi v7]) (h' := h5) rfl ?_
        cases e
        exact zwp.ret rfl rfl ⟨⟨rfl, rfl⟩, hR5⟩
    · cases e
      exact ⟨rfl, ⟨⟨rfl, rfl⟩, hR3⟩⟩
  · cases e
    exact ⟨rfl, ⟨⟨rfl, rfl⟩, hR1⟩⟩
def s_L_dating (pp : Nat) (a1 : Int32) (a2 : Int32) (a3 n3 : Nat) (h : zH) : Option (Int32 × zH) := zbx (s_X10_dating pp a1 a2 h) (fun v3 h2 => zix (0 : Int32) n3 fun i5 => zlt (zwL h2 a3 i5 v3.toInt64) fun h4 => some ((0 : Int32), h4)) (fun x h1 => if x = 1 then (some ((1 : Int32), h1)) else if x = 0 then (some ((2 : Int32), h1)) else none)
set_option maxRecDepth 100000 in
theorem s_L_dating_ok (d : Nat) (ρ : Nat → Nat → Option zF) (hρ : zSh ρ) (pp : Nat) (a1 : Int32) (a2 : Int32) (a3 n3 : Nat) (hpp : ρ 0 3 = some (pp, 3, 0) ∧ zPlS ρ pp) (h : zH) (res : Int32 × zH) (hR : zRq h ρ) (e : s_L_dating pp a1 a2 a3 n3 h = some res) : zcl (d + 7) 231 [zr ((0, 10, 0) : zF), zi a1, zi a2, zr ((a3, 23, n3) : zF)] h (zQi ρ res) := by
  rw [s_L_dating] at e
  refine ⟨zm_L_dating, rfl, ?_⟩
  show zwp (d + 7) zm_L_dating 0 [some (zr ((0, 10, 0) : zF)), some (zi a1), some (zi a2), some (zr ((a3, 23, n3) : zF)), none] [] h _
  refine zwp.go (m := 5) (j := 5) (ls' := [some (zr ((0, 10, 0) : zF)), some (zi a1), some (zi a2), some (zr ((a3, 23, n3) : zF)), none]) (st' := [zi a2, zi a1, zr ((0, 10, 0) : zF), zi (0 : Int32), zr ((a3, 23, n3) : zF)]) (h' := h) rfl ?_
  refine zc_cx (d := d + 6) e (fun q e => s_X10_dating_ok (d + 0) ρ hρ pp a1 a2 hpp h q hR e) rfl rfl (fun v3 h2 hR2 e => ?_) (fun x h1 hR1 e => ?_)
  · refine zwp.go (m := 1) (j := 7) (ls' := [some (zr ((0, 10, 0) : zF)), some (zi a1), some (zi a2), some (zr ((a3, 23, n3) : zF)), none]) (st' := [zl v3.toInt64, zi (0 : Int32), zr ((a3, 23, n3) : zF)]) (h' := h2) rfl ?_
    refine zc_sl e (fun _ => rfl) hR2 (fun h4 hR4 e => ?_)
    refine zwp.go (m := 2) (j := 16) (ls' := [some (zr ((0, 10, 0) : zF)), some (zi a1), some (zi a2), some (zr ((a3, 23, n3) : zF)), none]) (st' := [zi (0 : Int32)]) (h' := h4) rfl ?_
    cases e
    exact zwp.ret rfl rfl ⟨⟨rfl, rfl⟩, hR4⟩
  · by_cases q1 : x = 1
    · subst q1
      replace e : (some ((1 : Int32), h1)) = some res := by simpa using e
      show zwp _ _ 10 [some (zr ((0, 10, 0) : zF)), some (zi a1), some (zi a2), some (zr ((a3, 23, n3) : zF)), none] [] _ _
      refine zwp.go (m := 1) (j := 11) (ls' := [some (zr ((0, 10, 0) : zF)), some (zi a1), some (zi a2), some (zr ((a3, 23, n3) : zF)), none]) (st' := [zi (1 : Int32)]) (h' := h1) rfl ?_
      cases e
      exact zwp.ret rfl rfl ⟨⟨rfl, rfl⟩, hR1⟩
    · skip
      by_cases q0 : x = 0
      · subst q0
        replace e : (some ((2 : Int32), h1)) = some res := by simpa using e
        show zwp _ _ 13 [some (zr ((0, 10, 0) : zF)), some (zi a1), some (zi a2), some (zr ((a3, 23, n3) : zF)), none] [] _ _
        refine zwp.go (m := 1) (j := 14) (ls' := [some (zr ((0, 10, 0) : zF)), some (zi a1), some (zi a2), some (zr ((a3, 23, n3) : zF)), none]) (st' := [zi (2 : Int32)]) (h' := h1) rfl ?_
        cases e
        exact zwp.ret rfl rfl ⟨⟨rfl, rfl⟩, hR1⟩
      · skip
        simp [q1, q0] at e
def s_X11_firstWith_L2 : Nat → Int32 → Int32 → zH → Option (Int32)
  | 0, _, _, _ => none
  | n + 1, l1, l2, h => if (zI h 52 46) ≤ l2 then (some (-1 : Int32)) else (zix l2 60 fun i1 => if ¬ (zI h 73 i1) = l1 then (s_X11_firstWith_L2 n l1 (l2 + (1 : Int32)) h) else (some (l2 + (1 : Int32))))
set_option maxRecDepth 100000 in
theorem s_X11_firstWith_L2_ok (d : Nat) (ρ : Nat → Nat → Option zF) (hρ : zSh ρ) : ∀ (n : Nat) (l1 : Int32) (l2 : Int32) (h : zH) (res : Int32) (hR : zRq h ρ) (e : s_X11_firstWith_L2  n l1 l2 h = some res), zwp d zm_X11_firstWith 2 [some (zr ((52, 11, 0) : zF)), some (zi l1), some (zi l2)] [] h (zQp h res) := by
  intro n
  induction n with
  | zero => intro l1 l2 h res hR e; cases e
  | succ n ih =>
    intro l1 l2 h res hR e
    rw [s_X11_firstWith_L2] at e
    refine zwp.go (m := 3) (j := 5) (ls' := [some (zr ((52, 11, 0) : zF)), some (zi l1), some (zi l2)]) (st' := [zi (zI h 52 46), zi l2]) (h' := h) rfl ?_
    refine zb_if (j := 18) (j2 := 6) e rfl (fun e => ?_) (fun e => ?_)
    · refine zwp.go (m := 1) (j := 19) (ls' := [some (zr ((52, 11, 0) : zF)), some (zi l1), some (zi l2)]) (st' := [zi (-1 : Int32)]) (h' := h) rfl ?_
      cases e
      exact zwp.ret rfl rfl ⟨rfl, rfl⟩
    · refine zwp.go (m := 1) (j := 7) (ls' := [some (zr ((52, 11, 0) : zF)), some (zi l1), some (zi l2)]) (st' := [zr ((52, 11, 0) : zF)]) (h' := h) rfl ?_
      refine zc_sr (r := ((73, 20, 60) : zF)) (zrf (a := 52) (y := 44) hR rfl (hρ 52 44 rfl)) rfl ?_
      refine zwp.go (m := 1) (j := 9) (ls' := [some (zr ((52, 11, 0) : zF)), some (zi l1), some (zi l2)]) (st' := [zi l2, zr ((73, 20, 60) : zF)]) (h' := h) rfl ?_
      refine zc_ai e (fun _ => rfl) (fun i1 e => ?_)
      refine zwp.go (m := 1) (j := 11) (ls' := [some (zr ((52, 11, 0) : zF)), some (zi l1), some (zi l2)]) (st' := [zi l1, zi (zI h 73 i1)]) (h' := h) rfl ?_
      refine zb_if (j := 16) (j2 := 12) e rfl (fun e => ?_) (fun e => ?_)
      · refine zwp.go (m := 2) (j := 2) (ls' := [some (zr ((52, 11, 0) : zF)), some (zi l1), some (zi (l2 + (1 : Int32)))]) (st' := []) (h' := h) rfl ?_
        exact ih l1 (l2 + (1 : Int32)) h _ hR e
      · refine zwp.go (m := 3) (j := 15) (ls' := [some (zr ((52, 11, 0) : zF)), some (zi l1), some (zi l2)]) (st' := [zi (l2 + (1 : Int32))]) (h' := h) rfl ?_
        cases e
        exact zwp.ret rfl rfl ⟨rfl, rfl⟩
def s_X11_firstWith (a1 : Int32) (h : zH) : Option (Int32) := s_X11_firstWith_L2 zfu a1 (0 : Int32) h
set_option maxRecDepth 100000 in
theorem s_X11_firstWith_ok (d : Nat) (ρ : Nat → Nat → Option zF) (hρ : zSh ρ) (a1 : Int32) (h : zH) (res : Int32) (hR : zRq h ρ) (e : s_X11_firstWith a1 h = some res) : zcl d 232 [zr ((52, 11, 0) : zF), zi a1] h (zQp h res) := by
  rw [s_X11_firstWith] at e
  refine ⟨zm_X11_firstWith, rfl, ?_⟩
  show zwp d zm_X11_firstWith 0 [some (zr ((52, 11, 0) : zF)), some (zi a1), none] [] h _
  refine zwp.go (m := 2) (j := 2) (ls' := [some (zr ((52, 11, 0) : zF)), some (zi a1), some (zi (0 : Int32))]) (st' := []) (h' := h) rfl ?_
  exact s_X11_firstWith_L2_ok d ρ hρ zfu a1 (0 : Int32) h _ hR e
def s_X11_dating_L32 : Nat → Int32 → Int32 → Int32 → Int32 → zH → Option (Int32 × zH)
  | 0, _, _, _, _, _ => none
  | n + 1, l1, l2, l3, l4, h => if (zI h 52 46) ≤ l4 then (if ¬ l2 = 0 then (some (l3, h)) else ((s_X11_firstWith l1 h).bind fun v1 => some (v1, h))) else (zix l4 60 fun i2 => if ¬ (zI h 73 i2) = l1 then (s_X11_dating_L32 n l1 l2 l3 (l4 + (1 : Int32)) h) else (s_X11_dating_L32 n l1 l2 (l4 + (1 : Int32)) (l4 + (1 : Int32)) h))
set_option maxRecDepth 100000 in
theorem s_X11_dating_L32_ok (d : Nat) (ρ : Nat → Nat → Option zF) (hρ : zSh ρ) : ∀ (n : Nat) (l1 : Int32) (l2 : Int32) (l3 : Int32) (l4 : Int32) (h : zH) (res : Int32 × zH) (hR : zRq h ρ) (e : s_X11_dating_L32  n l1 l2 l3 l4 h = some res), zwp (d + 6) zm_X11_dating 32 [some (zr ((52, 11, 0) : zF)), some (zi l1), some (zi l2), some (zi l3), some (zi l4)] [] h (zQi ρ res) := by
  intro n
  induction n with
  | zero => intro l1 l2 l3 l4 h res hR e; cases e
  | succ n ih =>
    intro l1 l2 l3 l4 h res hR e
    rw [s_X11_dating_L32] at e
    refine zwp.go (m := 3) (j := 35) (ls' := [some (zr ((52, 11, 0) : zF)), some (zi l1), some (zi l2), some (zi l3), some (zi l4)]) (st' := [zi (zI h 52 46), zi l4]) (h' := h) rfl ?_
    refine zb_if (j := 48) (j2 := 36) e rfl (fun e => ?_) (fun e => ?_)
    · refine zwp.go (m := 1) (j := 49) (ls' := [some (zr ((52, 11, 0) : zF)), some (zi l1), some (zi l2), some (zi l3), some (zi l4)]) (st' := [zi l2]) (h' := h) rfl ?_
      refine zb_if (j := 54) (j2 := 50) e rfl (fun e => ?_) (fun e => ?_)
      · refine zwp.go (m := 1) (j := 55) (ls' := [some (zr ((52, 11, 0) : zF)), some (zi l1), some (zi l2), some (zi l3), some (zi l4)]) (st' := [zi l3]) (h' := h) rfl ?_
        cases e
        exact zwp.ret rfl rfl ⟨⟨rfl, rfl⟩, hR⟩
      · refine zwp.go (m := 2) (j := 52) (ls' := [some (zr ((52, 11, 0) : zF)), some (zi l1), some (zi l2), some (zi l3), some (zi l4)]) (st' := [zi l1, zr ((52, 11, 0) : zF)]) (h' := h) rfl ?_
        refine zc_cp (d := d + 5) e (fun q e => s_X11_firstWith_ok (d + 5) ρ hρ l1 h q hR e) rfl rfl (fun v1 e => ?_)
        refine zwp.go (m := 1) (j := 55) (ls' := [some (zr ((52, 11, 0) : zF)), some (zi l1), some (zi l2), some (zi l3), some (zi l4)]) (st' := [zi v1]) (h' := h) rfl ?_
        cases e
        exact zwp.ret rfl rfl ⟨⟨rfl, rfl⟩, hR⟩
    · refine zwp.go (m := 1) (j := 37) (ls' := [some (zr ((52, 11, 0) : zF)), some (zi l1), some (zi l2), some (zi l3), some (zi l4)]) (st' := [zr ((52, 11, 0) : zF)]) (h' := h) rfl ?_
      refine zc_sr (r := ((73, 20, 60) : zF)) (zrf (a := 52) (y := 44) hR rfl (hρ 52 44 rfl)) rfl ?_
      refine zwp.go (m := 1) (j := 39) (ls' := [some (zr ((52, 11, 0) : zF)), some (zi l1), some (zi l2), some (zi l3), some (zi l4)]) (st' := [zi l4, zr ((73, 20, 60) : zF)]) (h' := h) rfl ?_
      refine zc_ai e (fun _ => rfl) (fun i2 e => ?_)
      refine zwp.go (m := 1) (j := 41) (ls' := [some (zr ((52, 11, 0) : zF)), some (zi l1), some (zi l2), some (zi l3), some (zi l4)]) (st' := [zi l1, zi (zI h 73 i2)]) (h' := h) rfl ?_
      refine zb_if (j := 46) (j2 := 42) e rfl (fun e => ?_) (fun e => ?_)
      · refine zwp.go (m := 2) (j := 32) (ls' := [some (zr ((52, 11, 0) : zF)), some (zi l1), some (zi l2), some (zi l3), some (zi (l4 + (1 : Int32)))]) (st' := []) (h' := h) rfl ?_
        exact ih l1 l2 l3 (l4 + (1 : Int32)) h _ hR e
      · refine zwp.go (m := 6) (j := 32) (ls' := [some (zr ((52, 11, 0) : zF)), some (zi l1), some (zi l2), some (zi (l4 + (1 : Int32))), some (zi (l4 + (1 : Int32)))]) (st' := []) (h' := h) rfl ?_
        exact ih l1 l2 (l4 + (1 : Int32)) (l4 + (1 : Int32)) h _ hR e
def s_X11_dating (a1 : Int32) (a2 : Int32) (h : zH) : Option (Int32 × zH) := zlt (zwI h 52 4 (0 : Int32)) fun h1 => (s_X11_isIn a2.toInt64 (0 : Int64) (1 : Int64) h1).bind fun v2 => if ¬ v2 = 0 then ((s_X11_all h1).bind fun v3 => (s_X11_isIn a1.toInt64 (0 : Int64) v3.toInt64 h1).bind fun v4 => if ¬ v4 = 0 then ((s_X11_tellSails (60 : Int32) h1).bind fun h5 => s_X11_dating_L32 zfu a1 a2 (-1 : Int32) (0 : Int32) h5) else (zbd (s_X11_fail (2 : Int32) h1) fun v7 h6 => some (v7, h6))) else (zbd (s_X11_fail (1 : Int32) h1) fun v9 h8 => some (v9, h8))
set_option maxRecDepth 100000 in
theorem s_X11_dating_ok (d : Nat) (ρ : Nat → Nat → Option zF) (hρ : zSh ρ) (a1 : Int32) (a2 : Int32) (h : zH) (res : Int32 × zH) (hR : zRq h ρ) (e : s_X11_dating a1 a2 h = some res) : zcl (d + 6) 233 [zr ((52, 11, 0) : zF), zi a1, zi a2] h (zQi ρ res) := by
  rw [s_X11_dating] at e
  refine ⟨zm_X11_dating, rfl, ?_⟩
  show zwp (d + 6) zm_X11_dating 0 [some (zr ((52, 11, 0) : zF)), some (zi a1), some (zi a2), none, none] [] h _
  refine zwp.go (m := 2) (j := 2) (ls' := [some (zr ((52, 11, 0) : zF)), some (zi a1), some (zi a2), none, none]) (st' := [zi (0 : Int32), zr ((52, 11, 0) : zF)]) (h' := h) rfl ?_
  refine zc_w e rfl hR (fun h1 hR1 e => ?_)
  refine zwp.go (m := 4) (j := 7) (ls' := [some (zr ((52, 11, 0) : zF)), some (zi a1), some (zi a2), none, none]) (st' := [zl (1 : Int64), zl (0 : Int64), zl a2.toInt64]) (h' := h1) rfl ?_
  refine zc_cp (d := d + 5) e (fun q e => s_X11_isIn_ok (d + 5) ρ hρ a2.toInt64 (0 : Int64) (1 : Int64) h1 q hR1 e) rfl rfl (fun v2 e => ?_)
  refine zb_if (j := 13) (j2 := 9) e rfl (fun e => ?_) (fun e => ?_)
  · refine zwp.go (m := 4) (j := 17) (ls' := [some (zr ((52, 11, 0) : zF)), some (zi a1), some (zi a2), none, none]) (st' := [zr ((52, 11, 0) : zF), zl (0 : Int64), zl a1.toInt64]) (h' := h1) rfl ?_
    refine zc_cp (d := d + 5) e (fun q e => s_X11_all_ok (d + 5) ρ hρ h1 q hR1 e) rfl rfl (fun v3 e => ?_)
    refine zwp.go (m := 1) (j := 19) (ls' := [some (zr ((52, 11, 0) : zF)), some (zi a1), some (zi a2), none, none]) (st' := [zl v3.toInt64, zl (0 : Int64), zl a1.toInt64]) (h' := h1) rfl ?_
    refine zc_cp (d := d + 5) e (fun q e => s_X11_isIn_ok (d + 5) ρ hρ a1.toInt64 (0 : Int64) v3.toInt64 h1 q hR1 e) rfl rfl (fun v4 e => ?_)
    refine zb_if (j := 25) (j2 := 21) e rfl (fun e => ?_) (fun e => ?_)
    · refine zwp.go (m := 2) (j := 27) (ls' := [some (zr ((52, 11, 0) : zF)), some (zi a1), some (zi a2), none, none]) (st' := [zi (60 : Int32), zr ((52, 11, 0) : zF)]) (h' := h1) rfl ?_
      refine zc_cv (d := d + 5) e (fun q e => s_X11_tellSails_ok (d + 0) ρ hρ (60 : Int32) h1 q hR1 e) rfl rfl (fun h5 hR5 e => ?_)
      refine zwp.go (m := 4) (j := 32) (ls' := [some (zr ((52, 11, 0) : zF)), some (zi a1), some (zi a2), some (zi (-1 : Int32)), some (zi (0 : Int32))]) (st' := []) (h' := h5) rfl ?_
      exact s_X11_dating_L32_ok d ρ hρ zfu a1 a2 (-1 : Int32) (0 : Int32) h5 _ hR5 e
    · refine zwp.go (m := 2) (j := 23) (ls' := [some (zr ((52, 11, 0) : zF)), some (zi a1), some (zi a2), none, none]) (st' := [zi (2 : Int32), zr ((52, 11, 0) : zF)]) (h' := h1) rfl ?_
      refine zc_ci (d := d + 5) e (fun q e => s_X11_fail_ok (d + 5) ρ hρ (2 : Int32) h1 q hR1 e) rfl rfl (fun v7 h6 hR6 e => ?_)
      cases e
      exact zwp.ret rfl rfl ⟨⟨rfl, rfl⟩, hR6⟩
  · refine zwp.go (m := 2) (j := 11) (ls' := [some (zr ((52, 11, 0) : zF)), some (zi a1), some (zi a2), none, none]) (st' := [zi (1 : Int32), zr ((52, 11, 0) : zF)]) (h' := h1) rfl ?_
    refine zc_ci (d := d + 5) e (fun q e => s_X11_fail_ok (d + 5) ρ hρ (1 : Int32) h1 q hR1 e) rfl rfl (fun v9 h8 hR8 e => ?_)
    cases e
    exact zwp.ret rfl rfl ⟨⟨rfl, rfl⟩, hR8⟩
def s_X10_before (pp : Nat) (a1 : Int32) (a2 : Int32) (h : zH) : Option ((Int32 ⊕ Nat) × zH) := zbx (s_X10_needBits pp a1 h) (fun _ h2 => zbx (s_X10_needBits pp a2 h2) (fun _ h4 => (s_X10_foresee pp h4).bind fun h5 => (s_X1_firstWith a1 h5).bind fun v6 => (s_X1_firstWith a2 h5).bind fun v7 => if v6 = (-1 : Int32) then (some (Sum.inl (0 : Int32), h5)) else (if v7 = (-1 : Int32) then (some (Sum.inl (0 : Int32), h5)) else (if v7 ≤ v6 then (some (Sum.inl (0 : Int32), h5)) else (some (Sum.inl (1 : Int32), h5))))) (fun x h3 => some (Sum.inr x, h3))) (fun x h1 => some (Sum.inr x, h1))
set_option maxRecDepth 100000 in
theorem s_X10_before_ok (d : Nat) (ρ : Nat → Nat → Option zF) (hρ : zSh ρ) (pp : Nat) (a1 : Int32) (a2 : Int32) (hpp : ρ 0 3 = some (pp, 3, 0) ∧ zPlS ρ pp) (h : zH) (res : (Int32 ⊕ Nat) × zH) (hR : zRq h ρ) (e : s_X10_before pp a1 a2 h = some res) : zcl (d + 6) 234 [zr ((0, 10, 0) : zF), zi a1, zi a2] h (zQx ρ res) := by
  rw [s_X10_before] at e
  refine ⟨zm_X10_before, rfl, ?_⟩
  show zwp (d + 6) zm_X10_before 0 [some (zr ((0, 10, 0) : zF)), some (zi a1), some (zi a2), none, none] [] h _
  refine zwp.go (m := 2) (j := 2) (ls' := [some (zr ((0, 10, 0) : zF)), some (zi a1), some (zi a2), none, none]) (st' := [zi a1, zr ((0, 10, 0) : zF)]) (h' := h) rfl ?_
  refine zc_cu (d := d + 5) e (fun q e => s_X10_needBits_ok (d + 5) ρ hρ pp a1 hpp h q hR e) rfl rfl (fun h2 hR2 e => ?_) (fun x h1 hR1 e => ?_)
  · refine zwp.go (m := 2) (j := 5) (ls' := [some (zr ((0, 10, 0) : zF)), some (zi a1), some (zi a2), none, none]) (st' := [zi a2, zr ((0, 10, 0) : zF)]) (h' := h2) rfl ?_
    refine zc_cu (d := d + 5) e (fun q e => s_X10_needBits_ok (d + 5) ρ hρ pp a2 hpp h2 q hR2 e) rfl rfl (fun h4 hR4 e => ?_) (fun x h3 hR3 e => ?_)
    · refine zwp.go (m := 1) (j := 7) (ls' := [some (zr ((0, 10, 0) : zF)), some (zi a1), some (zi a2), none, none]) (st' := [zr ((0, 10, 0) : zF)]) (h' := h4) rfl ?_
      refine zc_cv (d := d + 5) e (fun q e => s_X10_foresee_ok (d + 0) ρ hρ pp hpp h4 q hR4 e) rfl rfl (fun h5 hR5 e => ?_)
      refine zwp.go (m := 1) (j := 9) (ls' := [some (zr ((0, 10, 0) : zF)), some (zi a1), some (zi a2), none, none]) (st' := [zr ((0, 10, 0) : zF)]) (h' := h5) rfl ?_
      refine zc_sr (r := ((39, 1, 0) : zF)) (zrf (a := 0) (y := 11) hR5 rfl (hρ 0 11 rfl)) rfl ?_
      refine zwp.go (m := 1) (j := 11) (ls' := [some (zr ((0, 10, 0) : zF)), some (zi a1), some (zi a2), none, none]) (st' := [zi a1, zr ((39, 1, 0) : zF)]) (h' := h5) rfl ?_
      refine zc_cp (d := d + 5) e (fun q e => s_X1_firstWith_ok (d + 5) ρ hρ a1 h5 q hR5 e) rfl rfl (fun v6 e => ?_)
      refine zwp.go (m := 2) (j := 14) (ls' := [some (zr ((0, 10, 0) : zF)), some (zi a1), some (zi a2), some (zi v6), none]) (st' := [zr ((0, 10, 0) : zF)]) (h' := h5) rfl ?_
      refine zc_sr (r := ((39, 1, 0) : zF)) (zrf (a := 0) (y := 11) hR5 rfl (hρ 0 11 rfl)) rfl ?_
      refine zwp.go (m := 1) (j := 16) (ls' := [some (zr ((0, 10, 0) : zF)), some (zi a1), some (zi a2), some (zi v6), none]) (st' := [zi a2, zr ((39, 1, 0) : zF)]) (h' := h5) rfl ?_
      refine zc_cp (d := d + 5) e (fun q e => s_X1_firstWith_ok (d + 5) ρ hρ a2 h5 q hR5 e) rfl rfl (fun v7 e => ?_)
      refine zwp.go (m := 3) (j := 20) (ls' := [some (zr ((0, 10, 0) : zF)), some (zi a1), some (zi a2), some (zi v6), some (zi v7)]) (st' := [zi (-1 : Int32), zi v6]) (h' := h5) rfl ?_
      refine zb_if (j := 29) (j2 := 21) e rfl (fun e => ?_) (fun e => ?_)
      · refine zwp.go (m := 1) (j := 30) (ls' := [some (zr ((0, 10, 0) : zF)), some (zi a1), some (zi a2), some (zi v6), some (zi v7)]) (st' := [zi (0 : Int32)]) (h' := h5) rfl ?_
        cases e
        exact zwp.ret rfl rfl ⟨⟨rfl, rfl⟩, hR5⟩
      · refine zwp.go (m := 2) (j := 23) (ls' := [some (zr ((0, 10, 0) : zF)), some (zi a1), some (zi a2), some (zi v6), some (zi v7)]) (st' := [zi (-1 : Int32), zi v7]) (h' := h5) rfl ?_
        refine zb_if (j := 29) (j2 := 24) e rfl (fun e => ?_) (fun e => ?_)
        · refine zwp.go (m := 1) (j := 30) (ls' := [some (zr ((0, 10, 0) : zF)), some (zi a1), some (zi a2), some (zi v6), some (zi v7)]) (st' := [zi (0 : Int32)]) (h' := h5) rfl ?_
          cases e
          exact zwp.ret rfl rfl ⟨⟨rfl, rfl⟩, hR5⟩
        · refine zwp.go (m := 2) (j := 26) (ls' := [some (zr ((0, 10, 0) : zF)), some (zi a1), some (zi a2), some (zi v6), some (zi v7)]) (st' := [zi v7, zi v6]) (h' := h5) rfl ?_
          refine zb_if (j := 29) (j2 := 27) e rfl (fun e => ?_) (fun e => ?_)
          · refine zwp.go (m := 1) (j := 30) (ls' := [some (zr ((0, 10, 0) : zF)), some (zi a1), some (zi a2), some (zi v6), some (zi v7)]) (st' := [zi (0 : Int32)]) (h' := h5) rfl ?_
            cases e
            exact zwp.ret rfl rfl ⟨⟨rfl, rfl⟩, hR5⟩
          · refine zwp.go (m := 2) (j := 30) (ls' := [some (zr ((0, 10, 0) : zF)), some (zi a1), some (zi a2), some (zi v6), some (zi v7)]) (st' := [zi (1 : Int32)]) (h' := h5) rfl ?_
            cases e
            exact zwp.ret rfl rfl ⟨⟨rfl, rfl⟩, hR5⟩
    · cases e
      exact ⟨rfl, ⟨⟨rfl, rfl⟩, hR3⟩⟩
  · cases e
    exact ⟨rfl, ⟨⟨rfl, rfl⟩, hR1⟩⟩
def s_L_before (pp : Nat) (a1 : Int32) (a2 : Int32) (a3 n3 : Nat) (h : zH) : Option (Int32 × zH) := zbx (s_X10_before pp a1 a2 h) (fun v3 h2 => zix (0 : Int32) n3 fun i5 => zlt (zwL h2 a3 i5 v3.toInt64) fun h4 => some ((0 : Int32), h4)) (fun x h1 => if x = 0 then (some ((1 : Int32), h1)) else none)
set_option maxRecDepth 100000 in
theorem s_L_before_ok (d : Nat) (ρ : Nat → Nat → Option zF) (hρ : zSh ρ) (pp : Nat) (a1 : Int32) (a2 : Int32) (a3 n3 : Nat) (hpp : ρ 0 3 = some (pp, 3, 0) ∧ zPlS ρ pp) (h : zH) (res : Int32 × zH) (hR : zRq h ρ) (e : s_L_before pp a1 a2 a3 n3 h = some res) : zcl (d + 7) 235 [zr ((0, 10, 0) : zF), zi a1, zi a2, zr ((a3, 23, n3) : zF)] h (zQi ρ res) := by
  rw [s_L_before] at e
  refine ⟨zm_L_before, rfl, ?_⟩
  show zwp (d + 7) zm_L_before 0 [some (zr ((0, 10, 0) : zF)), some (zi a1), some (zi a2), some (zr ((a3, 23, n3) : zF)), none] [] h _
  refine zwp.go (m := 5) (j := 5) (ls' := [some (zr ((0, 10, 0) : zF)), some (zi a1), some (zi a2), some (zr ((a3, 23, n3) : zF)), none]) (st' := [zi a2, zi a1, zr ((0, 10, 0) : zF), zi (0 : Int32), zr ((a3, 23, n3) : zF)]) (h' := h) rfl ?_
  refine zc_cx (d := d + 6) e (fun q e => s_X10_before_ok (d + 0) ρ hρ pp a1 a2 hpp h q hR e) rfl rfl (fun v3 h2 hR2 e => ?_) (fun x h1 hR1 e => ?_)
  · refine zwp.go (m := 1) (j := 7) (ls' := [some (zr ((0, 10, 0) : zF)), some (zi a1), some (zi a2), some (zr ((a3, 23, n3) : zF)), none]) (st' := [zl v3.toInt64, zi (0 : Int32), zr ((a3, 23, n3) : zF)]) (h' := h2) rfl ?_
    refine zc_sl e (fun _ => rfl) hR2 (fun h4 hR4 e => ?_)
    refine zwp.go (m := 2) (j := 13) (ls' := [some (zr ((0, 10, 0) : zF)), some (zi a1), some (zi a2), some (zr ((a3, 23, n3) : zF)), none]) (st' := [zi (0 : Int32)]) (h' := h4) rfl ?_
    cases e
    exact zwp.ret rfl rfl ⟨⟨rfl, rfl⟩, hR4⟩
  · by_cases q0 : x = 0
    · subst q0
      replace e : (some ((1 : Int32), h1)) = some res := by simpa using e
      show zwp _ _ 10 [some (zr ((0, 10, 0) : zF)), some (zi a1), some (zi a2), some (zr ((a3, 23, n3) : zF)), none] [] _ _
      refine zwp.go (m := 1) (j := 11) (ls' := [some (zr ((0, 10, 0) : zF)), some (zi a1), some (zi a2), some (zr ((a3, 23, n3) : zF)), none]) (st' := [zi (1 : Int32)]) (h' := h1) rfl ?_
      cases e
      exact zwp.ret rfl rfl ⟨⟨rfl, rfl⟩, hR1⟩
    · skip
      simp [q0] at e
def s_X11_before_J19 (h : zH) : Option (Int32 × zH) := zbd (s_X11_fail (1 : Int32) h) fun v2 h1 => some (v2, h1)
set_option maxRecDepth 100000 in
theorem s_X11_before_J19_ok (d : Nat) (ρ : Nat → Nat → Option zF) (hρ : zSh ρ) (h : zH) (res : Int32 × zH) (hR : zRq h ρ) (e : s_X11_before_J19   h = some res) : zwp (d + 6) zm_X11_before 19 [some (zr ((52, 11, 0) : zF)), none, none, none, none] [] h (zQi ρ res) := by
  rw [s_X11_before_J19] at e
  refine zwp.go (m := 2) (j := 21) (ls' := [some (zr ((52, 11, 0) : zF)), none, none, none, none]) (st' := [zi (1 : Int32), zr ((52, 11, 0) : zF)]) (h' := h) rfl ?_
  refine zc_ci (d := d + 5) e (fun q e => s_X11_fail_ok (d + 5) ρ hρ (1 : Int32) h q hR e) rfl rfl (fun v2 h1 hR1 e => ?_)
  cases e
  exact zwp.ret rfl rfl ⟨⟨rfl, rfl⟩, hR1⟩
def s_X11_before (a1 : Int32) (a2 : Int32) (h : zH) : Option (Int32 × zH) := zlt (zwI h 52 4 (0 : Int32)) fun h1 => (s_X11_all h1).bind fun v2 => (s_X11_isIn a1.toInt64 (0 : Int64) v2.toInt64 h1).bind fun v3 => if v3 = 0 then (s_X11_before_J19 h1) else ((s_X11_all h1).bind fun v4 => (s_X11_isIn a2.toInt64 (0 : Int64) v4.toInt64 h1).bind fun v5 => if ¬ v5 = 0 then ((s_X11_tellSails (60 : Int32) h1).bind fun h6 => (s_X11_firstWith a1 h6).bind fun v7 => (s_X11_firstWith a2 h6).bind fun v8 => if v7 = (-1 : Int32) then (some ((0 : Int32), h6)) else (if v8 = (-1 : Int32) then (some ((0 : Int32), h6)) else (if v8 ≤ v7 then (some ((0 : Int32), h6)) else (some ((1 : Int32), h6))))) else (s_X11_before_J19 h1))
set_option maxRecDepth 100000 in
theorem s_X11_before_ok (d : Nat) (ρ : Nat → Nat → Option zF) (hρ : zSh ρ) (a1 : Int32) (a2 : Int32) (h : zH) (res : Int32 × zH) (hR : zRq h ρ) (e : s_X11_before a1 a2 h = some res) : zcl (d + 6) 236 [zr ((52, 11, 0) : zF), zi a1, zi a2] h (zQi ρ res) := by
  rw [s_X11_before] at e
  refine ⟨zm_X11_before, rfl, ?_⟩
  show zwp (d + 6) zm_X11_before 0 [some (zr ((52, 11, 0) : zF)), some (zi a1), some (zi a2), none, none] [] h _
  refine zwp.go (m := 2) (j := 2) (ls' := [some (zr ((52, 11, 0) : zF)), some (zi a1), some (zi a2), none, none]) (st' := [zi (0 : Int32), zr ((52, 11, 0) : zF)]) (h' := h) rfl ?_
  refine zc_w e rfl hR (fun h1 hR1 e => ?_)
  refine zwp.go (m := 4) (j := 7) (ls' := [some (zr ((52, 11, 0) : zF)), some (zi a1), some (zi a2), none, none]) (st' := [zr ((52, 11, 0) : zF), zl (0 : Int64), zl a1.toInt64]) (h' := h1) rfl ?_
  refine zc_cp (d := d + 5) e (fun q e => s_X11_all_ok (d + 5) ρ hρ h1 q hR1 e) rfl rfl (fun v2 e => ?_)
  refine zwp.go (m := 1) (j := 9) (ls' := [some (zr ((52, 11, 0) : zF)), some (zi a1), some (zi a2), none, none]) (st' := [zl v2.toInt64, zl (0 : Int64), zl a1.toInt64]) (h' := h1) rfl ?_
  refine zc_cp (d := d + 5) e (fun q e => s_X11_isIn_ok (d + 5) ρ hρ a1.toInt64 (0 : Int64) v2.toInt64 h1 q hR1 e) rfl rfl (fun v3 e => ?_)
  refine zb_if (j := 19) (j2 := 11) e rfl (fun e => ?_) (fun e => ?_)
  · refine zwp.fg (a := [some (zr ((52, 11, 0) : zF)), none, none, none, none]) (And.intro rfl trivial) ?_
    exact s_X11_before_J19_ok d ρ hρ h1 _ hR1 e
  · refine zwp.go (m := 4) (j := 15) (ls' := [some (zr ((52, 11, 0) : zF)), some (zi a1), some (zi a2), none, none]) (st' := [zr ((52, 11, 0) : zF), zl (0 : Int64), zl a2.toInt64]) (h' := h1) rfl ?_
    refine zc_cp (d := d + 5) e (fun q e => s_X11_all_ok (d + 5) ρ hρ h1 q hR1 e) rfl rfl (fun v4 e => ?_)
    refine zwp.go (m := 1) (j := 17) (ls' := [some (zr ((52, 11, 0) : zF)), some (zi a1), some (zi a2), none, none]) (st' := [zl v4.toInt64, zl (0 : Int64), zl a2.toInt64]) (h' := h1) rfl ?_
    refine zc_cp (d := d + 5) e (fun q e => s_X11_isIn_ok (d + 5) ρ hρ a2.toInt64 (0 : Int64) v4.toInt64 h1 q hR1 e) rfl rfl (fun v5 e => ?_)
    refine zb_if (j := 23) (j2 := 19) e rfl (fun e => ?_) (fun e => ?_)
    · refine zwp.go (m := 2) (j := 25) (ls' := [some (zr ((52, 11, 0) : zF)), some (zi a1), some (zi a2), none, none]) (st' := [zi (60 : Int32), zr ((52, 11, 0) : zF)]) (h' := h1) rfl ?_
      refine zc_cv (d := d + 5) e (fun q e => s_X11_tellSails_ok (d + 0) ρ hρ (60 : Int32) h1 q hR1 e) rfl rfl (fun h6 hR6 e => ?_)
      refine zwp.go (m := 2) (j := 28) (ls' := [some (zr ((52, 11, 0) : zF)), some (zi a1), some (zi a2), none, none]) (st' := [zi a1, zr ((52, 11, 0) : zF)]) (h' := h6) rfl ?_
      refine zc_cp (d := d + 5) e (fun q e => s_X11_firstWith_ok (d + 5) ρ hρ a1 h6 q hR6 e) rfl rfl (fun v7 e => ?_)
      refine zwp.go (m := 3) (j := 32) (ls' := [some (zr ((52, 11, 0) : zF)), some (zi a1), some (zi a2), some (zi v7), none]) (st' := [zi a2, zr ((52, 11, 0) : zF)]) (h' := h6) rfl ?_
      refine zc_cp (d := d + 5) e (fun q e => s_X11_firstWith_ok (d + 5) ρ hρ a2 h6 q hR6 e) rfl rfl (fun v8 e => ?_)
      refine zwp.go (m := 3) (j := 36) (ls' := [some (zr ((52, 11, 0) : zF)), some (zi a1), some (zi a2), some (zi v7), some (zi v8)]) (st' := [zi (-1 : Int32), zi v7]) (h' := h6) rfl ?_
      refine zb_if (j := 45) (j2 := 37) e rfl (fun e => ?_) (fun e => ?_)
      · refine zwp.go (m := 1) (j := 46) (ls' := [some (zr ((52, 11, 0) : zF)), some (zi a1), some (zi a2), some (zi v7), some (zi v8)]) (st' := [zi (0 : Int32)]) (h' := h6) rfl ?_
        cases e
        exact zwp.ret rfl rfl ⟨⟨rfl, rfl⟩, hR6⟩
      · refine zwp.go (m := 2) (j := 39) (ls' := [some (zr ((52, 11, 0) : zF)), some (zi a1), some (zi a2), some (zi v7), some (zi v8)]) (st' := [zi (-1 : Int32), zi v8]) (h' := h6) rfl ?_
        refine zb_if (j := 45) (j2 := 40) e rfl (fun e => ?_) (fun e => ?_)
        · refine zwp.go (m := 1) (j := 46) (ls' := [some (zr ((52, 11, 0) : zF)), some (zi a1), some (zi a2), some (zi v7), some (zi v8)]) (st' := [zi (0 : Int32)]) (h' := h6) rfl ?_
          cases e
          exact zwp.ret rfl rfl ⟨⟨rfl, rfl⟩, hR6⟩
        · refine zwp.go (m := 2) (j := 42) (ls' := [some (zr ((52, 11, 0) : zF)), some (zi a1), some (zi a2), some (zi v7), some (zi v8)]) (st' := [zi v8, zi v7]) (h' := h6) rfl ?_
          refine zb_if (j := 45) (j2 := 43) e rfl (fun e => ?_) (fun e => ?_)
          · refine zwp.go (m := 1) (j := 46) (ls' := [some (zr ((52, 11, 0) : zF)), some (zi a1), some (zi a2), some (zi v7), some (zi v8)]) (st' := [zi (0 : Int32)]) (h' := h6) rfl ?_
            cases e
            exact zwp.ret rfl rfl ⟨⟨rfl, rfl⟩, hR6⟩
          · refine zwp.go (m := 2) (j := 46) (ls' := [some (zr ((52, 11, 0) : zF)), some (zi a1), some (zi a2), some (zi v7), some (zi v8)]) (st' := [zi (1 : Int32)]) (h' := h6) rfl ?_
            cases e
            exact zwp.ret rfl rfl ⟨⟨rfl, rfl⟩, hR6⟩
    · refine zwp.fg (a := [some (zr ((52, 11, 0) : zF)), none, none, none, none]) (And.intro rfl trivial) ?_
      exact s_X11_before_J19_ok d ρ hρ h1 _ hR1 e
def s_X10_strongest_L15 (pp : Nat) : Nat → Int32 → Int32 → Int32 → zH → Option ((Int32 ⊕ Nat) × zH)
  | 0, _, _, _, _ => none
  | n + 1, l2, l3, l4, h => if (zI h pp 6) ≤ l4 then (some (Sum.inl l2, h)) else (zix l4 12 fun i1 => if (zI h 31 i1) ≤ l3 then (s_X10_strongest_L15 pp n l2 l3 (l4 + (1 : Int32)) h) else (zix l4 12 fun i2 => s_X10_strongest_L15 pp n l4 (zI h 31 i2) (l4 + (1 : Int32)) h))
set_option maxRecDepth 100000 in
theorem s_X10_strongest_L15_ok (d : Nat) (ρ : Nat → Nat → Option zF) (hρ : zSh ρ) (pp : Nat) (hpp : ρ 0 3 = some (pp, 3, 0) ∧ zPlS ρ pp) : ∀ (n : Nat) (l2 : Int32) (l3 : Int32) (l4 : Int32) (h : zH) (res : (Int32 ⊕ Nat) × zH) (hR : zRq h ρ) (e : s_X10_strongest_L15 pp n l2 l3 l4 h = some res), zwp (d + 6) zm_X10_strongest 15 [some (zr ((0, 10, 0) : zF)), none, some (zi l2), some (zi l3), some (zi l4)] [] h (zQx ρ res) := by
  intro n
  induction n with
  | zero => intro l2 l3 l4 h res hR e; cases e
  | succ n ih =>
    intro l2 l3 l4 h res hR e
    rw [s_X10_strongest_L15] at e
    refine zwp.go (m := 2) (j := 17) (ls' := [some (zr ((0, 10, 0) : zF)), none, some (zi l2), some (zi l3), some (zi l4)]) (st' := [zr ((0, 10, 0) : zF), zi l4]) (h' := h) rfl ?_
    refine zc_sr (r := ((pp, 3, 0) : zF)) (zrf (a := 0) (y := 3) hR rfl hpp.1) rfl ?_
    refine zwp.go (m := 1) (j := 19) (ls' := [some (zr ((0, 10, 0) : zF)), none, some (zi l2), some (zi l3), some (zi l4)]) (st' := [zi (zI h pp 6), zi l4]) (h' := h) rfl ?_
    refine zb_if (j := 37) (j2 := 20) e rfl (fun e => ?_) (fun e => ?_)
    · refine zwp.go (m := 1) (j := 38) (ls' := [some (zr ((0, 10, 0) : zF)), none, some (zi l2), some (zi l3), some (zi l4)]) (st' := [zi l2]) (h' := h) rfl ?_
      cases e
      exact zwp.ret rfl rfl ⟨⟨rfl, rfl⟩, hR⟩
    · refine zwp.go (m := 1) (j := 21) (ls' := [some (zr ((0, 10, 0) : zF)), none, some (zi l2), some (zi l3), some (zi l4)]) (st' := [zr ((0, 10, 0) : zF)]) (h' := h) rfl ?_
      refine zc_sr (r := ((30, 8, 0) : zF)) (zrf (a := 0) (y := 9) hR rfl (hρ 0 9 rfl)) rfl ?_
      refine zc_sr (r := ((31, 20, 12) : zF)) (zrf (a := 30) (y := 0) hR rfl (zSh_st30 hρ).2.1) rfl ?_
      refine zwp.go (m := 1) (j := 24) (ls' := [some (zr ((0, 10, 0) : zF)), none, some (zi l2), some (zi l3), some (zi l4)]) (st' := [zi l4, zr ((31, 20, 12) : zF)]) (h' := h) rfl ?_
      refine zc_ai e (fun _ => rfl) (fun i1 e => ?_)
      refine zwp.go (m := 1) (j := 26) (ls' := [some (zr ((0, 10, 0) : zF)), none, some (zi l2), some (zi l3), some (zi l4)]) (st' := [zi l3, zi (zI h 31 i1)]) (h' := h) rfl ?_
      refine zb_if (j := 35) (j2 := 27) e rfl (fun e => ?_) (fun e => ?_)
      · refine zwp.go (m := 2) (j := 15) (ls' := [some (zr ((0, 10, 0) : zF)), none, some (zi l2), some (zi l3), some (zi (l4 + (1 : Int32)))]) (st' := []) (h' := h) rfl ?_
        exact ih l2 l3 (l4 + (1 : Int32)) h _ hR e
      · refine zwp.go (m := 1) (j := 28) (ls' := [some (zr ((0, 10, 0) : zF)), none, some (zi l2), some (zi l3), some (zi l4)]) (st' := [zr ((0, 10, 0) : zF)]) (h' := h) rfl ?_
        refine zc_sr (r := ((30, 8, 0) : zF)) (zrf (a := 0) (y := 9) hR rfl (hρ 0 9 rfl)) rfl ?_
        refine zc_sr (r := ((31, 20, 12) : zF)) (zrf (a := 30) (y := 0) hR rfl (zSh_st30 hρ).2.1) rfl ?_
        refine zwp.go (m := 1) (j := 31) (ls' := [some (zr ((0, 10, 0) : zF)), none, some (zi l2), some (zi l3), some (zi l4)]) (st' := [zi l4, zr ((31, 20, 12) : zF)]) (h' := h) rfl ?_
        refine zc_ai e (fun _ => rfl) (fun i2 e => ?_)
        refine zwp.go (m := 5) (j := 15) (ls' := [some (zr ((0, 10, 0) : zF)), none, some (zi l4), some (zi (zI h 31 i2)), some (zi (l4 + (1 : Int32)))]) (st' := []) (h' := h) rfl ?_
        exact ih l4 (zI h 31 i2) (l4 + (1 : Int32)) h _ hR e
def s_X10_strongest (pp : Nat) (a1 : Int32) (h : zH) : Option ((Int32 ⊕ Nat) × zH) := zbx (s_X10_needWithin pp a1 (0 : Int32) (60 : Int32) h) (fun _ h2 => zbd (s_X10_tryDays pp a1 h2) fun v4 h3 => s_X10_strongest_L15 pp zfu (-1 : Int32) (0 : Int32) (0 : Int32) h3) (fun x h1 => some (Sum.inr x, h1))
set_option maxRecDepth 100000 in
theorem s_X10_strongest_ok (d : Nat) (ρ : Nat → Nat → Option zF) (hρ : zSh ρ) (pp : Nat) (a1 : Int32) (hpp : ρ 0 3 = some (pp, 3, 0) ∧ zPlS ρ pp) (h : zH) (res : (Int32 ⊕ Nat) × zH) (hR : zRq h ρ) (e : s_X10_strongest pp a1 h = some res) : zcl (d + 6) 237 [zr ((0, 10, 0) : zF), zi a1] h (zQx ρ res) := by
  rw [s_X10_strongest] at e
  refine ⟨zm_X10_strongest, rfl, ?_⟩
  show zwp (d + 6) zm_X10_strongest 0 [some (zr ((0, 10, 0) : zF)), some (zi a1), none, none, none] [] h _
  refine zwp.go (m := 4) (j := 4) (ls' := [some (zr ((0, 10, 0) : zF)), some (zi a1), none, none, none]) (st' := [zi (60 : Int32), zi (0 : Int32), zi a1, zr ((0, 10, 0) : zF)]) (h' := h) rfl ?_
  refine zc_cu (d := d + 5) e (fun q e => s_X10_needWithin_ok (d + 5) ρ hρ pp a1 (0 : Int32) (60 : Int32) hpp h q hR e) rfl rfl (fun h2 hR2 e => ?_) (fun x h1 hR1 e => ?_)
  · refine zwp.go (m := 2) (j := 7) (ls' := [some (zr ((0, 10, 0) : zF)), some (zi a1), none, none, none]) (st' := [zi a1, zr ((0, 10, 0) : zF)]) (h' := h2) rfl ?_
    refine zc_ci (d := d + 5) e (fun q e => s_X10_tryDays_ok (d + 0) ρ hρ pp a1 hpp h2 q hR2 e) rfl rfl (fun v4 h3 hR3 e => ?_)
    refine zwp.go (m := 7) (j := 15) (ls' := [some (zr ((0, 10, 0) : zF)), some (zi a1), some (zi (-1 : Int32)), some (zi (0 : Int32)), some (zi (0 : Int32))]) (st' := []) (h' := h3) rfl ?_
    refine zwp.fg (a := [some (zr ((0, 10, 0) : zF)), none, some (zi (-1 : Int32)), some (zi (0 : Int32)), some (zi (0 : Int32))]) (And.intro rfl (And.intro rfl (And.intro rfl (And.intro rfl trivial)))) ?_
    exact s_X10_strongest_L15_ok d ρ hρ pp hpp zfu (-1 : Int32) (0 : Int32) (0 : Int32) h3 _ hR3 e
  · cases e
    exact ⟨rfl, ⟨⟨rfl, rfl⟩, hR1⟩⟩
def s_L_strongest (pp : Nat) (a1 : Int32) (a2 n2 : Nat) (h : zH) : Option (Int32 × zH) := zbx (s_X10_strongest pp a1 h) (fun v3 h2 => zix (0 : Int32) n2 fun i5 => zlt (zwL h2 a2 i5 v3.toInt64) fun h4 => some ((0 : Int32), h4)) (fun x h1 => if x = 0 then (some ((1 : Int32), h1)) else none)
set_option maxRecDepth 100000 in
theorem s_L_strongest_ok (d : Nat) (ρ : Nat → Nat → Option zF) (hρ : zSh ρ) (pp : Nat) (a1 : Int32) (a2 n2 : Nat) (hpp : ρ 0 3 = some (pp, 3, 0) ∧ zPlS ρ pp) (h : zH) (res : Int32 × zH) (hR : zRq h ρ) (e : s_L_strongest pp a1 a2 n2 h = some res) : zcl (d + 7) 238 [zr ((0, 10, 0) : zF), zi a1, zr ((a2, 23, n2) : zF)] h (zQi ρ res) := by
  rw [s_L_strongest] at e
  refine ⟨zm_L_strongest, rfl, ?_⟩
  show zwp (d + 7) zm_L_strongest 0 [some (zr ((0, 10, 0) : zF)), some (zi a1), some (zr ((a2, 23, n2) : zF)), none] [] h _
  refine zwp.go (m := 4) (j := 4) (ls' := [some (zr ((0, 10, 0) : zF)), some (zi a1), some (zr ((a2, 23, n2) : zF)), none]) (st' := [zi a1, zr ((0, 10, 0) : zF), zi (0 : Int32), zr ((a2, 23, n2) : zF)]) (h' := h) rfl ?_
  refine zc_cx (d := d + 6) e (fun q e => s_X10_strongest_ok (d + 0) ρ hρ pp a1 hpp h q hR e) rfl rfl (fun v3 h2 hR2 e => ?_) (fun x h1 hR1 e => ?_)
  · refine zwp.go (m := 1) (j := 6) (ls' := [some (zr ((0, 10, 0) : zF)), some (zi a1), some (zr ((a2, 23, n2) : zF)), none]) (st' := [zl v3.toInt64, zi (0 : Int32), zr ((a2, 23, n2) : zF)]) (h' := h2) rfl ?_
    refine zc_sl e (fun _ => rfl) hR2 (fun h4 hR4 e => ?_)
    refine zwp.go (m := 2) (j := 12) (ls' := [some (zr ((0, 10, 0) : zF)), some (zi a1), some (zr ((a2, 23, n2) : zF)), none]) (st' := [zi (0 : Int32)]) (h' := h4) rfl ?_
    cases e
    exact zwp.ret rfl rfl ⟨⟨rfl, rfl⟩, hR4⟩
  · by_cases q0 : x = 0
    · subst q0
      replace e : (some ((1 : Int32), h1)) = some res := by simpa using e
      show zwp _ _ 9 [some (zr ((0, 10, 0) : zF)), some (zi a1), some (zr ((a2, 23, n2) : zF)), none] [] _ _
      refine zwp.go (m := 1) (j := 10) (ls' := [some (zr ((0, 10, 0) : zF)), some (zi a1), some (zr ((a2, 23, n2) : zF)), none]) (st' := [zi (1 : Int32)]) (h' := h1) rfl ?_
      cases e
      exact zwp.ret rfl rfl ⟨⟨rfl, rfl⟩, hR1⟩
    · skip
      simp [q0] at e
def s_X11_strongest_L25 : Nat → Int32 → Int32 → zH → Option (Int32 × zH)
  | 0, _, _, _ => none
  | n + 1, l2, l3, h => if (zI h 56 0) ≤ l3 then ((s_X11_unpack 71 38 (0 : Int32) h).bind fun h1 => some (l2, h1)) else ((s_X11_isGone l3 h).bind fun v2 => if ¬ v2 = 0 then (s_X11_strongest_L25 n l2 (l3 + (1 : Int32)) h) else (if l2 = (-1 : Int32) then (s_X11_strongest_L25 n l3 (l3 + (1 : Int32)) h) else (zix l3 12 fun i3 => zix l2 12 fun i4 => if (zI h 64 i3) ≤ (zI h 64 i4) then (s_X11_strongest_L25 n l2 (l3 + (1 : Int32)) h) else (s_X11_strongest_L25 n l3 (l3 + (1 : Int32)) h))))
set_option maxRecDepth 100000 in
theorem s_X11_strongest_L25_ok (d : Nat) (ρ : Nat → Nat → Option zF) (hρ : zSh ρ) : ∀ (n : Nat) (l2 : Int32) (l3 : Int32) (h : zH) (res : Int32 × zH) (hR : zRq h ρ) (e : s_X11_strongest_L25  n l2 l3 h = some res), zwp (d + 6) zm_X11_strongest 25 [some (zr ((52, 11, 0) : zF)), none, some (zi l2), some (zi l3)] [] h (zQi ρ res) := by
  intro n
  induction n with
  | zero => intro l2 l3 h res hR e; cases e
  | succ n ih =>
    intro l2 l3 h res hR e
    rw [s_X11_strongest_L25] at e
    refine zwp.go (m := 2) (j := 27) (ls' := [some (zr ((52, 11, 0) : zF)), none, some (zi l2), some (zi l3)]) (st' := [zr ((52, 11, 0) : zF), zi l3]) (h' := h) rfl ?_
    refine zc_sr (r := ((56, 20, 12) : zF)) (zrf (a := 52) (y := 5) hR rfl (hρ 52 5 rfl)) rfl ?_
    refine zwp.go (m := 2) (j := 30) (ls' := [some (zr ((52, 11, 0) : zF)), none, some (zi l2), some (zi l3)]) (st' := [zi (zI h 56 0), zi l3]) (h' := h) rfl ?_
    refine zb_if (j := 51) (j2 := 31) e rfl (fun e => ?_) (fun e => ?_)
    · refine zwp.go (m := 2) (j := 53) (ls' := [some (zr ((52, 11, 0) : zF)), none, some (zi l2), some (zi l3)]) (st' := [zr ((52, 11, 0) : zF), zr ((52, 11, 0) : zF)]) (h' := h) rfl ?_
      refine zc_sr (r := ((71, 20, 38) : zF)) (zrf (a := 52) (y := 42) hR rfl (hρ 52 42 rfl)) rfl ?_
      refine zwp.go (m := 1) (j := 55) (ls' := [some (zr ((52, 11, 0) : zF)), none, some (zi l2), some (zi l3)]) (st' := [zi (0 : Int32), zr ((71, 20, 38) : zF), zr ((52, 11, 0) : zF)]) (h' := h) rfl ?_
      refine zc_cv (d := d + 5) e (fun q e => s_X11_unpack_ok (d + 5) ρ hρ 71 38 (0 : Int32) h q hR e) rfl rfl (fun h1 hR1 e => ?_)
      refine zwp.go (m := 1) (j := 57) (ls' := [some (zr ((52, 11, 0) : zF)), none, some (zi l2), some (zi l3)]) (st' := [zi l2]) (h' := h1) rfl ?_
      cases e
      exact zwp.ret rfl rfl ⟨⟨rfl, rfl⟩, hR1⟩
    · refine zwp.go (m := 2) (j := 33) (ls' := [some (zr ((52, 11, 0) : zF)), none, some (zi l2), some (zi l3)]) (st' := [zi l3, zr ((52, 11, 0) : zF)]) (h' := h) rfl ?_
      refine zc_cp (d := d + 5) e (fun q e => s_X11_isGone_ok (d + 5) ρ hρ l3 h q hR e) rfl rfl (fun v2 e => ?_)
      refine zb_if (j := 49) (j2 := 35) e rfl (fun e => ?_) (fun e => ?_)
      · refine zwp.go (m := 2) (j := 25) (ls' := [some (zr ((52, 11, 0) : zF)), none, some (zi l2), some (zi (l3 + (1 : Int32)))]) (st' := []) (h' := h) rfl ?_
        exact ih l2 (l3 + (1 : Int32)) h _ hR e
      · refine zwp.go (m := 2) (j := 37) (ls' := [some (zr ((52, 11, 0) : zF)), none, some (zi l2), some (zi l3)]) (st' := [zi (-1 : Int32), zi l2]) (h' := h) rfl ?_
        refine zb_if (j := 47) (j2 := 38) e rfl (fun e => ?_) (fun e => ?_)
        · refine zwp.go (m := 4) (j := 25) (ls' := [some (zr ((52, 11, 0) : zF)), none, some (zi l3), some (zi (l3 + (1 : Int32)))]) (st' := []) (h' := h) rfl ?_
          exact ih l3 (l3 + (1 : Int32)) h _ hR e
        · refine zwp.go (m := 1) (j := 39) (ls' := [some (zr ((52, 11, 0) : zF)), none, some (zi l2), some (zi l3)]) (st' := [zr ((52, 11, 0) : zF)]) (h' := h) rfl ?_
          refine zc_sr (r := ((64, 20, 12) : zF)) (zrf (a := 52) (y := 24) hR rfl (hρ 52 24 rfl)) rfl ?_
          refine zwp.go (m := 1) (j := 41) (ls' := [some (zr ((52, 11, 0) : zF)), none, some (zi l2), some (zi l3)]) (st' := [zi l3, zr ((64, 20, 12) : zF)]) (h' := h) rfl ?_
          refine zc_ai e (fun _ => rfl) (fun i3 e => ?_)
          refine zwp.go (m := 1) (j := 43) (ls' := [some (zr ((52, 11, 0) : zF)), none, some (zi l2), some (zi l3)]) (st' := [zr ((52, 11, 0) : zF), zi (zI h 64 i3)]) (h' := h) rfl ?_
          refine zc_sr (r := ((64, 20, 12) : zF)) (zrf (a := 52) (y := 24) hR rfl (hρ 52 24 rfl)) rfl ?_
          refine zwp.go (m := 1) (j := 45) (ls' := [some (zr ((52, 11, 0) : zF)), none, some (zi l2), some (zi l3)]) (st' := [zi l2, zr ((64, 20, 12) : zF), zi (zI h 64 i3)]) (h' := h) rfl ?_
          refine zc_ai e (fun _ => rfl) (fun i4 e => ?_)
          refine zb_if (j := 49) (j2 := 47) e rfl (fun e => ?_) (fun e => ?_)
          · refine zwp.go (m := 2) (j := 25) (ls' := [some (zr ((52, 11, 0) : zF)), none, some (zi l2), some (zi (l3 + (1 : Int32)))]) (st' := []) (h' := h) rfl ?_
            exact ih l2 (l3 + (1 : Int32)) h _ hR e
          · refine zwp.go (m := 4) (j := 25) (ls' := [some (zr ((52, 11, 0) : zF)), none, some (zi l3), some (zi (l3 + (1 : Int32)))]) (st' := []) (h' := h) rfl ?_
            exact ih l3 (l3 + (1 : Int32)) h _ hR e
def s_X11_strongest (a1 : Int32) (h : zH) : Option (Int32 × zH) := zlt (zwI h 52 4 (0 : Int32)) fun h1 => (s_X11_isIn a1.toInt64 (0 : Int64) (60 : Int64) h1).bind fun v2 => if ¬ v2 = 0 then ((s_X11_pack 71 38 (0 : Int32) h1).bind fun h3 => (s_X11_goOn a1 h3).bind fun h4 => s_X11_strongest_L25 zfu (-1 : Int32) (0 : Int32) h4) else (zbd (s_X11_fail (1 : Int32) h1) fun v6 h5 => some (v6, h5))
set_option maxRecDepth 100000 in
theorem s_X11_strongest_ok (d : Nat) (ρ : Nat → Nat → Option zF) (hρ : zSh ρ) (a1 : Int32) (h : zH) (res : Int32 × zH) (hR : zRq h ρ) (e : s_X11_strongest a1 h = some res) : zcl (d + 6) 239 [zr ((52, 11, 0) : zF), zi a1] h (zQi ρ res) := by
  rw [s_X11_strongest] at e
  refine ⟨zm_X11_strongest, rfl, ?_⟩
  show zwp (d + 6) zm_X11_strongest 0 [some (zr ((52, 11, 0) : zF)), some (zi a1), none, none] [] h _
  refine zwp.go (m := 2) (j := 2) (ls' := [some (zr ((52, 11, 0) : zF)), some (zi a1), none, none]) (st' := [zi (0 : Int32), zr ((52, 11, 0) : zF)]) (h' := h) rfl ?_
  refine zc_w e rfl hR (fun h1 hR1 e => ?_)
  refine zwp.go (m := 4) (j := 7) (ls' := [some (zr ((52, 11, 0) : zF)), some (zi a1), none, none]) (st' := [zl (60 : Int64), zl (0 : Int64), zl a1.toInt64]) (h' := h1) rfl ?_
  refine zc_cp (d := d + 5) e (fun q e => s_X11_isIn_ok (d + 5) ρ hρ a1.toInt64 (0 : Int64) (60 : Int64) h1 q hR1 e) rfl rfl (fun v2 e => ?_)
  refine zb_if (j := 13) (j2 := 9) e rfl (fun e => ?_) (fun e => ?_)
  · refine zwp.go (m := 2) (j := 15) (ls' := [some (zr ((52, 11, 0) : zF)), some (zi a1), none, none]) (st' := [zr ((52, 11, 0) : zF), zr ((52, 11, 0) : zF)]) (h' := h1) rfl ?_
    refine zc_sr (r := ((71, 20, 38) : zF)) (zrf (a := 52) (y := 42) hR1 rfl (hρ 52 42 rfl)) rfl ?_
    refine zwp.go (m := 1) (j := 17) (ls' := [some (zr ((52, 11, 0) : zF)), some (zi a1), none, none]) (st' := [zi (0 : Int32), zr ((71, 20, 38) : zF), zr ((52, 11, 0) : zF)]) (h' := h1) rfl ?_
    refine zc_cv (d := d + 5) e (fun q e => s_X11_pack_ok (d + 5) ρ hρ 71 38 (0 : Int32) h1 q hR1 e) rfl rfl (fun h3 hR3 e => ?_)
    refine zwp.go (m := 2) (j := 20) (ls' := [some (zr ((52, 11, 0) : zF)), some (zi a1), none, none]) (st' := [zi a1, zr ((52, 11, 0) : zF)]) (h' := h3) rfl ?_
    refine zc_cv (d := d + 5) e (fun q e => s_X11_goOn_ok (d + 0) ρ hρ a1 h3 q hR3 e) rfl rfl (fun h4 hR4 e => ?_)
    refine zwp.go (m := 4) (j := 25) (ls' := [some (zr ((52, 11, 0) : zF)), some (zi a1), some (zi (-1 : Int32)), some (zi (0 : Int32))]) (st' := []) (h' := h4) rfl ?_
    refine zwp.fg (a := [some (zr ((52, 11, 0) : zF)), none, some (zi (-1 : Int32)), some (zi (0 : Int32))]) (And.intro rfl (And.intro rfl (And.intro rfl trivial))) ?_
    exact s_X11_strongest_L25_ok d ρ hρ zfu (-1 : Int32) (0 : Int32) h4 _ hR4 e
  · refine zwp.go (m := 2) (j := 11) (ls' := [some (zr ((52, 11, 0) : zF)), some (zi a1), none, none]) (st' := [zi (1 : Int32), zr ((52, 11, 0) : zF)]) (h' := h1) rfl ?_
    refine zc_ci (d := d + 5) e (fun q e => s_X11_fail_ok (d + 5) ρ hρ (1 : Int32) h1 q hR1 e) rfl rfl (fun v6 h5 hR5 e => ?_)
    cases e
    exact zwp.ret rfl rfl ⟨⟨rfl, rfl⟩, hR5⟩
