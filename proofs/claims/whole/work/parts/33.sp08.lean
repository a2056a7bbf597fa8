/-! ===== methods as functions, 8 ===== -/
def s_X10_span_J32 (pp : Nat) (k15 : (Int32 → Int32 → Int32 → Int32 → Int32 → Int32 → zH → Option ((Int32 ⊕ Nat) × zH))) (l1 : Int32) (l2 : Int32) (l3 : Int32) (l4 : Int32) (l6 : Int32) (s0 : Int32) (h : zH) : Option ((Int32 ⊕ Nat) × zH) := if s0 ≤ l3 then (k15 l1 l2 l3 l4 s0 (l6 + (1 : Int32)) h) else (k15 l1 l2 s0 ((l6 - s0) + (1 : Int32)) s0 (l6 + (1 : Int32)) h)
set_option maxRecDepth 100000 in
theorem s_X10_span_J32_ok (d : Nat) (ρ : Nat → Nat → Option zF) (hρ : zSh ρ) (pp : Nat) (hpp : ρ 0 3 = some (pp, 3, 0) ∧ zPlS ρ pp) (k15 : (Int32 → Int32 → Int32 → Int32 → Int32 → Int32 → zH → Option ((Int32 ⊕ Nat) × zH))) (hk15 : ∀ l1 l2 l3 l4 l5 l6 h res, zRq h ρ → k15 l1 l2 l3 l4 l5 l6 h = some res → zwp (d + 2) zm_X10_span 15 [some (zr ((0, 10, 0) : zF)), some (zi l1), some (zi l2), some (zi l3), some (zi l4), some (zi l5), some (zi l6)] [] h (zQx ρ res)) (l1 : Int32) (l2 : Int32) (l3 : Int32) (l4 : Int32) (l6 : Int32) (s0 : Int32) (h : zH) (res : (Int32 ⊕ Nat) × zH) (hR : zRq h ρ) (e : s_X10_span_J32 pp k15 l1 l2 l3 l4 l6 s0 h = some res) : zwp (d + 2) zm_X10_span 32 [some (zr ((0, 10, 0) : zF)), some (zi l1), some (zi l2), some (zi l3), some (zi l4), none, some (zi l6)] [zi s0] h (zQx ρ res) := by
  rw [s_X10_span_J32] at e
  refine zwp.go (m := 3) (j := 35) (ls' := [some (zr ((0, 10, 0) : zF)), some (zi l1), some (zi l2), some (zi l3), some (zi l4), some (zi s0), some (zi l6)]) (st' := [zi l3, zi s0]) (h' := h) rfl ?_
  refine zb_if (j := 44) (j2 := 36) e rfl (fun e => ?_) (fun e => ?_)
  · refine zwp.go (m := 2) (j := 15) (ls' := [some (zr ((0, 10, 0) : zF)), some (zi l1), some (zi l2), some (zi l3), some (zi l4), some (zi s0), some (zi (l6 + (1 : Int32)))]) (st' := []) (h' := h) rfl ?_
    exact hk15 l1 l2 l3 l4 s0 (l6 + (1 : Int32)) h _ hR e
  · refine zwp.go (m := 10) (j := 15) (ls' := [some (zr ((0, 10, 0) : zF)), some (zi l1), some (zi l2), some (zi s0), some (zi ((l6 - s0) + (1 : Int32))), some (zi s0), some (zi (l6 + (1 : Int32)))]) (st' := []) (h' := h) rfl ?_
    exact hk15 l1 l2 s0 ((l6 - s0) + (1 : Int32)) s0 (l6 + (1 : Int32)) h _ hR e
def s_X10_span_L15 (pp : Nat) : Nat → Int32 → Int32 → Int32 → Int32 → Int32 → Int32 → zH → Option ((Int32 ⊕ Nat) × zH)
  | 0, _, _, _, _, _, _, _ => none
  | n + 1, l1, l2, l3, l4, l5, l6, h => if (zI h pp 6) ≤ l6 then (if ¬ l1 = 0 then (some (Sum.inl l4, h)) else (some (Sum.inl l3, h))) else (if ¬ ((l2 >>> (l6 &&& 31)) &&& (1 : Int32)) = (1 : Int32) then (s_X10_span_J32 pp (s_X10_span_L15 pp n) l1 l2 l3 l4 l6 (0 : Int32) h) else (s_X10_span_J32 pp (s_X10_span_L15 pp n) l1 l2 l3 l4 l6 (l5 + (1 : Int32)) h))
set_option maxRecDepth 100000 in
theorem s_X10_span_L15_ok (d : Nat) (ρ : Nat → Nat → Option zF) (hρ : zSh ρ) (pp : Nat) (hpp : ρ 0 3 = some (pp, 3, 0) ∧ zPlS ρ pp) : ∀ (n : Nat) (l1 : Int32) (l2 : Int32) (l3 : Int32) (l4 : Int32) (l5 : Int32) (l6 : Int32) (h : zH) (res : (Int32 ⊕ Nat) × zH) (hR : zRq h ρ) (e : s_X10_span_L15 pp n l1 l2 l3 l4 l5 l6 h = some res), zwp (d + 2) zm_X10_span 15 [some (zr ((0, 10, 0) : zF)), some (zi l1), some (zi l2), some (zi l3), some (zi l4), some (zi l5), some (zi l6)] [] h (zQx ρ res) := by
  intro n
  induction n with
  | zero => intro l1 l2 l3 l4 l5 l6 h res hR e; cases e
  | succ n ih =>
    intro l1 l2 l3 l4 l5 l6 h res hR e
    rw [s_X10_span_L15] at e
    refine zwp.go (m := 2) (j := 17) (ls' := [some (zr ((0, 10, 0) : zF)), some (zi l1), some (zi l2), some (zi l3), some (zi l4), some (zi l5), some (zi l6)]) (st' := [zr ((0, 10, 0) : zF), zi l6]) (h' := h) rfl ?_
    refine zc_sr (r := ((pp, 3, 0) : zF)) (zrf (a := 0) (y := 3) hR rfl hpp.1) rfl ?_
    refine zwp.go (m := 1) (j := 19) (ls' := [some (zr ((0, 10, 0) : zF)), some (zi l1), some (zi l2), some (zi l3), some (zi l4), some (zi l5), some (zi l6)]) (st' := [zi (zI h pp 6), zi l6]) (h' := h) rfl ?_
    refine zb_if (j := 46) (j2 := 20) e rfl (fun e => ?_) (fun e => ?_)
    · refine zwp.go (m := 1) (j := 47) (ls' := [some (zr ((0, 10, 0) : zF)), some (zi l1), some (zi l2), some (zi l3), some (zi l4), some (zi l5), some (zi l6)]) (st' := [zi l1]) (h' := h) rfl ?_
      refine zb_if (j := 50) (j2 := 48) e rfl (fun e => ?_) (fun e => ?_)
      · refine zwp.go (m := 1) (j := 51) (ls' := [some (zr ((0, 10, 0) : zF)), some (zi l1), some (zi l2), some (zi l3), some (zi l4), some (zi l5), some (zi l6)]) (st' := [zi l4]) (h' := h) rfl ?_
        cases e
        exact zwp.ret rfl rfl ⟨⟨rfl, rfl⟩, hR⟩
      · refine zwp.go (m := 2) (j := 51) (ls' := [some (zr ((0, 10, 0) : zF)), some (zi l1), some (zi l2), some (zi l3), some (zi l4), some (zi l5), some (zi l6)]) (st' := [zi l3]) (h' := h) rfl ?_
        cases e
        exact zwp.ret rfl rfl ⟨⟨rfl, rfl⟩, hR⟩
    · refine zwp.go (m := 6) (j := 26) (ls' := [some (zr ((0, 10, 0) : zF)), some (zi l1), some (zi l2), some (zi l3), some (zi l4), some (zi l5), some (zi l6)]) (st' := [zi (1 : Int32), zi ((l2 >>> (l6 &&& 31)) &&& (1 : Int32))]) (h' := h) rfl ?_
      refine zb_if (j := 31) (j2 := 27) e rfl (fun e => ?_) (fun e => ?_)
      · refine zwp.go (m := 1) (j := 32) (ls' := [some (zr ((0, 10, 0) : zF)), some (zi l1), some (zi l2), some (zi l3), some (zi l4), some (zi l5), some (zi l6)]) (st' := [zi (0 : Int32)]) (h' := h) rfl ?_
        refine zwp.fg (a := [some (zr ((0, 10, 0) : zF)), some (zi l1), some (zi l2), some (zi l3), some (zi l4), none, some (zi l6)]) (And.intro rfl (And.intro rfl (And.intro rfl (And.intro rfl (And.intro rfl (And.intro rfl trivial)))))) ?_
        exact s_X10_span_J32_ok d ρ hρ pp hpp (s_X10_span_L15 pp n) ih l1 l2 l3 l4 l6 (0 : Int32) h _ hR e
      · refine zwp.go (m := 4) (j := 32) (ls' := [some (zr ((0, 10, 0) : zF)), some (zi l1), some (zi l2), some (zi l3), some (zi l4), some (zi l5), some (zi l6)]) (st' := [zi (l5 + (1 : Int32))]) (h' := h) rfl ?_
        refine zwp.fg (a := [some (zr ((0, 10, 0) : zF)), some (zi l1), some (zi l2), some (zi l3), some (zi l4), none, some (zi l6)]) (And.intro rfl (And.intro rfl (And.intro rfl (And.intro rfl (And.intro rfl (And.intro rfl trivial)))))) ?_
        exact s_X10_span_J32_ok d ρ hρ pp hpp (s_X10_span_L15 pp n) ih l1 l2 l3 l4 l6 (l5 + (1 : Int32)) h _ hR e
def s_X10_span (pp : Nat) (a1 : Int32) (h : zH) : Option ((Int32 ⊕ Nat) × zH) := zbx (s_X10_needWhat pp a1 (2 : Int32) h) (fun _ h2 => (s_X10_aliveNow pp h2).bind fun v3 => s_X10_span_L15 pp zfu a1 v3 (0 : Int32) (-1 : Int32) (0 : Int32) (0 : Int32) h2) (fun x h1 => some (Sum.inr x, h1))
set_option maxRecDepth 100000 in
theorem s_X10_span_ok (d : Nat) (ρ : Nat → Nat → Option zF) (hρ : zSh ρ) (pp : Nat) (a1 : Int32) (hpp : ρ 0 3 = some (pp, 3, 0) ∧ zPlS ρ pp) (h : zH) (res : (Int32 ⊕ Nat) × zH) (hR : zRq h ρ) (e : s_X10_span pp a1 h = some res) : zcl (d + 2) 240 [zr ((0, 10, 0) : zF), zi a1] h (zQx ρ res) := by
  rw [s_X10_span] at e
  refine ⟨zm_X10_span, rfl, ?_⟩
  show zwp (d + 2) zm_X10_span 0 [some (zr ((0, 10, 0) : zF)), some (zi a1), none, none, none, none, none] [] h _
  refine zwp.go (m := 3) (j := 3) (ls' := [some (zr ((0, 10, 0) : zF)), some (zi a1), none, none, none, none, none]) (st' := [zi (2 : Int32), zi a1, zr ((0, 10, 0) : zF)]) (h' := h) rfl ?_
  refine zc_cu (d := d + 1) e (fun q e => s_X10_needWhat_ok (d + 1) ρ hρ pp a1 (2 : Int32) hpp h q hR e) rfl rfl (fun h2 hR2 e => ?_) (fun x h1 hR1 e => ?_)
  · refine zwp.go (m := 1) (j := 5) (ls' := [some (zr ((0, 10, 0) : zF)), some (zi a1), none, none, none, none, none]) (st' := [zr ((0, 10, 0) : zF)]) (h' := h2) rfl ?_
    refine zc_cp (d := d + 1) e (fun q e => s_X10_aliveNow_ok (d + 0) ρ hρ pp hpp h2 q hR2 e) rfl rfl (fun v3 e => ?_)
    refine zwp.go (m := 9) (j := 15) (ls' := [some (zr ((0, 10, 0) : zF)), some (zi a1), some (zi v3), some (zi (0 : Int32)), some (zi (-1 : Int32)), some (zi (0 : Int32)), some (zi (0 : Int32))]) (st' := []) (h' := h2) rfl ?_
    exact s_X10_span_L15_ok d ρ hρ pp hpp zfu a1 v3 (0 : Int32) (-1 : Int32) (0 : Int32) (0 : Int32) h2 _ hR2 e
  · cases e
    exact ⟨rfl, ⟨⟨rfl, rfl⟩, hR1⟩⟩
def s_L_span (pp : Nat) (a1 : Int32) (a2 n2 : Nat) (h : zH) : Option (Int32 × zH) := zbx (s_X10_span pp a1 h) (fun v3 h2 => zix (0 : Int32) n2 fun i5 => zlt (zwL h2 a2 i5 v3.toInt64) fun h4 => some ((0 : Int32), h4)) (fun x h1 => if x = 1 then (some ((1 : Int32), h1)) else none)
set_option maxRecDepth 100000 in
theorem s_L_span_ok (d : Nat) (ρ : Nat → Nat → Option zF) (hρ : zSh ρ) (pp : Nat) (a1 : Int32) (a2 n2 : Nat) (hpp : ρ 0 3 = some (pp, 3, 0) ∧ zPlS ρ pp) (h : zH) (res : Int32 × zH) (hR : zRq h ρ) (e : s_L_span pp a1 a2 n2 h = some res) : zcl (d + 3) 241 [zr ((0, 10, 0) : zF), zi a1, zr ((a2, 23, n2) : zF)] h (zQi ρ res) := by
  rw [s_L_span] at e
  refine ⟨zm_L_span, rfl, ?_⟩
  show zwp (d + 3) zm_L_span 0 [some (zr ((0, 10, 0) : zF)), some (zi a1), some (zr ((a2, 23, n2) : zF)), none] [] h _
  refine zwp.go (m := 4) (j := 4) (ls' := [some (zr ((0, 10, 0) : zF)), some (zi a1), some (zr ((a2, 23, n2) : zF)), none]) (st' := [zi a1, zr ((0, 10, 0) : zF), zi (0 : Int32), zr ((a2, 23, n2) : zF)]) (h' := h) rfl ?_
  refine zc_cx (d := d + 2) e (fun q e => s_X10_span_ok (d + 0) ρ hρ pp a1 hpp h q hR e) rfl rfl (fun v3 h2 hR2 e => ?_) (fun x h1 hR1 e => ?_)
  · refine zwp.go (m := 1) (j := 6) (ls' := [some (zr ((0, 10, 0) : zF)), some (zi a1), some (zr ((a2, 23, n2) : zF)), none]) (st' := [zl v3.toInt64, zi (0 : Int32), zr ((a2, 23, n2) : zF)]) (h' := h2) rfl ?_
    refine zc_sl e (fun _ => rfl) hR2 (fun h4 hR4 e => ?_)
    refine zwp.go (m := 2) (j := 12) (ls' := [some (zr ((0, 10, 0) : zF)), some (zi a1), some (zr ((a2, 23, n2) : zF)), none]) (st' := [zi (0 : Int32)]) (h' := h4) rfl ?_
    cases e
    exact zwp.ret rfl rfl ⟨⟨rfl, rfl⟩, hR4⟩
  · by_cases q1 : x = 1
    · subst q1
      replace e : (some ((1 : Int32), h1)) = some res := by simpa using e
      show zwp _ _ 9 [some (zr ((0, 10, 0) : zF)), some (zi a1), some (zr ((a2, 23, n2) : zF)), none] [] _ _
      refine zwp.go (m := 1) (j := 10) (ls' := [some (zr ((0, 10, 0) : zF)), some (zi a1), some (zr ((a2, 23, n2) : zF)), none]) (st' := [zi (1 : Int32)]) (h' := h1) rfl ?_
      cases e
      exact zwp.ret rfl rfl ⟨⟨rfl, rfl⟩, hR1⟩
    · skip
      simp [q1] at e
def s_X11_span_J36 (k21 : (Int32 → Int32 → Int32 → Int32 → Int32 → zH → Option (Int32 × zH))) (l1 : Int32) (l2 : Int32) (l3 : Int32) (l5 : Int32) (s0 : Int32) (h : zH) : Option (Int32 × zH) := if l3 < s0 then (k21 l1 ((l5 - s0) + (1 : Int32)) s0 s0 (l5 + (1 : Int32)) h) else (k21 l1 l2 l3 s0 (l5 + (1 : Int32)) h)
set_option maxRecDepth 100000 in
theorem s_X11_span_J36_ok (d : Nat) (ρ : Nat → Nat → Option zF) (hρ : zSh ρ) (k21 : (Int32 → Int32 → Int32 → Int32 → Int32 → zH → Option (Int32 × zH))) (hk21 : ∀ l1 l2 l3 l4 l5 h res, zRq h ρ → k21 l1 l2 l3 l4 l5 h = some res → zwp (d + 1) zm_X11_span 21 [some (zr ((52, 11, 0) : zF)), some (zi l1), some (zi l2), some (zi l3), some (zi l4), some (zi l5)] [] h (zQi ρ res)) (l1 : Int32) (l2 : Int32) (l3 : Int32) (l5 : Int32) (s0 : Int32) (h : zH) (res : Int32 × zH) (hR : zRq h ρ) (e : s_X11_span_J36 k21 l1 l2 l3 l5 s0 h = some res) : zwp (d + 1) zm_X11_span 36 [some (zr ((52, 11, 0) : zF)), some (zi l1), some (zi l2), some (zi l3), none, some (zi l5)] [zi s0] h (zQi ρ res) := by
  rw [s_X11_span_J36] at e
  refine zwp.go (m := 3) (j := 39) (ls' := [some (zr ((52, 11, 0) : zF)), some (zi l1), some (zi l2), some (zi l3), some (zi s0), some (zi l5)]) (st' := [zi l3, zi s0]) (h' := h) rfl ?_
  refine zb_if (j := 41) (j2 := 40) e rfl (fun e => ?_) (fun e => ?_)
  · refine zwp.go (m := 10) (j := 21) (ls' := [some (zr ((52, 11, 0) : zF)), some (zi l1), some (zi ((l5 - s0) + (1 : Int32))), some (zi s0), some (zi s0), some (zi (l5 + (1 : Int32)))]) (st' := []) (h' := h) rfl ?_
    exact hk21 l1 ((l5 - s0) + (1 : Int32)) s0 s0 (l5 + (1 : Int32)) h _ hR e
  · refine zwp.go (m := 3) (j := 21) (ls' := [some (zr ((52, 11, 0) : zF)), some (zi l1), some (zi l2), some (zi l3), some (zi s0), some (zi (l5 + (1 : Int32)))]) (st' := []) (h' := h) rfl ?_
    exact hk21 l1 l2 l3 s0 (l5 + (1 : Int32)) h _ hR e
def s_X11_span_L21 : Nat → Int32 → Int32 → Int32 → Int32 → Int32 → zH → Option (Int32 × zH)
  | 0, _, _, _, _, _, _ => none
  | n + 1, l1, l2, l3, l4, l5, h => if (zI h 56 0) ≤ l5 then (if ¬ l1 = 0 then (some (l2, h)) else (some (l3, h))) else ((s_X11_isGone l5 h).bind fun v1 => if v1 = 0 then (s_X11_span_J36 (s_X11_span_L21 n) l1 l2 l3 l5 (l4 + (1 : Int32)) h) else (s_X11_span_J36 (s_X11_span_L21 n) l1 l2 l3 l5 (0 : Int32) h))
set_option maxRecDepth 100000 in
theorem s_X11_span_L21_ok (d : Nat) (ρ : Nat → Nat → Option zF) (hρ : zSh ρ) : ∀ (n : Nat) (l1 : Int32) (l2 : Int32) (l3 : Int32) (l4 : Int32) (l5 : Int32) (h : zH) (res : Int32 × zH) (hR : zRq h ρ) (e : s_X11_span_L21  n l1 l2 l3 l4 l5 h = some res), zwp (d + 1) zm_X11_span 21 [some (zr ((52, 11, 0) : zF)), some (zi l1), some (zi l2), some (zi l3), some (zi l4), some (zi l5)] [] h (zQi ρ res) := by
  intro n
  induction n with
  | zero => intro l1 l2 l3 l4 l5 h res hR e; cases e
  | succ n ih =>
    intro l1 l2 l3 l4 l5 h res hR e
    rw [s_X11_span_L21] at e
    refine zwp.go (m := 2) (j := 23) (ls' := [some (zr ((52, 11, 0) : zF)), some (zi l1), some (zi l2), some (zi l3), some (zi l4), some (zi l5)]) (st' := [zr ((52, 11, 0) : zF), zi l5]) (h' := h) rfl ?_
    refine zc_sr (r := ((56, 20, 12) : zF)) (zrf (a := 52) (y := 5) hR rfl (hρ 52 5 rfl)) rfl ?_
    refine zwp.go (m := 2) (j := 26) (ls' := [some (zr ((52, 11, 0) : zF)), some (zi l1), some (zi l2), some (zi l3), some (zi l4), some (zi l5)]) (st' := [zi (zI h 56 0), zi l5]) (h' := h) rfl ?_
    refine zb_if (j := 51) (j2 := 27) e rfl (fun e => ?_) (fun e => ?_)
    · refine zwp.go (m := 1) (j := 52) (ls' := [some (zr ((52, 11, 0) : zF)), some (zi l1), some (zi l2), some (zi l3), some (zi l4), some (zi l5)]) (st' := [zi l1]) (h' := h) rfl ?_
      refine zb_if (j := 55) (j2 := 53) e rfl (fun e => ?_) (fun e => ?_)
      · refine zwp.go (m := 1) (j := 56) (ls' := [some (zr ((52, 11, 0) : zF)), some (zi l1), some (zi l2), some (zi l3), some (zi l4), some (zi l5)]) (st' := [zi l2]) (h' := h) rfl ?_
        cases e
        exact zwp.ret rfl rfl ⟨⟨rfl, rfl⟩, hR⟩
      · refine zwp.go (m := 2) (j := 56) (ls' := [some (zr ((52, 11, 0) : zF)), some (zi l1), some (zi l2), some (zi l3), some (zi l4), some (zi l5)]) (st' := [zi l3]) (h' := h) rfl ?_
        cases e
        exact zwp.ret rfl rfl ⟨⟨rfl, rfl⟩, hR⟩
    · refine zwp.go (m := 2) (j := 29) (ls' := [some (zr ((52, 11, 0) : zF)), some (zi l1), some (zi l2), some (zi l3), some (zi l4), some (zi l5)]) (st' := [zi l5, zr ((52, 11, 0) : zF)]) (h' := h) rfl ?_
      refine zc_cp (d := d + 0) e (fun q e => s_X11_isGone_ok (d + 0) ρ hρ l5 h q hR e) rfl rfl (fun v1 e => ?_)
      refine zb_if (j := 33) (j2 := 31) e rfl (fun e => ?_) (fun e => ?_)
      · refine zwp.go (m := 3) (j := 36) (ls' := [some (zr ((52, 11, 0) : zF)), some (zi l1), some (zi l2), some (zi l3), some (zi l4), some (zi l5)]) (st' := [zi (l4 + (1 : Int32))]) (h' := h) rfl ?_
        refine zwp.fg (a := [some (zr ((52, 11, 0) : zF)), some (zi l1), some (zi l2), some (zi l3), none, some (zi l5)]) (And.intro rfl (And.intro rfl (And.intro rfl (And.intro rfl (And.intro rfl trivial))))) ?_
        exact s_X11_span_J36_ok d ρ hρ (s_X11_span_L21 n) ih l1 l2 l3 l5 (l4 + (1 : Int32)) h _ hR e
      · refine zwp.go (m := 2) (j := 36) (ls' := [some (zr ((52, 11, 0) : zF)), some (zi l1), some (zi l2), some (zi l3), some (zi l4), some (zi l5)]) (st' := [zi (0 : Int32)]) (h' := h) rfl ?_
        refine zwp.fg (a := [some (zr ((52, 11, 0) : zF)), some (zi l1), some (zi l2), some (zi l3), none, some (zi l5)]) (And.intro rfl (And.intro rfl (And.intro rfl (And.intro rfl (And.intro rfl trivial))))) ?_
        exact s_X11_span_J36_ok d ρ hρ (s_X11_span_L21 n) ih l1 l2 l3 l5 (0 : Int32) h _ hR e
def s_X11_span (a1 : Int32) (h : zH) : Option (Int32 × zH) := zlt (zwI h 52 4 (0 : Int32)) fun h1 => (s_X11_isIn a1.toInt64 (0 : Int64) (1 : Int64) h1).bind fun v2 => if ¬ v2 = 0 then (s_X11_span_L21 zfu a1 (-1 : Int32) (0 : Int32) (0 : Int32) (0 : Int32) h1) else (zbd (s_X11_fail (1 : Int32) h1) fun v4 h3 => some (v4, h3))
set_option maxRecDepth 100000 in
theorem s_X11_span_ok (d : Nat) (ρ : Nat → Nat → Option zF) (hρ : zSh ρ) (a1 : Int32) (h : zH) (res : Int32 × zH) (hR : zRq h ρ) (e : s_X11_span a1 h = some res) : zcl (d + 1) 242 [zr ((52, 11, 0) : zF), zi a1] h (zQi ρ res) := by
  rw [s_X11_span] at e
  refine ⟨zm_X11_span, rfl, ?_⟩
  show zwp (d + 1) zm_X11_span 0 [some (zr ((52, 11, 0) : zF)), some (zi a1), none, none, none, none] [] h _
  refine zwp.go (m := 2) (j := 2) (ls' := [some (zr ((52, 11, 0) : zF)), some (zi a1), none, none, none, none]) (st' := [zi (0 : Int32), zr ((52, 11, 0) : zF)]) (h' := h) rfl ?_
  refine zc_w e rfl hR (fun h1 hR1 e => ?_)
  refine zwp.go (m := 4) (j := 7) (ls' := [some (zr ((52, 11, 0) : zF)), some (zi a1), none, none, none, none]) (st' := [zl (1 : Int64), zl (0 : Int64), zl a1.toInt64]) (h' := h1) rfl ?_
  refine zc_cp (d := d + 0) e (fun q e => s_X11_isIn_ok (d + 0) ρ hρ a1.toInt64 (0 : Int64) (1 : Int64) h1 q hR1 e) rfl rfl (fun v2 e => ?_)
  refine zb_if (j := 13) (j2 := 9) e rfl (fun e => ?_) (fun e => ?_)
  · refine zwp.go (m := 8) (j := 21) (ls' := [some (zr ((52, 11, 0) : zF)), some (zi a1), some (zi (-1 : Int32)), some (zi (0 : Int32)), some (zi (0 : Int32)), some (zi (0 : Int32))]) (st' := []) (h' := h1) rfl ?_
    exact s_X11_span_L21_ok d ρ hρ zfu a1 (-1 : Int32) (0 : Int32) (0 : Int32) (0 : Int32) h1 _ hR1 e
  · refine zwp.go (m := 2) (j := 11) (ls' := [some (zr ((52, 11, 0) : zF)), some (zi a1), none, none, none, none]) (st' := [zi (1 : Int32), zr ((52, 11, 0) : zF)]) (h' := h1) rfl ?_
    refine zc_ci (d := d + 0) e (fun q e => s_X11_fail_ok (d + 0) ρ hρ (1 : Int32) h1 q hR1 e) rfl rfl (fun v4 h3 hR3 e => ?_)
    cases e
    exact zwp.ret rfl rfl ⟨⟨rfl, rfl⟩, hR3⟩
def s_X7_closedUp_L6 (a1 : Nat) : Nat → Int32 → Int32 → Int32 → Int32 → Int32 → zH → Option (Int32)
  | 0, _, _, _, _, _, _ => none
  | n + 1, l2, l3, l4, l5, l6, h => if (zI h a1 6) ≤ l6 then (some l4) else (if ¬ ((l2 >>> (l6 &&& 31)) &&& (1 : Int32)) = (1 : Int32) then (s_X7_closedUp_L6 a1 n l2 l3 l4 l5 (l6 + (1 : Int32)) h) else (zix l3 8 fun i1 => s_X7_closedUp_L6 a1 n l2 l3 (l4 ||| ((((zI h (a1 + 2) i1) >>> (l6 &&& 31)) &&& (1 : Int32)) <<< (l5 &&& 31))) (l5 + (1 : Int32)) (l6 + (1 : Int32)) h))
set_option maxRecDepth 100000 in
theorem s_X7_closedUp_L6_ok (d : Nat) (ρ : Nat → Nat → Option zF) (hρ : zSh ρ) (a1 : Nat) (ha1 : zPlS ρ a1) : ∀ (n : Nat) (l2 : Int32) (l3 : Int32) (l4 : Int32) (l5 : Int32) (l6 : Int32) (h : zH) (res : Int32) (hR : zRq h ρ) (e : s_X7_closedUp_L6 a1 n l2 l3 l4 l5 l6 h = some res), zwp d zm_X7_closedUp 6 [none, some (zr ((a1, 3, 0) : zF)), some (zi l2), some (zi l3), some (zi l4), some (zi l5), some (zi l6)] [] h (zQp h res) := by
  intro n
  induction n with
  | zero => intro l2 l3 l4 l5 l6 h res hR e; cases e
  | succ n ih =>
    intro l2 l3 l4 l5 l6 h res hR e
    rw [s_X7_closedUp_L6] at e
    refine zwp.go (m := 3) (j := 9) (ls' := [none, some (zr ((a1, 3, 0) : zF)), some (zi l2), some (zi l3), some (zi l4), some (zi l5), some (zi l6)]) (st' := [zi (zI h a1 6), zi l6]) (h' := h) rfl ?_
    refine zb_if (j := 33) (j2 := 10) e rfl (fun e => ?_) (fun e => ?_)
    · refine zwp.go (m := 1) (j := 34) (ls' := [none, some (zr ((a1, 3, 0) : zF)), some (zi l2), some (zi l3), some (zi l4), some (zi l5), some (zi l6)]) (st' := [zi l4]) (h' := h) rfl ?_
      cases e
      exact zwp.ret rfl rfl ⟨rfl, rfl⟩
    · refine zwp.go (m := 6) (j := 16) (ls' := [none, some (zr ((a1, 3, 0) : zF)), some (zi l2), some (zi l3), some (zi l4), some (zi l5), some (zi l6)]) (st' := [zi (1 : Int32), zi ((l2 >>> (l6 &&& 31)) &&& (1 : Int32))]) (h' := h) rfl ?_
      refine zb_if (j := 31) (j2 := 17) e rfl (fun e => ?_) (fun e => ?_)
      · refine zwp.go (m := 2) (j := 6) (ls' := [none, some (zr ((a1, 3, 0) : zF)), some (zi l2), some (zi l3), some (zi l4), some (zi l5), some (zi (l6 + (1 : Int32)))]) (st' := []) (h' := h) rfl ?_
        exact ih l2 l3 l4 l5 (l6 + (1 : Int32)) h _ hR e
      · refine zwp.go (m := 2) (j := 19) (ls' := [none, some (zr ((a1, 3, 0) : zF)), some (zi l2), some (zi l3), some (zi l4), some (zi l5), some (zi l6)]) (st' := [zr ((a1, 3, 0) : zF), zi l4]) (h' := h) rfl ?_
        refine zc_sr (r := (((a1 + 2), 20, 8) : zF)) (zrf (a := a1) (y := 1) hR rfl ha1.2.2.1) rfl ?_
        refine zwp.go (m := 1) (j := 21) (ls' := [none, some (zr ((a1, 3, 0) : zF)), some (zi l2), some (zi l3), some (zi l4), some (zi l5), some (zi l6)]) (st' := [zi l3, zr (((a1 + 2), 20, 8) : zF), zi l4]) (h' := h) rfl ?_
        refine zc_ai e (fun _ => rfl) (fun i1 e => ?_)
        refine zwp.go (m := 11) (j := 6) (ls' := [none, some (zr ((a1, 3, 0) : zF)), some (zi l2), some (zi l3), some (zi (l4 ||| ((((zI h (a1 + 2) i1) >>> (l6 &&& 31)) &&& (1 : Int32)) <<< (l5 &&& 31)))), some (zi (l5 + (1 : Int32))), some (zi (l6 + (1 : Int32)))]) (st' := []) (h' := h) rfl ?_
        exact ih l2 l3 (l4 ||| ((((zI h (a1 + 2) i1) >>> (l6 &&& 31)) &&& (1 : Int32)) <<< (l5 &&& 31))) (l5 + (1 : Int32)) (l6 + (1 : Int32)) h _ hR e
def s_X7_closedUp (a1 : Nat) (a2 : Int32) (a3 : Int32) (h : zH) : Option (Int32) := s_X7_closedUp_L6 a1 zfu a2 a3 (0 : Int32) (0 : Int32) (0 : Int32) h
set_option maxRecDepth 100000 in
theorem s_X7_closedUp_ok (d : Nat) (ρ : Nat → Nat → Option zF) (hρ : zSh ρ) (a1 : Nat) (a2 : Int32) (a3 : Int32) (ha1 : zPlS ρ a1) (h : zH) (res : Int32) (hR : zRq h ρ) (e : s_X7_closedUp a1 a2 a3 h = some res) : zcl d 243 [zr ((44, 7, 0) : zF), zr ((a1, 3, 0) : zF), zi a2, zi a3] h (zQp h res) := by
  rw [s_X7_closedUp] at e
  refine ⟨zm_X7_closedUp, rfl, ?_⟩
  show zwp d zm_X7_closedUp 0 [some (zr ((44, 7, 0) : zF)), some (zr ((a1, 3, 0) : zF)), some (zi a2), some (zi a3), none, none, none] [] h _
  refine zwp.go (m := 6) (j := 6) (ls' := [some (zr ((44, 7, 0) : zF)), some (zr ((a1, 3, 0) : zF)), some (zi a2), some (zi a3), some (zi (0 : Int32)), some (zi (0 : Int32)), some (zi (0 : Int32))]) (st' := []) (h' := h) rfl ?_
  refine zwp.fg (a := [none, some (zr ((a1, 3, 0) : zF)), some (zi a2), some (zi a3), some (zi (0 : Int32)), some (zi (0 : Int32)), some (zi (0 : Int32))]) (And.intro rfl (And.intro rfl (And.intro rfl (And.intro rfl (And.intro rfl (And.intro rfl trivial)))))) ?_
  exact s_X7_closedUp_L6_ok d ρ hρ a1 ha1 zfu a2 a3 (0 : Int32) (0 : Int32) (0 : Int32) h _ hR e
def s_X7_mirrorOf_L32 (a1 : Nat) : Nat → Int32 → Int32 → Int32 → zH → Option (Int32)
  | 0, _, _, _, _ => none
  | n + 1, l2, l4, l5, h => if (zI h a1 8) ≤ l5 then (some (-1 : Int32)) else ((s_X7_closedUp a1 l2 l5 h).bind fun v1 => if ¬ v1 = l4 then (s_X7_mirrorOf_L32 a1 n l2 l4 (l5 + (1 : Int32)) h) else (some l5))
set_option maxRecDepth 100000 in
theorem s_X7_mirrorOf_L32_ok (d : Nat) (ρ : Nat → Nat → Option zF) (hρ : zSh ρ) (a1 : Nat) (ha1 : zPlS ρ a1) : ∀ (n : Nat) (l2 : Int32) (l4 : Int32) (l5 : Int32) (h : zH) (res : Int32) (hR : zRq h ρ) (e : s_X7_mirrorOf_L32 a1 n l2 l4 l5 h = some res), zwp (d + 1) zm_X7_mirrorOf 32 [some (zr ((44, 7, 0) : zF)), some (zr ((a1, 3, 0) : zF)), some (zi l2), none, some (zi l4), some (zi l5)] [] h (zQp h res) := by
  intro n
  induction n with
  | zero => intro l2 l4 l5 h res hR e; cases e
  | succ n ih =>
    intro l2 l4 l5 h res hR e
    rw [s_X7_mirrorOf_L32] at e
    refine zwp.go (m := 3) (j := 35) (ls' := [some (zr ((44, 7, 0) : zF)), some (zr ((a1, 3, 0) : zF)), some (zi l2), none, some (zi l4), some (zi l5)]) (st' := [zi (zI h a1 8), zi l5]) (h' := h) rfl ?_
    refine zb_if (j := 47) (j2 := 36) e rfl (fun e => ?_) (fun e => ?_)
    · refine zwp.go (m := 1) (j := 48) (ls' := [some (zr ((44, 7, 0) : zF)), some (zr ((a1, 3, 0) : zF)), some (zi l2), none, some (zi l4), some (zi l5)]) (st' := [zi (-1 : Int32)]) (h' := h) rfl ?_
      cases e
      exact zwp.ret rfl rfl ⟨rfl, rfl⟩
    · refine zwp.go (m := 4) (j := 40) (ls' := [some (zr ((44, 7, 0) : zF)), some (zr ((a1, 3, 0) : zF)), some (zi l2), none, some (zi l4), some (zi l5)]) (st' := [zi l5, zi l2, zr ((a1, 3, 0) : zF), zr ((44, 7, 0) : zF)]) (h' := h) rfl ?_
      refine zc_cp (d := d + 0) e (fun q e => s_X7_closedUp_ok (d + 0) ρ hρ a1 l2 l5 ha1 h q hR e) rfl rfl (fun v1 e => ?_)
      refine zwp.go (m := 1) (j := 42) (ls' := [some (zr ((44, 7, 0) : zF)), some (zr ((a1, 3, 0) : zF)), some (zi l2), none, some (zi l4), some (zi l5)]) (st' := [zi l4, zi v1]) (h' := h) rfl ?_
      refine zb_if (j := 45) (j2 := 43) e rfl (fun e => ?_) (fun e => ?_)
      · refine zwp.go (m := 2) (j := 32) (ls' := [some (zr ((44, 7, 0) : zF)), some (zr ((a1, 3, 0) : zF)), some (zi l2), none, some (zi l4), some (zi (l5 + (1 : Int32)))]) (st' := []) (h' := h) rfl ?_
        exact ih l2 l4 (l5 + (1 : Int32)) h _ hR e
      · refine zwp.go (m := 1) (j := 44) (ls' := [some (zr ((44, 7, 0) : zF)), some (zr ((a1, 3, 0) : zF)), some (zi l2), none, some (zi l4), some (zi l5)]) (st' := [zi l5]) (h' := h) rfl ?_
        cases e
        exact zwp.ret rfl rfl ⟨rfl, rfl⟩
def s_X7_mirrorOf_L4 (a1 : Nat) : Nat → Int32 → Int32 → Int32 → Int32 → zH → Option (Int32)
  | 0, _, _, _, _, _ => none
  | n + 1, l2, l3, l4, l5, h => if (zI h a1 6) ≤ l5 then (s_X7_mirrorOf_L32 a1 zfu l2 l4 (0 : Int32) h) else (if ¬ ((l2 >>> (l5 &&& 31)) &&& (1 : Int32)) = (1 : Int32) then (s_X7_mirrorOf_L4 a1 n l2 l3 l4 (l5 + (1 : Int32)) h) else (zix l3 8 fun i1 => s_X7_mirrorOf_L4 a1 n l2 l3 (((2 : Int32) * l4) + (((zI h (a1 + 2) i1) >>> (l5 &&& 31)) &&& (1 : Int32))) (l5 + (1 : Int32)) h))
set_option maxRecDepth 100000 in
theorem s_X7_mirrorOf_L4_ok (d : Nat) (ρ : Nat → Nat → Option zF) (hρ : zSh ρ) (a1 : Nat) (ha1 : zPlS ρ a1) : ∀ (n : Nat) (l2 : Int32) (l3 : Int32) (l4 : Int32) (l5 : Int32) (h : zH) (res : Int32) (hR : zRq h ρ) (e : s_X7_mirrorOf_L4 a1 n l2 l3 l4 l5 h = some res), zwp (d + 1) zm_X7_mirrorOf 4 [some (zr ((44, 7, 0) : zF)), some (zr ((a1, 3, 0) : zF)), some (zi l2), some (zi l3), some (zi l4), some (zi l5)] [] h (zQp h res) := by
  intro n
  induction n with
  | zero => intro l2 l3 l4 l5 h res hR e; cases e
  | succ n ih =>
    intro l2 l3 l4 l5 h res hR e
    rw [s_X7_mirrorOf_L4] at e
    refine zwp.go (m := 3) (j := 7) (ls' := [some (zr ((44, 7, 0) : zF)), some (zr ((a1, 3, 0) : zF)), some (zi l2), some (zi l3), some (zi l4), some (zi l5)]) (st' := [zi (zI h a1 6), zi l5]) (h' := h) rfl ?_
    refine zb_if (j := 30) (j2 := 8) e rfl (fun e => ?_) (fun e => ?_)
    · refine zwp.go (m := 2) (j := 32) (ls' := [some (zr ((44, 7, 0) : zF)), some (zr ((a1, 3, 0) : zF)), some (zi l2), some (zi l3), some (zi l4), some (zi (0 : Int32))]) (st' := []) (h' := h) rfl ?_
      refine zwp.fg (a := [some (zr ((44, 7, 0) : zF)), some (zr ((a1, 3, 0) : zF)), some (zi l2), none, some (zi l4), some (zi (0 : Int32))]) (And.intro rfl (And.intro rfl (And.intro rfl (And.intro rfl (And.intro rfl trivial))))) ?_
      exact s_X7_mirrorOf_L32_ok d ρ hρ a1 ha1 zfu l2 l4 (0 : Int32) h _ hR e
    · refine zwp.go (m := 6) (j := 14) (ls' := [some (zr ((44, 7, 0) : zF)), some (zr ((a1, 3, 0) : zF)), some (zi l2), some (zi l3), some (zi l4), some (zi l5)]) (st' := [zi (1 : Int32), zi ((l2 >>> (l5 &&& 31)) &&& (1 : Int32))]) (h' := h) rfl ?_
      refine zb_if (j := 28) (j2 := 15) e rfl (fun e => ?_) (fun e => ?_)
      · refine zwp.go (m := 2) (j := 4) (ls' := [some (zr ((44, 7, 0) : zF)), some (zr ((a1, 3, 0) : zF)), some (zi l2), some (zi l3), some (zi l4), some (zi (l5 + (1 : Int32)))]) (st' := []) (h' := h) rfl ?_
        exact ih l2 l3 l4 (l5 + (1 : Int32)) h _ hR e
      · refine zwp.go (m := 4) (j := 19) (ls' := [some (zr ((44, 7, 0) : zF)), some (zr ((a1, 3, 0) : zF)), some (zi l2), some (zi l3), some (zi l4), some (zi l5)]) (st' := [zr ((a1, 3, 0) : zF), zi ((2 : Int32) * l4)]) (h' := h) rfl ?_
        refine zc_sr (r := (((a1 + 2), 20, 8) : zF)) (zrf (a := a1) (y := 1) hR rfl ha1.2.2.1) rfl ?_
        refine zwp.go (m := 1) (j := 21) (ls' := [some (zr ((44, 7, 0) : zF)), some (zr ((a1, 3, 0) : zF)), some (zi l2), some (zi l3), some (zi l4), some (zi l5)]) (st' := [zi l3, zr (((a1 + 2), 20, 8) : zF), zi ((2 : Int32) * l4)]) (h' := h) rfl ?_
        refine zc_ai e (fun _ => rfl) (fun i1 e => ?_)
        refine zwp.go (m := 8) (j := 4) (ls' := [some (zr ((44, 7, 0) : zF)), some (zr ((a1, 3, 0) : zF)), some (zi l2), some (zi l3), some (zi (((2 : Int32) * l4) + (((zI h (a1 + 2) i1) >>> (l5 &&& 31)) &&& (1 : Int32)))), some (zi (l5 + (1 : Int32)))]) (st' := []) (h' := h) rfl ?_
        exact ih l2 l3 (((2 : Int32) * l4) + (((zI h (a1 + 2) i1) >>> (l5 &&& 31)) &&& (1 : Int32))) (l5 + (1 : Int32)) h _ hR e
def s_X7_mirrorOf (a1 : Nat) (a2 : Int32) (a3 : Int32) (h : zH) : Option (Int32) := s_X7_mirrorOf_L4 a1 zfu a2 a3 (0 : Int32) (0 : Int32) h
set_option maxRecDepth 100000 in
theorem s_X7_mirrorOf_ok (d : Nat) (ρ : Nat → Nat → Option zF) (hρ : zSh ρ) (a1 : Nat) (a2 : Int32) (a3 : Int32) (ha1 : zPlS ρ a1) (h : zH) (res : Int32) (hR : zRq h ρ) (e : s_X7_mirrorOf a1 a2 a3 h = some res) : zcl (d + 1) 244 [zr ((44, 7, 0) : zF), zr ((a1, 3, 0) : zF), zi a2, zi a3] h (zQp h res) := by
  rw [s_X7_mirrorOf] at e
  refine ⟨zm_X7_mirrorOf, rfl, ?_⟩
  show zwp (d + 1) zm_X7_mirrorOf 0 [some (zr ((44, 7, 0) : zF)), some (zr ((a1, 3, 0) : zF)), some (zi a2), some (zi a3), none, none] [] h _
  refine zwp.go (m := 4) (j := 4) (ls' := [some (zr ((44, 7, 0) : zF)), some (zr ((a1, 3, 0) : zF)), some (zi a2), some (zi a3), some (zi (0 : Int32)), some (zi (0 : Int32))]) (st' := []) (h' := h) rfl ?_
  exact s_X7_mirrorOf_L4_ok d ρ hρ a1 ha1 zfu a2 a3 (0 : Int32) (0 : Int32) h _ hR e
def s_X10_mirrored (pp : Nat) (a1 : Int32) (h : zH) : Option ((Int32 ⊕ Nat) × zH) := zbx (s_X10_needVerse pp a1 h) (fun _ h2 => (s_X10_aliveNow pp h2).bind fun v3 => (s_X7_mirrorOf pp v3 a1 h2).bind fun v4 => some (Sum.inl v4, h2)) (fun x h1 => some (Sum.inr x, h1))
set_option maxRecDepth 100000 in
theorem s_X10_mirrored_ok (d : Nat) (ρ : Nat → Nat → Option zF) (hρ : zSh ρ) (pp : Nat) (a1 : Int32) (hpp : ρ 0 3 = some (pp, 3, 0) ∧ zPlS ρ pp) (h : zH) (res : (Int32 ⊕ Nat) × zH) (hR : zRq h ρ) (e : s_X10_mirrored pp a1 h = some res) : zcl (d + 2) 245 [zr ((0, 10, 0) : zF), zi a1] h (zQx ρ res) := by
  rw [s_X10_mirrored] at e
  refine ⟨zm_X10_mirrored, rfl, ?_⟩
  show zwp (d + 2) zm_X10_mirrored 0 [some (zr ((0, 10, 0) : zF)), some (zi a1)] [] h _
  refine zwp.go (m := 2) (j := 2) (ls' := [some (zr ((0, 10, 0) : zF)), some (zi a1)]) (st' := [zi a1, zr ((0, 10, 0) : zF)]) (h' := h) rfl ?_
  refine zc_cu (d := d + 1) e (fun q e => s_X10_needVerse_ok (d + 1) ρ hρ pp a1 hpp h q hR e) rfl rfl (fun h2 hR2 e => ?_) (fun x h1 hR1 e => ?_)
  · refine zwp.go (m := 1) (j := 4) (ls' := [some (zr ((0, 10, 0) : zF)), some (zi a1)]) (st' := [zr ((0, 10, 0) : zF)]) (h' := h2) rfl ?_
    refine zc_sr (r := ((44, 7, 0) : zF)) (zrf (a := 0) (y := 12) hR2 rfl (hρ 0 12 rfl)) rfl ?_
    refine zwp.go (m := 1) (j := 6) (ls' := [some (zr ((0, 10, 0) : zF)), some (zi a1)]) (st' := [zr ((0, 10, 0) : zF), zr ((44, 7, 0) : zF)]) (h' := h2) rfl ?_
    refine zc_sr (r := ((pp, 3, 0) : zF)) (zrf (a := 0) (y := 3) hR2 rfl hpp.1) rfl ?_
    refine zwp.go (m := 1) (j := 8) (ls' := [some (zr ((0, 10, 0) : zF)), some (zi a1)]) (st' := [zr ((0, 10, 0) : zF), zr ((pp, 3, 0) : zF), zr ((44, 7, 0) : zF)]) (h' := h2) rfl ?_
    refine zc_cp (d := d + 1) e (fun q e => s_X10_aliveNow_ok (d + 0) ρ hρ pp hpp h2 q hR2 e) rfl rfl (fun v3 e => ?_)
    refine zwp.go (m := 1) (j := 10) (ls' := [some (zr ((0, 10, 0) : zF)), some (zi a1)]) (st' := [zi a1, zi v3, zr ((pp, 3, 0) : zF), zr ((44, 7, 0) : zF)]) (h' := h2) rfl ?_
    refine zc_cp (d := d + 1) e (fun q e => s_X7_mirrorOf_ok (d + 0) ρ hρ pp v3 a1 hpp.2 h2 q hR2 e) rfl rfl (fun v4 e => ?_)
    cases e
    exact zwp.ret rfl rfl ⟨⟨rfl, rfl⟩, hR2⟩
  · cases e
    exact ⟨rfl, ⟨⟨rfl, rfl⟩, hR1⟩⟩
def s_L_mirrored (pp : Nat) (a1 : Int32) (a2 n2 : Nat) (h : zH) : Option (Int32 × zH) := zbx (s_X10_mirrored pp a1 h) (fun v3 h2 => zix (0 : Int32) n2 fun i5 => zlt (zwL h2 a2 i5 v3.toInt64) fun h4 => some ((0 : Int32), h4)) (fun x h1 => if x = 1 then (some ((1 : Int32), h1)) else none)
set_option maxRecDepth 100000 in
theorem s_L_mirrored_ok (d : Nat) (ρ : Nat → Nat → Option zF) (hρ : zSh ρ) (pp : Nat) (a1 : Int32) (a2 n2 : Nat) (hpp : ρ 0 3 = some (pp, 3, 0) ∧ zPlS ρ pp) (h : zH) (res : Int32 × zH) (hR : zRq h ρ) (e : s_L_mirrored pp a1 a2 n2 h = some res) : zcl (d + 3) 246 [zr ((0, 10, 0) : zF), zi a1, zr ((a2, 23, n2) : zF)] h (zQi ρ res) := by
  rw [s_L_mirrored] at e
  refine ⟨zm_L_mirrored, rfl, ?_⟩
  show zwp (d + 3) zm_L_mirrored 0 [some (zr ((0, 10, 0) : zF)), some (zi a1), some (zr ((a2, 23, n2) : zF)), none] [] h _
  refine zwp.go (m := 4) (j := 4) (ls' := [some (zr ((0, 10, 0) : zF)), some (zi a1), some (zr ((a2, 23, n2) : zF)), none]) (st' := [zi a1, zr ((0, 10, 0) : zF), zi (0 : Int32), zr ((a2, 23, n2) : zF)]) (h' := h) rfl ?_
  refine zc_cx (d := d + 2) e (fun q e => s_X10_mirrored_ok (d + 0) ρ hρ pp a1 hpp h q hR e) rfl rfl (fun v3 h2 hR2 e => ?_) (fun x h1 hR1 e => ?_)
  · refine zwp.go (m := 1) (j := 6) (ls' := [some (zr ((0, 10, 0) : zF)), some (zi a1), some (zr ((a2, 23, n2) : zF)), none]) (st' := [zl v3.toInt64, zi (0 : Int32), zr ((a2, 23, n2) : zF)]) (h' := h2) rfl ?_
    refine zc_sl e (fun _ => rfl) hR2 (fun h4 hR4 e => ?_)
    refine zwp.go (m := 2) (j := 12) (ls' := [some (zr ((0, 10, 0) : zF)), some (zi a1), some (zr ((a2, 23, n2) : zF)), none]) (st' := [zi (0 : Int32)]) (h' := h4) rfl ?_
    cases e
    exact zwp.ret rfl rfl ⟨⟨rfl, rfl⟩, hR4⟩
  · by_cases q1 : x = 1
    · subst q1
      replace e : (some ((1 : Int32), h1)) = some res := by simpa using e
      show zwp _ _ 9 [some (zr ((0, 10, 0) : zF)), some (zi a1), some (zr ((a2, 23, n2) : zF)), none] [] _ _
      refine zwp.go (m := 1) (j := 10) (ls' := [some (zr ((0, 10, 0) : zF)), some (zi a1), some (zr ((a2, 23, n2) : zF)), none]) (st' := [zi (1 : Int32)]) (h' := h1) rfl ?_
      cases e
      exact zwp.ret rfl rfl ⟨⟨rfl, rfl⟩, hR1⟩
    · skip
      simp [q1] at e
def s_X11_isMirror_L11 : Nat → Int32 → Int32 → Int32 → Int32 → Int32 → zH → Option (Int32)
  | 0, _, _, _, _, _, _ => none
  | n + 1, l1, l2, l3, l4, l5, h => if l5 = 0 then (zrp 1 l5) else (if (zI h 56 0) ≤ l3 then (zrp 1 l5) else (if l4 < 0 then (zrp 1 l5) else ((s_X11_isGone l3 h).bind fun v1 => if v1 = 0 then ((s_X11_isGone l4 h).bind fun v2 => if v2 = 0 then (zix l1 16 fun i3 => (s_X11_isOf (zI h 59 i3) l3 h).bind fun v4 => zix l2 16 fun i5 => (s_X11_isOf (zI h 59 i5) l4 h).bind fun v6 => if ¬ v4 = v6 then (s_X11_isMirror_L11 n l1 l2 (l3 + (1 : Int32)) (l4 + (-1 : Int32)) (0 : Int32) h) else (s_X11_isMirror_L11 n l1 l2 (l3 + (1 : Int32)) (l4 + (-1 : Int32)) (1 : Int32) h)) else (s_X11_isMirror_L11 n l1 l2 l3 (l4 + (-1 : Int32)) l5 h)) else (s_X11_isMirror_L11 n l1 l2 (l3 + (1 : Int32)) l4 l5 h))))
set_option maxRecDepth 100000 in
theorem s_X11_isMirror_L11_ok (d : Nat) (ρ : Nat → Nat → Option zF) (hρ : zSh ρ) : ∀ (n : Nat) (l1 : Int32) (l2 : Int32) (l3 : Int32) (l4 : Int32) (l5 : Int32) (h : zH) (res : Int32) (hR : zRq h ρ) (e : s_X11_isMirror_L11  n l1 l2 l3 l4 l5 h = some res), zwp (d + 1) zm_X11_isMirror 11 [some (zr ((52, 11, 0) : zF)), some (zi l1), some (zi l2), some (zi l3), some (zi l4), some (zi l5)] [] h (zQp h res) := by
  intro n
  induction n with
  | zero => intro l1 l2 l3 l4 l5 h res hR e; cases e
  | succ n ih =>
    intro l1 l2 l3 l4 l5 h res hR e
    rw [s_X11_isMirror_L11] at e
    refine zwp.go (m := 1) (j := 12) (ls' := [some (zr ((52, 11, 0) : zF)), some (zi l1), some (zi l2), some (zi l3), some (zi l4), some (zi l5)]) (st' := [zi l5]) (h' := h) rfl ?_
    refine zb_if (j := 53) (j2 := 13) e rfl (fun e => ?_) (fun e => ?_)
    · refine zwp.go (m := 1) (j := 54) (ls' := [some (zr ((52, 11, 0) : zF)), some (zi l1), some (zi l2), some (zi l3), some (zi l4), some (zi l5)]) (st' := [zi l5]) (h' := h) rfl ?_
      exact zc_rp e rfl
    · refine zwp.go (m := 2) (j := 15) (ls' := [some (zr ((52, 11, 0) : zF)), some (zi l1), some (zi l2), some (zi l3), some (zi l4), some (zi l5)]) (st' := [zr ((52, 11, 0) : zF), zi l3]) (h' := h) rfl ?_
      refine zc_sr (r := ((56, 20, 12) : zF)) (zrf (a := 52) (y := 5) hR rfl (hρ 52 5 rfl)) rfl ?_
      refine zwp.go (m := 2) (j := 18) (ls' := [some (zr ((52, 11, 0) : zF)), some (zi l1), some (zi l2), some (zi l3), some (zi l4), some (zi l5)]) (st' := [zi (zI h 56 0), zi l3]) (h' := h) rfl ?_
      refine zb_if (j := 53) (j2 := 19) e rfl (fun e => ?_) (fun e => ?_)
      · refine zwp.go (m := 1) (j := 54) (ls' := [some (zr ((52, 11, 0) : zF)), some (zi l1), some (zi l2), some (zi l3), some (zi l4), some (zi l5)]) (st' := [zi l5]) (h' := h) rfl ?_
        exact zc_rp e rfl
      · refine zwp.go (m := 1) (j := 20) (ls' := [some (zr ((52, 11, 0) : zF)), some (zi l1), some (zi l2), some (zi l3), some (zi l4), some (zi l5)]) (st' := [zi l4]) (h' := h) rfl ?_
        refine zb_if (j := 53) (j2 := 21) e rfl (fun e => ?_) (fun e => ?_)
        · refine zwp.go (m := 1) (j := 54) (ls' := [some (zr ((52, 11, 0) : zF)), some (zi l1), some (zi l2), some (zi l3), some (zi l4), some (zi l5)]) (st' := [zi l5]) (h' := h) rfl ?_
          exact zc_rp e rfl
        · refine zwp.go (m := 2) (j := 23) (ls' := [some (zr ((52, 11, 0) : zF)), some (zi l1), some (zi l2), some (zi l3), some (zi l4), some (zi l5)]) (st' := [zi l3, zr ((52, 11, 0) : zF)]) (h' := h) rfl ?_
          refine zc_cp (d := d + 0) e (fun q e => s_X11_isGone_ok (d + 0) ρ hρ l3 h q hR e) rfl rfl (fun v1 e => ?_)
          refine zb_if (j := 27) (j2 := 25) e rfl (fun e => ?_) (fun e => ?_)
          · refine zwp.go (m := 2) (j := 29) (ls' := [some (zr ((52, 11, 0) : zF)), some (zi l1), some (zi l2), some (zi l3), some (zi l4), some (zi l5)]) (st' := [zi l4, zr ((52, 11, 0) : zF)]) (h' := h) rfl ?_
            refine zc_cp (d := d + 0) e (fun q e => s_X11_isGone_ok (d + 0) ρ hρ l4 h q hR e) rfl rfl (fun v2 e => ?_)
            refine zb_if (j := 33) (j2 := 31) e rfl (fun e => ?_) (fun e => ?_)
            · refine zwp.go (m := 1) (j := 34) (ls' := [some (zr ((52, 11, 0) : zF)), some (zi l1), some (zi l2), some (zi l3), some (zi l4), some (zi l5)]) (st' := [zr ((52, 11, 0) : zF)]) (h' := h) rfl ?_
              refine zc_sr (r := ((59, 20, 16) : zF)) (zrf (a := 52) (y := 8) hR rfl (hρ 52 8 rfl)) rfl ?_
              refine zwp.go (m := 1) (j := 36) (ls' := [some (zr ((52, 11, 0) : zF)), some (zi l1), some (zi l2), some (zi l3), some (zi l4), some (zi l5)]) (st' := [zi l1, zr ((59, 20, 16) : zF)]) (h' := h) rfl ?_
              refine zc_ai e (fun _ => rfl) (fun i3 e => ?_)
              refine zwp.go (m := 1) (j := 38) (ls' := [some (zr ((52, 11, 0) : zF)), some (zi l1), some (zi l2), some (zi l3), some (zi l4), some (zi l5)]) (st' := [zi l3, zi (zI h 59 i3)]) (h' := h) rfl ?_
              refine zc_cp (d := d + 0) e (fun q e => s_X11_isOf_ok (d + 0) ρ hρ (zI h 59 i3) l3 h q hR e) rfl rfl (fun v4 e => ?_)
              refine zwp.go (m := 1) (j := 40) (ls' := [some (zr ((52, 11, 0) : zF)), some (zi l1), some (zi l2), some (zi l3), some (zi l4), some (zi l5)]) (st' := [zr ((52, 11, 0) : zF), zi v4]) (h' := h) rfl ?_
              refine zc_sr (r := ((59, 20, 16) : zF)) (zrf (a := 52) (y := 8) hR rfl (hρ 52 8 rfl)) rfl ?_
              refine zwp.go (m := 1) (j := 42) (ls' := [some (zr ((52, 11, 0) : zF)), some (zi l1), some (zi l2), some (zi l3), some (zi l4), some (zi l5)]) (st' := [zi l2, zr ((59, 20, 16) : zF), zi v4]) (h' := h) rfl ?_
              refine zc_ai e (fun _ => rfl) (fun i5 e => ?_)
              refine zwp.go (m := 1) (j := 44) (ls' := [some (zr ((52, 11, 0) : zF)), some (zi l1), some (zi l2), some (zi l3), some (zi l4), some (zi l5)]) (st' := [zi l4, zi (zI h 59 i5), zi v4]) (h' := h) rfl ?_
              refine zc_cp (d := d + 0) e (fun q e => s_X11_isOf_ok (d + 0) ρ hρ (zI h 59 i5) l4 h q hR e) rfl rfl (fun v6 e => ?_)
              refine zb_if (j := 48) (j2 := 46) e rfl (fun e => ?_) (fun e => ?_)
              · refine zwp.go (m := 5) (j := 11) (ls' := [some (zr ((52, 11, 0) : zF)), some (zi l1), some (zi l2), some (zi (l3 + (1 : Int32))), some (zi (l4 + (-1 : Int32))), some (zi (0 : Int32))]) (st' := []) (h' := h) rfl ?_
                exact ih l1 l2 (l3 + (1 : Int32)) (l4 + (-1 : Int32)) (0 : Int32) h _ hR e
              · refine zwp.go (m := 6) (j := 11) (ls' := [some (zr ((52, 11, 0) : zF)), some (zi l1), some (zi l2), some (zi (l3 + (1 : Int32))), some (zi (l4 + (-1 : Int32))), some (zi (1 : Int32))]) (st' := []) (h' := h) rfl ?_
                exact ih l1 l2 (l3 + (1 : Int32)) (l4 + (-1 : Int32)) (1 : Int32) h _ hR e
            · refine zwp.go (m := 2) (j := 11) (ls' := [some (zr ((52, 11, 0) : zF)), some (zi l1), some (zi l2), some (zi l3), some (zi (l4 + (-1 : Int32))), some (zi l5)]) (st' := []) (h' := h) rfl ?_
              exact ih l1 l2 l3 (l4 + (-1 : Int32)) l5 h _ hR e
          · refine zwp.go (m := 2) (j := 11) (ls' := [some (zr ((52, 11, 0) : zF)), some (zi l1), some (zi l2), some (zi (l3 + (1 : Int32))), some (zi l4), some (zi l5)]) (st' := []) (h' := h) rfl ?_
            exact ih l1 l2 (l3 + (1 : Int32)) l4 l5 h _ hR e
def s_X11_isMirror (a1 : Int32) (a2 : Int32) (h : zH) : Option (Int32) := s_X11_isMirror_L11 zfu a1 a2 (0 : Int32) ((zI h 56 0) - (1 : Int32)) (1 : Int32) h
set_option maxRecDepth 100000 in
theorem s_X11_isMirror_ok (d : Nat) (ρ : Nat → Nat → Option zF) (hρ : zSh ρ) (a1 : Int32) (a2 : Int32) (h : zH) (res : Int32) (hR : zRq h ρ) (e : s_X11_isMirror a1 a2 h = some res) : zcl (d + 1) 247 [zr ((52, 11, 0) : zF), zi a1, zi a2] h (zQp h res) := by
  rw [s_X11_isMirror] at e
  refine ⟨zm_X11_isMirror, rfl, ?_⟩
  show zwp (d + 1) zm_X11_isMirror 0 [some (zr ((52, 11, 0) : zF)), some (zi a1), some (zi a2), none, none, none] [] h _
  refine zwp.go (m := 3) (j := 3) (ls' := [some (zr ((52, 11, 0) : zF)), some (zi a1), some (zi a2), some (zi (0 : Int32)), none, none]) (st' := [zr ((52, 11, 0) : zF)]) (h' := h) rfl ?_
  refine zc_sr (r := ((56, 20, 12) : zF)) (zrf (a := 52) (y := 5) hR rfl (hρ 52 5 rfl)) rfl ?_
  refine zwp.go (m := 7) (j := 11) (ls' := [some (zr ((52, 11, 0) : zF)), some (zi a1), some (zi a2), some (zi (0 : Int32)), some (zi ((zI h 56 0) - (1 : Int32))), some (zi (1 : Int32))]) (st' := []) (h' := h) rfl ?_
  exact s_X11_isMirror_L11_ok d ρ hρ zfu a1 a2 (0 : Int32) ((zI h 56 0) - (1 : Int32)) (1 : Int32) h _ hR e
def s_X11_mirrored_L13 : Nat → Int32 → Int32 → zH → Option (Int32 × zH)
  | 0, _, _, _ => none
  | n + 1, l1, l2, h => if (zI h 56 1) ≤ l2 then (some ((-1 : Int32), h)) else ((s_X11_isMirror l1 l2 h).bind fun v1 => if v1 = 0 then (s_X11_mirrored_L13 n l1 (l2 + (1 : Int32)) h) else (some (l2, h)))
set_option maxRecDepth 100000 in
theorem s_X11_mirrored_L13_ok (d : Nat) (ρ : Nat → Nat → Option zF) (hρ : zSh ρ) : ∀ (n : Nat) (l1 : Int32) (l2 : Int32) (h : zH) (res : Int32 × zH) (hR : zRq h ρ) (e : s_X11_mirrored_L13  n l1 l2 h = some res), zwp (d + 2) zm_X11_mirrored 13 [some (zr ((52, 11, 0) : zF)), some (zi l1), some (zi l2)] [] h (zQi ρ res) := by
  intro n
  induction n with
  | zero => intro l1 l2 h res hR e; cases e
  | succ n ih =>
    intro l1 l2 h res hR e
    rw [s_X11_mirrored_L13] at e
    refine zwp.go (m := 2) (j := 15) (ls' := [some (zr ((52, 11, 0) : zF)), some (zi l1), some (zi l2)]) (st' := [zr ((52, 11, 0) : zF), zi l2]) (h' := h) rfl ?_
    refine zc_sr (r := ((56, 20, 12) : zF)) (zrf (a := 52) (y := 5) hR rfl (hρ 52 5 rfl)) rfl ?_
    refine zwp.go (m := 2) (j := 18) (ls' := [some (zr ((52, 11, 0) : zF)), some (zi l1), some (zi l2)]) (st' := [zi (zI h 56 1), zi l2]) (h' := h) rfl ?_
    refine zb_if (j := 28) (j2 := 19) e rfl (fun e => ?_) (fun e => ?_)
    · refine zwp.go (m := 1) (j := 29) (ls' := [some (zr ((52, 11, 0) : zF)), some (zi l1), some (zi l2)]) (st' := [zi (-1 : Int32)]) (h' := h) rfl ?_
      cases e
      exact zwp.ret rfl rfl ⟨⟨rfl, rfl⟩, hR⟩
    · refine zwp.go (m := 3) (j := 22) (ls' := [some (zr ((52, 11, 0) : zF)), some (zi l1), some (zi l2)]) (st' := [zi l2, zi l1, zr ((52, 11, 0) : zF)]) (h' := h) rfl ?_
      refine zc_cp (d := d + 1) e (fun q e => s_X11_isMirror_ok (d + 0) ρ hρ l1 l2 h q hR e) rfl rfl (fun v1 e => ?_)
      refine zb_if (j := 26) (j2 := 24) e rfl (fun e => ?_) (fun e => ?_)
      · refine zwp.go (m := 2) (j := 13) (ls' := [some (zr ((52, 11, 0) : zF)), some (zi l1), some (zi (l2 + (1 : Int32)))]) (st' := []) (h' := h) rfl ?_
        exact ih l1 (l2 + (1 : Int32)) h _ hR e
      · refine zwp.go (m := 1) (j := 25) (ls' := [some (zr ((52, 11, 0) : zF)), some (zi l1), some (zi l2)]) (st' := [zi l2]) (h' := h) rfl ?_
        cases e
        exact zwp.ret rfl rfl ⟨⟨rfl, rfl⟩, hR⟩
def s_X11_mirrored (a1 : Int32) (h : zH) : Option (Int32 × zH) := zlt (zwI h 52 4 (0 : Int32)) fun h1 => (s_X11_isVerse a1 h1).bind fun v2 => if ¬ v2 = 0 then (s_X11_mirrored_L13 zfu a1 (0 : Int32) h1) else (zbd (s_X11_fail (1 : Int32) h1) fun v4 h3 => some (v4, h3))
set_option maxRecDepth 100000 in
theorem s_X11_mirrored_ok (d : Nat) (ρ : Nat → Nat → Option zF) (hρ : zSh ρ) (a1 : Int32) (h : zH) (res : Int32 × zH) (hR : zRq h ρ) (e : s_X11_mirrored a1 h = some res) : zcl (d + 2) 248 [zr ((52, 11, 0) : zF), zi a1] h (zQi ρ res) := by
  rw [s_X11_mirrored] at e
  refine ⟨zm_X11_mirrored, rfl, ?_⟩
  show zwp (d + 2) zm_X11_mirrored 0 [some (zr ((52, 11, 0) : zF)), some (zi a1), none] [] h _
  refine zwp.go (m := 2) (j := 2) (ls' := [some (zr ((52, 11, 0) : zF)), some (zi a1), none]) (st' := [zi (0 : Int32), zr ((52, 11, 0) : zF)]) (h' := h) rfl ?_
  refine zc_w e rfl hR (fun h1 hR1 e => ?_)
  refine zwp.go (m := 2) (j := 5) (ls' := [some (zr ((52, 11, 0) : zF)), some (zi a1), none]) (st' := [zi a1, zr ((52, 11, 0) : zF)]) (h' := h1) rfl ?_
  refine zc_cp (d := d + 1) e (fun q e => s_X11_isVerse_ok (d + 0) ρ hρ a1 h1 q hR1 e) rfl rfl (fun v2 e => ?_)
  refine zb_if (j := 11) (j2 := 7) e rfl (fun e => ?_) (fun e => ?_)
  · refine zwp.go (m := 2) (j := 13) (ls' := [some (zr ((52, 11, 0) : zF)), some (zi a1), some (zi (0 : Int32))]) (st' := []) (h' := h1) rfl ?_
    exact s_X11_mirrored_L13_ok d ρ hρ zfu a1 (0 : Int32) h1 _ hR1 e
  · refine zwp.go (m := 2) (j := 9) (ls' := [some (zr ((52, 11, 0) : zF)), some (zi a1), none]) (st' := [zi (1 : Int32), zr ((52, 11, 0) : zF)]) (h' := h1) rfl ?_
    refine zc_ci (d := d + 1) e (fun q e => s_X11_fail_ok (d + 1) ρ hρ (1 : Int32) h1 q hR1 e) rfl rfl (fun v4 h3 hR3 e => ?_)
    cases e
    exact zwp.ret rfl rfl ⟨⟨rfl, rfl⟩, hR3⟩
def s_X8_total_L4 (a0 : Nat) : Nat → Int32 → Int32 → Int32 → zH → Option (Int32)
  | 0, _, _, _, _ => none
  | n + 1, l1, l2, l3, h => if l1 ≤ l3 then (some l2) else (zix l3 12 fun i1 => s_X8_total_L4 a0 n l1 (l2 + (zI h (a0 + 1) i1)) (l3 + (1 : Int32)) h)
set_option maxRecDepth 100000 in
theorem s_X8_total_L4_ok (d : Nat) (ρ : Nat → Nat → Option zF) (hρ : zSh ρ) (a0 : Nat) (ha0 : zStS ρ a0) : ∀ (n : Nat) (l1 : Int32) (l2 : Int32) (l3 : Int32) (h : zH) (res : Int32) (hR : zRq h ρ) (e : s_X8_total_L4 a0 n l1 l2 l3 h = some res), zwp d zm_X8_total 4 [some (zr ((a0, 8, 0) : zF)), some (zi l1), some (zi l2), some (zi l3)] [] h (zQp h res) := by
  intro n
  induction n with
  | zero => intro l1 l2 l3 h res hR e; cases e
  | succ n ih =>
    intro l1 l2 l3 h res hR e
    rw [s_X8_total_L4] at e
    refine zwp.go (m := 2) (j := 6) (ls' := [some (zr ((a0, 8, 0) : zF)), some (zi l1), some (zi l2), some (zi l3)]) (st' := [zi l1, zi l3]) (h' := h) rfl ?_
    refine zb_if (j := 16) (j2 := 7) e rfl (fun e => ?_) (fun e => ?_)
    · refine zwp.go (m := 1) (j := 17) (ls' := [some (zr ((a0, 8, 0) : zF)), some (zi l1), some (zi l2), some (zi l3)]) (st' := [zi l2]) (h' := h) rfl ?_
      cases e
      exact zwp.ret rfl rfl ⟨rfl, rfl⟩
    · refine zwp.go (m := 2) (j := 9) (ls' := [some (zr ((a0, 8, 0) : zF)), some (zi l1), some (zi l2), some (zi l3)]) (st' := [zr ((a0, 8, 0) : zF), zi l2]) (h' := h) rfl ?_
      refine zc_sr (r := (((a0 + 1), 20, 12) : zF)) (zrf (a := a0) (y := 0) hR rfl ha0.2.1) rfl ?_
      refine zwp.go (m := 1) (j := 11) (ls' := [some (zr ((a0, 8, 0) : zF)), some (zi l1), some (zi l2), some (zi l3)]) (st' := [zi l3, zr (((a0 + 1), 20, 12) : zF), zi l2]) (h' := h) rfl ?_
      refine zc_ai e (fun _ => rfl) (fun i1 e => ?_)
      refine zwp.go (m := 4) (j := 4) (ls' := [some (zr ((a0, 8, 0) : zF)), some (zi l1), some (zi (l2 + (zI h (a0 + 1) i1))), some (zi (l3 + (1 : Int32)))]) (st' := []) (h' := h) rfl ?_
      exact ih l1 (l2 + (zI h (a0 + 1) i1)) (l3 + (1 : Int32)) h _ hR e
def s_X8_total (a0 : Nat) (a1 : Int32) (h : zH) : Option (Int32) := s_X8_total_L4 a0 zfu a1 (0 : Int32) (0 : Int32) h
set_option maxRecDepth 100000 in
theorem s_X8_total_ok (d : Nat) (ρ : Nat → Nat → Option zF) (hρ : zSh ρ) (a0 : Nat) (a1 : Int32) (ha0 : zStS ρ a0) (h : zH) (res : Int32) (hR : zRq h ρ) (e : s_X8_total a0 a1 h = some res) : zcl d 249 [zr ((a0, 8, 0) : zF), zi a1] h (zQp h res) := by
  rw [s_X8_total] at e
  refine ⟨zm_X8_total, rfl, ?_⟩
  show zwp d zm_X8_total 0 [some (zr ((a0, 8, 0) : zF)), some (zi a1), none, none] [] h _
  refine zwp.go (m := 4) (j := 4) (ls' := [some (zr ((a0, 8, 0) : zF)), some (zi a1), some (zi (0 : Int32)), some (zi (0 : Int32))]) (st' := []) (h' := h) rfl ?_
  exact s_X8_total_L4_ok d ρ hρ a0 ha0 zfu a1 (0 : Int32) (0 : Int32) h _ hR e
def s_X10_lost (pp : Nat) (a1 : Int32) (a2 : Int32) (h : zH) : Option ((Int32 ⊕ Nat) × zH) := zbx (s_X10_needWhat pp a2 (2 : Int32) h) (fun _ h2 => zbx (s_X10_needWithin pp a1 (0 : Int32) (60 : Int32) h2) (fun _ h4 => zbd (s_X10_tryDays pp a1 h4) fun v6 h5 => if ¬ a2 = 0 then (some (Sum.inl v6, h5)) else ((s_X8_total 19 (zI h5 pp 6) h5).bind fun v7 => (s_X8_total 30 (zI h5 pp 6) h5).bind fun v8 => some (Sum.inl (v7 - v8), h5))) (fun x h3 => some (Sum.inr x, h3))) (fun x h1 => some (Sum.inr x, h1))
set_option maxRecDepth 100000 in
theorem s_X10_lost_ok (d : Nat) (ρ : Nat → Nat → Option zF) (hρ : zSh ρ) (pp : Nat) (a1 : Int32) (a2 : Int32) (hpp : ρ 0 3 = some (pp, 3, 0) ∧ zPlS ρ pp) (h : zH) (res : (Int32 ⊕ Nat) × zH) (hR : zRq h ρ) (e : s_X10_lost pp a1 a2 h = some res) : zcl (d + 6) 250 [zr ((0, 10, 0) : zF), zi a1, zi a2] h (zQx ρ res) := by
  rw [s_X10_lost] at e
  refine ⟨zm_X10_lost, rfl, ?_⟩
  show zwp (d + 6) zm_X10_lost 0 [some (zr ((0, 10, 0) : zF)), some (zi a1), some (zi a2), none] [] h _
  refine zwp.go (m := 3) (j := 3) (ls' := [some (zr ((0, 10, 0) : zF)), some (zi a1), some (zi a2), none]) (st' := [zi (2 : Int32), zi a2, zr ((0, 10, 0) : zF)]) (h' := h) rfl ?_
  refine zc_cu (d := d + 5) e (fun q e => s_X10_needWhat_ok (d + 5) ρ hρ pp a2 (2 : Int32) hpp h q hR e) rfl rfl (fun h2 hR2 e => ?_) (fun x h1 hR1 e => ?_)
  · refine zwp.go (m := 4) (j := 8) (ls' := [some (zr ((0, 10, 0) : zF)), some (zi a1), some (zi a2), none]) (st' := [zi (60 : Int32), zi (0 : Int32), zi a1, zr ((0, 10, 0) : zF)]) (h' := h2) rfl ?_
    refine zc_cu (d := d + 5) e (fun q e => s_X10_needWithin_ok (d + 5) ρ hρ pp a1 (0 : Int32) (60 : Int32) hpp h2 q hR2 e) rfl rfl (fun h4 hR4 e => ?_) (fun x h3 hR3 e => ?_)
    · refine zwp.go (m := 2) (j := 11) (ls' := [some (zr ((0, 10, 0) : zF)), some (zi a1), some (zi a2), none]) (st' := [zi a1, zr ((0, 10, 0) : zF)]) (h' := h4) rfl ?_
      refine zc_ci (d := d + 5) e (fun q e => s_X10_tryDays_ok (d + 0) ρ hρ pp a1 hpp h4 q hR4 e) rfl rfl (fun v6 h5 hR5 e => ?_)
      refine zwp.go (m := 2) (j := 14) (ls' := [some (zr ((0, 10, 0) : zF)), some (zi a1), some (zi a2), some (zi v6)]) (st' := [zi a2]) (h' := h5) rfl ?_
      refine zb_if (j := 30) (j2 := 15) e rfl (fun e => ?_) (fun e => ?_)
      · refine zwp.go (m := 1) (j := 31) (ls' := [some (zr ((0, 10, 0) : zF)), some (zi a1), some (zi a2), some (zi v6)]) (st' := [zi v6]) (h' := h5) rfl ?_
        cases e
        exact zwp.ret rfl rfl ⟨⟨rfl, rfl⟩, hR5⟩
      · refine zwp.go (m := 1) (j := 16) (ls' := [some (zr ((0, 10, 0) : zF)), some (zi a1), some (zi a2), some (zi v6)]) (st' := [zr ((0, 10, 0) : zF)]) (h' := h5) rfl ?_
        refine zc_sr (r := ((18, 2, 0) : zF)) (zrf (a := 0) (y := 6) hR5 rfl (hρ 0 6 rfl)) rfl ?_
        refine zc_sr (r := ((19, 8, 0) : zF)) (zrf (a := 18) (y := 0) hR5 rfl (zSh_ld18 hρ).2.1) rfl ?_
        refine zwp.go (m := 1) (j := 19) (ls' := [some (zr ((0, 10, 0) : zF)), some (zi a1), some (zi a2), some (zi v6)]) (st' := [zr ((0, 10, 0) : zF), zr ((19, 8, 0) : zF)]) (h' := h5) rfl ?_
        refine zc_sr (r := ((pp, 3, 0) : zF)) (zrf (a := 0) (y := 3) hR5 rfl hpp.1) rfl ?_
        refine zwp.go (m := 1) (j := 21) (ls' := [some (zr ((0, 10, 0) : zF)), some (zi a1), some (zi a2), some (zi v6)]) (st' := [zi (zI h5 pp 6), zr ((19, 8, 0) : zF)]) (h' := h5) rfl ?_
        refine zc_cp (d := d + 5) e (fun q e => s_X8_total_ok (d + 5) ρ hρ 19 (zI h5 pp 6) (zSh_st19 hρ) h5 q hR5 e) rfl rfl (fun v7 e => ?_)
        refine zwp.go (m := 1) (j := 23) (ls' := [some (zr ((0, 10, 0) : zF)), some (zi a1), some (zi a2), some (zi v6)]) (st' := [zr ((0, 10, 0) : zF), zi v7]) (h' := h5) rfl ?_
        refine zc_sr (r := ((30, 8, 0) : zF)) (zrf (a := 0) (y := 9) hR5 rfl (hρ 0 9 rfl)) rfl ?_
        refine zwp.go (m := 1) (j := 25) (ls' := [some (zr ((0, 10, 0) : zF)), some (zi a1), some (zi a2), some (zi v6)]) (st' := [zr ((0, 10, 0) : zF), zr ((30, 8, 0) : zF), zi v7]) (h' := h5) rfl ?_
        refine zc_sr (r := ((pp, 3, 0) : zF)) (zrf (a := 0) (y := 3) hR5 rfl hpp.1) rfl ?_
        refine zwp.go (m := 1) (j := 27) (ls' := [some (zr ((0, 10, 0) : zF)), some (zi a1), some (zi a2), some (zi v6)]) (st' := [zi (zI h5 pp 6), zr ((30, 8, 0) : zF), zi v7]) (h' := h5) rfl ?_
        refine zc_cp (d := d + 5) e (fun q e => s_X8_total_ok (d + 5) ρ hρ 30 (zI h5 pp 6) (zSh_st30 hρ) h5 q hR5 e) rfl rfl (fun v8 e => ?_)
        refine zwp.go (m := 2) (j := 31) (ls' := [some (zr ((0, 10, 0) : zF)), some (zi a1), some (zi a2), some (zi v6)]) (st' := [zi (v7 - v8)]) (h' := h5) rfl ?_
        cases e
        exact zwp.ret rfl rfl ⟨⟨rfl, rfl⟩, hR5⟩
    · cases e
      exact ⟨rfl, ⟨⟨rfl, rfl⟩, hR3⟩⟩
  · cases e
    exact ⟨rfl, ⟨⟨rfl, rfl⟩, hR1⟩⟩
def s_L_lost (pp : Nat) (a1 : Int32) (a2 : Int32) (a3 n3 : Nat) (h : zH) : Option (Int32 × zH) := zbx (s_X10_lost pp a1 a2 h) (fun v3 h2 => zix (0 : Int32) n3 fun i5 => zlt (zwL h2 a3 i5 v3.toInt64) fun h4 => some ((0 : Int32), h4)) (fun x h1 => if x = 1 then (some ((1 : Int32), h1)) else if x = 0 then (some ((2 : Int32), h1)) else none)
set_option maxRecDepth 100000 in
theorem s_L_lost_ok (d : Nat) (ρ : Nat → Nat → Option zF) (hρ : zSh ρ) (pp : Nat) (a1 : Int32) (a2 : Int32) (a3 n3 : Nat) (hpp : ρ 0 3 = some (pp, 3, 0) ∧ zPlS ρ pp) (h : zH) (res : Int32 × zH) (hR : zRq h ρ) (e : s_L_lost pp a1 a2 a3 n3 h = some res) : zcl (d + 7) 251 [zr ((0, 10, 0) : zF), zi a1, zi a2, zr ((a3, 23, n3) : zF)] h (zQi ρ res) := by
  rw [s_L_lost] at e
  refine ⟨zm_L_lost, rfl, ?_⟩
  show zwp (d + 7) zm_L_lost 0 [some (zr ((0, 10, 0) : zF)), some (zi a1), some (zi a2), some (zr ((a3, 23, n3) : zF)), none] [] h _
  refine zwp.go (m := 5) (j := 5) (ls' := [some (zr ((0, 10, 0) : zF)), some (zi a1), some (zi a2), some (zr ((a3, 23, n3) : zF)), none]) (st' := [zi a2, zi a1, zr ((0, 10, 0) : zF), zi (0 : Int32), zr ((a3, 23, n3) : zF)]) (h' := h) rfl ?_
  refine zc_cx (d := d + 6) e (fun q e => s_X10_lost_ok (d + 0) ρ hρ pp a1 a2 hpp h q hR e) rfl rfl (fun v3 h2 hR2 e => ?_) (fun x h1 hR1 e => ?_)
  · refine zwp.go (m := 1) (j := 7) (ls' := [some (zr ((0, 10, 0) : zF)), some (zi a1), some (zi a2), some (zr ((a3, 23, n3) : zF)), none]) (st' := [zl v3.toInt64, zi (0 : Int32), zr ((a3, 23, n3) : zF)]) (h' := h2) rfl ?_
    refine zc_sl e (fun _ => rfl) hR2 (fun h4 hR4 e => ?_)
    refine zwp.go (m := 2) (j := 16) (ls' := [some (zr ((0, 10, 0) : zF)), some (zi a1), some (zi a2), some (zr ((a3, 23, n3) : zF)), none]) (st' := [zi (0 : Int32)]) (h' := h4) rfl ?_
    cases e
    exact zwp.ret rfl rfl ⟨⟨rfl, rfl⟩, hR4⟩
  · by_cases q1 : x = 1
    · subst q1
      replace e : (some ((1 : Int32), h1)) = some res := by simpa using e
      show zwp _ _ 10 [some (zr ((0, 10, 0) : zF)), some (zi a1), some (zi a2), some (zr ((a3, 23, n3) : zF)), none] [] _ _
      refine zwp.go (m := 1) (j := 11) (ls' := [some (zr ((0, 10, 0) : zF)), some (zi a1), some (zi a2), some (zr ((a3, 23, n3) : zF)), none]) (st' := [zi (1 : Int32)]) (h' := h1) rfl ?_
      cases e
      exact zwp.ret rfl rfl ⟨⟨rfl, rfl⟩, hR1⟩
    · skip
      by_cases q0 : x = 0
      · subst q0
        replace e : (some ((2 : Int32), h1)) = some res := by simpa using e
        show zwp _ _ 13 [some (zr ((0, 10, 0) : zF)), some (zi a1), some (zi a2), some (zr ((a3, 23, n3) : zF)), none] [] _ _
        refine zwp.go (m := 1) (j := 14) (ls' := [some (zr ((0, 10, 0) : zF)), some (zi a1), some (zi a2), some (zr ((a3, 23, n3) : zF)), none]) (st' := [zi (2 : Int32)]) (h' := h1) rfl ?_
        cases e
        exact zwp.ret rfl rfl ⟨⟨rfl, rfl⟩, hR1⟩
      · skip
        simp [q1, q0] at e
def s_X11_allStrength_L4 : Nat → Int32 → Int32 → zH → Option (Int32)
  | 0, _, _, _ => none
  | n + 1, l1, l2, h => if (zI h 56 0) ≤ l2 then (some l1) else (zix l2 12 fun i1 => s_X11_allStrength_L4 n (l1 + (zI h 64 i1)) (l2 + (1 : Int32)) h)
set_option maxRecDepth 100000 in
theorem s_X11_allStrength_L4_ok (d : Nat) (ρ : Nat → Nat → Option zF) (hρ : zSh ρ) : ∀ (n : Nat) (l1 : Int32) (l2 : Int32) (h : zH) (res : Int32) (hR : zRq h ρ) (e : s_X11_allStrength_L4  n l1 l2 h = some res), zwp d zm_X11_allStrength 4 [some (zr ((52, 11, 0) : zF)), some (zi l1), some (zi l2)] [] h (zQp h res) := by
  intro n
  induction n with
  | zero => intro l1 l2 h res hR e; cases e
  | succ n ih =>
    intro l1 l2 h res hR e
    rw [s_X11_allStrength_L4] at e
    refine zwp.go (m := 2) (j := 6) (ls' := [some (zr ((52, 11, 0) : zF)), some (zi l1), some (zi l2)]) (st' := [zr ((52, 11, 0) : zF), zi l2]) (h' := h) rfl ?_
    refine zc_sr (r := ((56, 20, 12) : zF)) (zrf (a := 52) (y := 5) hR rfl (hρ 52 5 rfl)) rfl ?_
    refine zwp.go (m := 2) (j := 9) (ls' := [some (zr ((52, 11, 0) : zF)), some (zi l1), some (zi l2)]) (st' := [zi (zI h 56 0), zi l2]) (h' := h) rfl ?_
    refine zb_if (j := 19) (j2 := 10) e rfl (fun e => ?_) (fun e => ?_)
    · refine zwp.go (m := 1) (j := 20) (ls' := [some (zr ((52, 11, 0) : zF)), some (zi l1), some (zi l2)]) (st' := [zi l1]) (h' := h) rfl ?_
      cases e
      exact zwp.ret rfl rfl ⟨rfl, rfl⟩
    · refine zwp.go (m := 2) (j := 12) (ls' := [some (zr ((52, 11, 0) : zF)), some (zi l1), some (zi l2)]) (st' := [zr ((52, 11, 0) : zF), zi l1]) (h' := h) rfl ?_
      refine zc_sr (r := ((64, 20, 12) : zF)) (zrf (a := 52) (y := 24) hR rfl (hρ 52 24 rfl)) rfl ?_
      refine zwp.go (m := 1) (j := 14) (ls' := [some (zr ((52, 11, 0) : zF)), some (zi l1), some (zi l2)]) (st' := [zi l2, zr ((64, 20, 12) : zF), zi l1]) (h' := h) rfl ?_
      refine zc_ai e (fun _ => rfl) (fun i1 e => ?_)
      refine zwp.go (m := 4) (j := 4) (ls' := [some (zr ((52, 11, 0) : zF)), some (zi (l1 + (zI h 64 i1))), some (zi (l2 + (1 : Int32)))]) (st' := []) (h' := h) rfl ?_
      exact ih (l1 + (zI h 64 i1)) (l2 + (1 : Int32)) h _ hR e
def s_X11_allStrength (h : zH) : Option (Int32) := s_X11_allStrength_L4 zfu (0 : Int32) (0 : Int32) h
set_option maxRecDepth 100000 in
theorem s_X11_allStrength_ok (d : Nat) (ρ : Nat → Nat → Option zF) (hρ : zSh ρ) (h : zH) (res : Int32) (hR : zRq h ρ) (e : s_X11_allStrength  h = some res) : zcl d 252 [zr ((52, 11, 0) : zF)] h (zQp h res) := by
  rw [s_X11_allStrength] at e
  refine ⟨zm_X11_allStrength, rfl, ?_⟩
  show zwp d zm_X11_allStrength 0 [some (zr ((52, 11, 0) : zF)), none, none] [] h _
  refine zwp.go (m := 4) (j := 4) (ls' := [some (zr ((52, 11, 0) : zF)), some (zi (0 : Int32)), some (zi (0 : Int32))]) (st' := []) (h' := h) rfl ?_
  exact s_X11_allStrength_L4_ok d ρ hρ zfu (0 : Int32) (0 : Int32) h _ hR e
def s_X11_lost_J60 (s0 : Int32) (h : zH) : Option (Int32 × zH) := (s_X11_unpack 71 38 (0 : Int32) h).bind fun h1 => some (s0, h1)
set_option maxRecDepth 100000 in
theorem s_X11_lost_J60_ok (d : Nat) (ρ : Nat → Nat → Option zF) (hρ : zSh ρ) (s0 : Int32) (h : zH) (res : Int32 × zH) (hR : zRq h ρ) (e : s_X11_lost_J60  s0 h = some res) : zwp (d + 5) zm_X11_lost 60 [some (zr ((52, 11, 0) : zF)), none, none, none, none, none] [zi s0] h (zQi ρ res) := by
  rw [s_X11_lost_J60] at e
  refine zwp.go (m := 3) (j := 63) (ls' := [some (zr ((52, 11, 0) : zF)), none, none, none, none, some (zi s0)]) (st' := [zr ((52, 11, 0) : zF), zr ((52, 11, 0) : zF)]) (h' := h) rfl ?_
  refine zc_sr (r := ((71, 20, 38) : zF)) (zrf (a := 52) (y := 42) hR rfl (hρ 52 42 rfl)) rfl ?_
  refine zwp.go (m := 1) (j := 65) (ls' := [some (zr ((52, 11, 0) : zF)), none, none, none, none, some (zi s0)]) (st' := [zi (0 : Int32), zr ((71, 20, 38) : zF), zr ((52, 11, 0) : zF)]) (h' := h) rfl ?_
  refine zc_cv (d := d + 4) e (fun q e => s_X11_unpack_ok (d + 4) ρ hρ 71 38 (0 : Int32) h q hR e) rfl rfl (fun h1 hR1 e => ?_)
  refine zwp.go (m := 1) (j := 67) (ls' := [some (zr ((52, 11, 0) : zF)), none, none, none, none, some (zi s0)]) (st' := [zi s0]) (h' := h1) rfl ?_
  cases e
  exact zwp.ret rfl rfl ⟨⟨rfl, rfl⟩, hR1⟩
def s_X11_lost_L35 : Nat → Int32 → Int32 → Int32 → Int32 → Int32 → zH → Option (Int32 × zH)
  | 0, _, _, _, _, _, _ => none
  | n + 1, l1, l2, l3, l4, l5, h => if l1 ≤ l5 then (if ¬ l2 = 0 then (s_X11_lost_J60 l3 h) else ((s_X11_allStrength h).bind fun v1 => s_X11_lost_J60 (l4 - v1) h)) else ((s_X11_aDay h).bind fun h2 => if (zI h2 52 39) = 0 then (s_X11_lost_L35 n l1 l2 (l3 ||| (0 : Int32)) l4 (l5 + (1 : Int32)) h2) else (s_X11_lost_L35 n l1 l2 (l3 ||| (zI h2 52 40)) l4 (l5 + (1 : Int32)) h2))
set_option maxRecDepth 100000 in
theorem s_X11_lost_L35_ok (d : Nat) (ρ : Nat → Nat → Option zF) (hρ : zSh ρ) : ∀ (n : Nat) (l1 : Int32) (l2 : Int32) (l3 : Int32) (l4 : Int32) (l5 : Int32) (h : zH) (res : Int32 × zH) (hR : zRq h ρ) (e : s_X11_lost_L35  n l1 l2 l3 l4 l5 h = some res), zwp (d + 5) zm_X11_lost 35 [some (zr ((52, 11, 0) : zF)), some (zi l1), some (zi l2), some (zi l3), some (zi l4), some (zi l5)] [] h (zQi ρ res) := by
  intro n
  induction n with
  | zero => intro l1 l2 l3 l4 l5 h res hR e; cases e
  | succ n ih =>
    intro l1 l2 l3 l4 l5 h res hR e
    rw [s_X11_lost_L35] at e
    refine zwp.go (m := 2) (j := 37) (ls' := [some (zr ((52, 11, 0) : zF)), some (zi l1), some (zi l2), some (zi l3), some (zi l4), some (zi l5)]) (st' := [zi l1, zi l5]) (h' := h) rfl ?_
    refine zb_if (j := 52) (j2 := 38) e rfl (fun e => ?_) (fun e => ?_)
    · refine zwp.go (m := 1) (j := 53) (ls' := [some (zr ((52, 11, 0) : zF)), some (zi l1), some (zi l2), some (zi l3), some (zi l4), some (zi l5)]) (st' := [zi l2]) (h' := h) rfl ?_
      refine zb_if (j := 59) (j2 := 54) e rfl (fun e => ?_) (fun e => ?_)
      · refine zwp.go (m := 1) (j := 60) (ls' := [some (zr ((52, 11, 0) : zF)), some (zi l1), some (zi l2), some (zi l3), some (zi l4), some (zi l5)]) (st' := [zi l3]) (h' := h) rfl ?_
        refine zwp.fg (a := [some (zr ((52, 11, 0) : zF)), none, none, none, none, none]) (And.intro rfl trivial) ?_
        exact s_X11_lost_J60_ok d ρ hρ l3 h _ hR e
      · refine zwp.go (m := 2) (j := 56) (ls' := [some (zr ((52, 11, 0) : zF)), some (zi l1), some (zi l2), some (zi l3), some (zi l4), some (zi l5)]) (st' := [zr ((52, 11, 0) : zF), zi l4]) (h' := h) rfl ?_
        refine zc_cp (d := d + 4) e (fun q e => s_X11_allStrength_ok (d + 4) ρ hρ h q hR e) rfl rfl (fun v1 e => ?_)
        refine zwp.go (m := 2) (j := 60) (ls' := [some (zr ((52, 11, 0) : zF)), some (zi l1), some (zi l2), some (zi l3), some (zi l4), some (zi l5)]) (st' := [zi (l4 - v1)]) (h' := h) rfl ?_
        refine zwp.fg (a := [some (zr ((52, 11, 0) : zF)), none, none, none, none, none]) (And.intro rfl trivial) ?_
        exact s_X11_lost_J60_ok d ρ hρ (l4 - v1) h _ hR e
    · refine zwp.go (m := 1) (j := 39) (ls' := [some (zr ((52, 11, 0) : zF)), some (zi l1), some (zi l2), some (zi l3), some (zi l4), some (zi l5)]) (st' := [zr ((52, 11, 0) : zF)]) (h' := h) rfl ?_
      refine zc_cv (d := d + 4) e (fun q e => s_X11_aDay_ok (d + 0) ρ hρ h q hR e) rfl rfl (fun h2 hR2 e => ?_)
      refine zwp.go (m := 3) (j := 43) (ls' := [some (zr ((52, 11, 0) : zF)), some (zi l1), some (zi l2), some (zi l3), some (zi l4), some (zi l5)]) (st' := [zi (zI h2 52 39), zi l3]) (h' := h2) rfl ?_
      refine zb_if (j := 47) (j2 := 44) e rfl (fun e => ?_) (fun e => ?_)
      · refine zwp.go (m := 5) (j := 35) (ls' := [some (zr ((52, 11, 0) : zF)), some (zi l1), some (zi l2), some (zi (l3 ||| (0 : Int32))), some (zi l4), some (zi (l5 + (1 : Int32)))]) (st' := []) (h' := h2) rfl ?_
        exact ih l1 l2 (l3 ||| (0 : Int32)) l4 (l5 + (1 : Int32)) h2 _ hR2 e
      · refine zwp.go (m := 7) (j := 35) (ls' := [some (zr ((52, 11, 0) : zF)), some (zi l1), some (zi l2), some (zi (l3 ||| (zI h2 52 40))), some (zi l4), some (zi (l5 + (1 : Int32)))]) (st' := []) (h' := h2) rfl ?_
        exact ih l1 l2 (l3 ||| (zI h2 52 40)) l4 (l5 + (1 : Int32)) h2 _ hR2 e
def s_X11_lost (a1 : Int32) (a2 : Int32) (h : zH) : Option (Int32 × zH) := zlt (zwI h 52 4 (0 : Int32)) fun h1 => (s_X11_isIn a2.toInt64 (0 : Int64) (1 : Int64) h1).bind fun v2 => if ¬ v2 = 0 then ((s_X11_isIn a1.toInt64 (0 : Int64) (60 : Int64) h1).bind fun v3 => if ¬ v3 = 0 then ((s_X11_allStrength h1).bind fun v4 => (s_X11_pack 71 38 (0 : Int32) h1).bind fun h5 => s_X11_lost_L35 zfu a1 a2 (0 : Int32) v4 (0 : Int32) h5) else (zbd (s_X11_fail (2 : Int32) h1) fun v7 h6 => some (v7, h6))) else (zbd (s_X11_fail (1 : Int32) h1) fun v9 h8 => some (v9, h8))
set_option maxRecDepth 100000 in
theorem s_X11_lost_ok (d : Nat) (ρ : Nat → Nat → Option zF) (hρ : zSh ρ) (a1 : Int32) (a2 : Int32) (h : zH) (res : Int32 × zH) (hR : zRq h ρ) (e : s_X11_lost a1 a2 h = some res) : zcl (d + 5) 253 [zr ((52, 11, 0) : zF), zi a1, zi a2] h (zQi ρ res) := by
  rw [s_X11_lost] at e
  refine ⟨zm_X11_lost, rfl, ?_⟩
  show zwp (d + 5) zm_X11_lost 0 [some (zr ((52, 11, 0) : zF)), some (zi a1), some (zi a2), none, none, none] [] h _
  refine zwp.go (m := 2) (j := 2) (ls' := [some (zr ((52, 11, 0) : zF)), some (zi a1), some (zi a2), none, none, none]) (st' := [zi (0 : Int32), zr ((52, 11, 0) : zF)]) (h' := h) rfl ?_
  refine zc_w e rfl hR (fun h1 hR1 e => ?_)
  refine zwp.go (m := 4) (j := 7) (ls' := [some (zr ((52, 11, 0) : zF)), some (zi a1), some (zi a2), none, none, none]) (st' := [zl (1 : Int64), zl (0 : Int64), zl a2.toInt64]) (h' := h1) rfl ?_
  refine zc_cp (d := d + 4) e (fun q e => s_X11_isIn_ok (d + 4) ρ hρ a2.toInt64 (0 : Int64) (1 : Int64) h1 q hR1 e) rfl rfl (fun v2 e => ?_)
  refine zb_if (j := 13) (j2 := 9) e rfl (fun e => ?_) (fun e => ?_)
  · refine zwp.go (m := 4) (j := 17) (ls' := [some (zr ((52, 11, 0) : zF)), some (zi a1), some (zi a2), none, none, none]) (st' := [zl (60 : Int64), zl (0 : Int64), zl a1.toInt64]) (h' := h1) rfl ?_
    refine zc_cp (d := d + 4) e (fun q e => s_X11_isIn_ok (d + 4) ρ hρ a1.toInt64 (0 : Int64) (60 : Int64) h1 q hR1 e) rfl rfl (fun v3 e => ?_)
    refine zb_if (j := 23) (j2 := 19) e rfl (fun e => ?_) (fun e => ?_)
    · refine zwp.go (m := 3) (j := 26) (ls' := [some (zr ((52, 11, 0) : zF)), some (zi a1), some (zi a2), some (zi (0 : Int32)), none, none]) (st' := [zr ((52, 11, 0) : zF)]) (h' := h1) rfl ?_
      refine zc_cp (d := d + 4) e (fun q e => s_X11_allStrength_ok (d + 4) ρ hρ h1 q hR1 e) rfl rfl (fun v4 e => ?_)
      refine zwp.go (m := 3) (j := 30) (ls' := [some (zr ((52, 11, 0) : zF)), some (zi a1), some (zi a2), some (zi (0 : Int32)), some (zi v4), none]) (st' := [zr ((52, 11, 0) : zF), zr ((52, 11, 0) : zF)]) (h' := h1) rfl ?_
      refine zc_sr (r := ((71, 20, 38) : zF)) (zrf (a := 52) (y := 42) hR1 rfl (hρ 52 42 rfl)) rfl ?_
      refine zwp.go (m := 1) (j := 32) (ls' := [some (zr ((52, 11, 0) : zF)), some (zi a1), some (zi a2), some (zi (0 : Int32)), some (zi v4), none]) (st' := [zi (0 : Int32), zr ((71, 20, 38) : zF), zr ((52, 11, 0) : zF)]) (h' := h1) rfl ?_
      refine zc_cv (d := d + 4) e (fun q e => s_X11_pack_ok (d + 4) ρ hρ 71 38 (0 : Int32) h1 q hR1 e) rfl rfl (fun h5 hR5 e => ?_)
      refine zwp.go (m := 2) (j := 35) (ls' := [some (zr ((52, 11, 0) : zF)), some (zi a1), some (zi a2), some (zi (0 : Int32)), some (zi v4), some (zi (0 : Int32))]) (st' := []) (h' := h5) rfl ?_
      exact s_X11_lost_L35_ok d ρ hρ zfu a1 a2 (0 : Int32) v4 (0 : Int32) h5 _ hR5 e
    · refine zwp.go (m := 2) (j := 21) (ls' := [some (zr ((52, 11, 0) : zF)), some (zi a1), some (zi a2), none, none, none]) (st' := [zi (2 : Int32), zr ((52, 11, 0) : zF)]) (h' := h1) rfl ?_
      refine zc_ci (d := d + 4) e (fun q e => s_X11_fail_ok (d + 4) ρ hρ (2 : Int32) h1 q hR1 e) rfl rfl (fun v7 h6 hR6 e => ?_)
      cases e
      exact zwp.ret rfl rfl ⟨⟨rfl, rfl⟩, hR6⟩
  · refine zwp.go (m := 2) (j := 11) (ls' := [some (zr ((52, 11, 0) : zF)), some (zi a1), some (zi a2), none, none, none]) (st' := [zi (1 : Int32), zr ((52, 11, 0) : zF)]) (h' := h1) rfl ?_
    refine zc_ci (d := d + 4) e (fun q e => s_X11_fail_ok (d + 4) ρ hρ (1 : Int32) h1 q hR1 e) rfl rfl (fun v9 h8 hR8 e => ?_)
    cases e
    exact zwp.ret rfl rfl ⟨⟨rfl, rfl⟩, hR8⟩
def s_X10_pace (pp : Nat) (a1 : Int32) (h : zH) : Option ((Int32 ⊕ Nat) × zH) := zbx (s_X10_needClan pp a1 h) (fun _ h2 => zbd (s_X9_paceOf pp 19 a1 h2) fun v4 h3 => some (Sum.inl v4, h3)) (fun x h1 => some (Sum.inr x, h1))
set_option maxRecDepth 100000 in
theorem s_X10_pace_ok (d : Nat) (ρ : Nat → Nat → Option zF) (hρ : zSh ρ) (pp : Nat) (a1 : Int32) (hpp : ρ 0 3 = some (pp, 3, 0) ∧ zPlS ρ pp) (h : zH) (res : (Int32 ⊕ Nat) × zH) (hR : zRq h ρ) (e : s_X10_pace pp a1 h = some res) : zcl (d + 3) 254 [zr ((0, 10, 0) : zF), zi a1] h (zQx ρ res) := by
  rw [s_X10_pace] at e
  refine ⟨zm_X10_pace, rfl, ?_⟩
  show zwp (d + 3) zm_X10_pace 0 [some (zr ((0, 10, 0) : zF)), some (zi a1)] [] h _
  refine zwp.go (m := 2) (j := 2) (ls' := [some (zr ((0, 10, 0) : zF)), some (zi a1)]) (st' := [zi a1, zr ((0, 10, 0) : zF)]) (h' := h) rfl ?_
  refine zc_cu (d := d + 2) e (fun q e => s_X10_needClan_ok (d + 2) ρ hρ pp a1 hpp h q hR e) rfl rfl (fun h2 hR2 e => ?_) (fun x h1 hR1 e => ?_)
  · refine zwp.go (m := 1) (j := 4) (ls' := [some (zr ((0, 10, 0) : zF)), some (zi a1)]) (st' := [zr ((0, 10, 0) : zF)]) (h' := h2) rfl ?_
    refine zc_sr (r := ((36, 9, 0) : zF)) (zrf (a := 0) (y := 10) hR2 rfl (hρ 0 10 rfl)) rfl ?_
    refine zwp.go (m := 1) (j := 6) (ls' := [some (zr ((0, 10, 0) : zF)), some (zi a1)]) (st' := [zr ((0, 10, 0) : zF), zr ((36, 9, 0) : zF)]) (h' := h2) rfl ?_
    refine zc_sr (r := ((pp, 3, 0) : zF)) (zrf (a := 0) (y := 3) hR2 rfl hpp.1) rfl ?_
    refine zwp.go (m := 1) (j := 8) (ls' := [some (zr ((0, 10, 0) : zF)), some (zi a1)]) (st' := [zr ((0, 10, 0) : zF), zr ((pp, 3, 0) : zF), zr ((36, 9, 0) : zF)]) (h' := h2) rfl ?_
    refine zc_sr (r := ((18, 2, 0) : zF)) (zrf (a := 0) (y := 6) hR2 rfl (hρ 0 6 rfl)) rfl ?_
    refine zc_sr (r := ((19, 8, 0) : zF)) (zrf (a := 18) (y := 0) hR2 rfl (zSh_ld18 hρ).2.1) rfl ?_
    refine zwp.go (m := 1) (j := 11) (ls' := [some (zr ((0, 10, 0) : zF)), some (zi a1)]) (st' := [zi a1, zr ((19, 8, 0) : zF), zr ((pp, 3, 0) : zF), zr ((36, 9, 0) : zF)]) (h' := h2) rfl ?_
    refine zc_ci (d := d + 2) e (fun q e => s_X9_paceOf_ok (d + 0) ρ hρ pp 19 a1 hpp.2 (zSh_st19 hρ) h2 q hR2 e) rfl rfl (fun v4 h3 hR3 e => ?_)
    cases e
    exact zwp.ret rfl rfl ⟨⟨rfl, rfl⟩, hR3⟩
  · cases e
    exact ⟨rfl, ⟨⟨rfl, rfl⟩, hR1⟩⟩
def s_L_pace (pp : Nat) (a1 : Int32) (a2 n2 : Nat) (h : zH) : Option (Int32 × zH) := zbx (s_X10_pace pp a1 h) (fun v3 h2 => zix (0 : Int32) n2 fun i5 => zlt (zwL h2 a2 i5 v3.toInt64) fun h4 => some ((0 : Int32), h4)) (fun x h1 => if x = 1 then (some ((1 : Int32), h1)) else none)
set_option maxRecDepth 100000 in
theorem s_L_pace_ok (d : Nat) (ρ : Nat → Nat → Option zF) (hρ : zSh ρ) (pp : Nat) (a1 : Int32) (a2 n2 : Nat) (hpp : ρ 0 3 = some (pp, 3, 0) ∧ zPlS ρ pp) (h : zH) (res : Int32 × zH) (hR : zRq h ρ) (e : s_L_pace pp a1 a2 n2 h = some res) : zcl (d + 4) 255 [zr ((0, 10, 0) : zF), zi a1, zr ((a2, 23, n2) : zF)] h (zQi ρ res) := by
  rw [s_L_pace] at e
  refine ⟨zm_L_pace, rfl, ?_⟩
  show zwp (d + 4) zm_L_pace 0 [some (zr ((0, 10, 0) : zF)), some (zi a1), some (zr ((a2, 23, n2) : zF)), none] [] h _
  refine zwp.go (m := 4) (j := 4) (ls' := [some (zr ((0, 10, 0) : zF)), some (zi a1), some (zr ((a2, 23, n2) : zF)), none]) (st' := [zi a1, zr ((0, 10, 0) : zF), zi (0 : Int32), zr ((a2, 23, n2) : zF)]) (h' := h) rfl ?_
  refine zc_cx (d := d + 3) e (fun q e => s_X10_pace_ok (d + 0) ρ hρ pp a1 hpp h q hR e) rfl rfl (fun v3 h2 hR2 e => ?_) (fun x h1 hR1 e => ?_)
  · refine zwp.go (m := 1) (j := 6) (ls' := [some (zr ((0, 10, 0) : zF)), some (zi a1), some (zr ((a2, 23, n2) : zF)), none]) (st' := [zl v3.toInt64, zi (0 : Int32), zr ((a2, 23, n2) : zF)]) (h' := h2) rfl ?_
    refine zc_sl e (fun _ => rfl) hR2 (fun h4 hR4 e => ?_)
    refine zwp.go (m := 2) (j := 12) (ls' := [some (zr ((0, 10, 0) : zF)), some (zi a1), some (zr ((a2, 23, n2) : zF)), none]) (st' := [zi (0 : Int32)]) (h' := h4) rfl ?_
    cases e
    exact zwp.ret rfl rfl ⟨⟨rfl, rfl⟩, hR4⟩
  · by_cases q1 : x = 1
    · subst q1
      replace e : (some ((1 : Int32), h1)) = some res := by simpa using e
      show zwp _ _ 9 [some (zr ((0, 10, 0) : zF)), some (zi a1), some (zr ((a2, 23, n2) : zF)), none] [] _ _
      refine zwp.go (m := 1) (j := 10) (ls' := [some (zr ((0, 10, 0) : zF)), some (zi a1), some (zr ((a2, 23, n2) : zF)), none]) (st' := [zi (1 : Int32)]) (h' := h1) rfl ?_
      cases e
      exact zwp.ret rfl rfl ⟨⟨rfl, rfl⟩, hR1⟩
    · skip
      simp [q1] at e
def s_X11_pace_L18 : Nat → Int32 → Int32 → Int32 → zH → Option (Int32 × zH)
  | 0, _, _, _, _ => none
  | n + 1, l1, l2, l3, h => if ((zI h 56 0) - (zI h 52 31)) ≤ l3 then (if ¬ l2 = (-1 : Int32) then (zbd (s_X11_weavesAt l1 l2 h) fun v2 h1 => some (v2, h1)) else (some ((0 : Int32), h))) else ((s_X11_isGone l3 h).bind fun v3 => if ¬ v3 = 0 then (s_X11_pace_L18 n l1 l2 (l3 + (1 : Int32)) h) else (if l2 = (-1 : Int32) then (s_X11_pace_L18 n l1 l3 (l3 + (1 : Int32)) h) else (if ¬ l1 = (1 : Int32) then (s_X11_pace_L18 n l1 l2 (l3 + (1 : Int32)) h) else (s_X11_pace_L18 n l1 l3 (l3 + (1 : Int32)) h))))
set_option maxRecDepth 100000 in
theorem s_X11_pace_L18_ok (d : Nat) (ρ : Nat → Nat → Option zF) (hρ : zSh ρ) : ∀ (n : Nat) (l1 : Int32) (l2 : Int32) (l3 : Int32) (h : zH) (res : Int32 × zH) (hR : zRq h ρ) (e : s_X11_pace_L18  n l1 l2 l3 h = some res), zwp (d + 3) zm_X11_pace 18 [some (zr ((52, 11, 0) : zF)), some (zi l1), some (zi l2), some (zi l3)] [] h (zQi ρ res) := by
  intro n
  induction n with
  | zero => intro l1 l2 l3 h res hR e; cases e
  | succ n ih =>
    intro l1 l2 l3 h res hR e
    rw [s_X11_pace_L18] at e
    refine zwp.go (m := 2) (j := 20) (ls' := [some (zr ((52, 11, 0) : zF)), some (zi l1), some (zi l2), some (zi l3)]) (st' := [zr ((52, 11, 0) : zF), zi l3]) (h' := h) rfl ?_
    refine zc_sr (r := ((56, 20, 12) : zF)) (zrf (a := 52) (y := 5) hR rfl (hρ 52 5 rfl)) rfl ?_
    refine zwp.go (m := 5) (j := 26) (ls' := [some (zr ((52, 11, 0) : zF)), some (zi l1), some (zi l2), some (zi l3)]) (st' := [zi ((zI h 56 0) - (zI h 52 31)), zi l3]) (h' := h) rfl ?_
    refine zb_if (j := 41) (j2 := 27) e rfl (fun e => ?_) (fun e => ?_)
    · refine zwp.go (m := 2) (j := 43) (ls' := [some (zr ((52, 11, 0) : zF)), some (zi l1), some (zi l2), some (zi l3)]) (st' := [zi (-1 : Int32), zi l2]) (h' := h) rfl ?_
      refine zb_if (j := 46) (j2 := 44) e rfl (fun e => ?_) (fun e => ?_)
      · refine zwp.go (m := 3) (j := 49) (ls' := [some (zr ((52, 11, 0) : zF)), some (zi l1), some (zi l2), some (zi l3)]) (st' := [zi l2, zi l1, zr ((52, 11, 0) : zF)]) (h' := h) rfl ?_
        refine zc_ci (d := d + 2) e (fun q e => s_X11_weavesAt_ok (d + 0) ρ hρ l1 l2 h q hR e) rfl rfl (fun v2 h1 hR1 e => ?_)
        cases e
        exact zwp.ret rfl rfl ⟨⟨rfl, rfl⟩, hR1⟩
      · refine zwp.go (m := 2) (j := 50) (ls' := [some (zr ((52, 11, 0) : zF)), some (zi l1), some (zi l2), some (zi l3)]) (st' := [zi (0 : Int32)]) (h' := h) rfl ?_
        cases e
        exact zwp.ret rfl rfl ⟨⟨rfl, rfl⟩, hR⟩
    · refine zwp.go (m := 2) (j := 29) (ls' := [some (zr ((52, 11, 0) : zF)), some (zi l1), some (zi l2), some (zi l3)]) (st' := [zi l3, zr ((52, 11, 0) : zF)]) (h' := h) rfl ?_
      refine zc_cp (d := d + 2) e (fun q e => s_X11_isGone_ok (d + 2) ρ hρ l3 h q hR e) rfl rfl (fun v3 e => ?_)
      refine zb_if (j := 39) (j2 := 31) e rfl (fun e => ?_) (fun e => ?_)
      · refine zwp.go (m := 2) (j := 18) (ls' := [some (zr ((52, 11, 0) : zF)), some (zi l1), some (zi l2), some (zi (l3 + (1 : Int32)))]) (st' := []) (h' := h) rfl ?_
        exact ih l1 l2 (l3 + (1 : Int32)) h _ hR e
      · refine zwp.go (m := 2) (j := 33) (ls' := [some (zr ((52, 11, 0) : zF)), some (zi l1), some (zi l2), some (zi l3)]) (st' := [zi (-1 : Int32), zi l2]) (h' := h) rfl ?_
        refine zb_if (j := 37) (j2 := 34) e rfl (fun e => ?_) (fun e => ?_)
        · refine zwp.go (m := 4) (j := 18) (ls' := [some (zr ((52, 11, 0) : zF)), some (zi l1), some (zi l3), some (zi (l3 + (1 : Int32)))]) (st' := []) (h' := h) rfl ?_
          exact ih l1 l3 (l3 + (1 : Int32)) h _ hR e
        · refine zwp.go (m := 2) (j := 36) (ls' := [some (zr ((52, 11, 0) : zF)), some (zi l1), some (zi l2), some (zi l3)]) (st' := [zi (1 : Int32), zi l1]) (h' := h) rfl ?_
          refine zb_if (j := 39) (j2 := 37) e rfl (fun e => ?_) (fun e => ?_)
          · refine zwp.go (m := 2) (j := 18) (ls' := [some (zr ((52, 11, 0) : zF)), some (zi l1), some (zi l2), some (zi (l3 + (1 : Int32)))]) (st' := []) (h' := h) rfl ?_
            exact ih l1 l2 (l3 + (1 : Int32)) h _ hR e
          · refine zwp.go (m := 4) (j := 18) (ls' := [some (zr ((52, 11, 0) : zF)), some (zi l1), some (zi l3), some (zi (l3 + (1 : Int32)))]) (st' := []) (h' := h) rfl ?_
            exact ih l1 l3 (l3 + (1 : Int32)) h _ hR e
def s_X11_pace (a1 : Int32) (h : zH) : Option (Int32 × zH) := zlt (zwI h 52 4 (0 : Int32)) fun h1 => (s_X11_isIn a1.toInt64 (0 : Int64) (1 : Int64) h1).bind fun v2 => if ¬ v2 = 0 then (s_X11_pace_L18 zfu a1 (-1 : Int32) (zI h1 52 30) h1) else (zbd (s_X11_fail (1 : Int32) h1) fun v4 h3 => some (v4, h3))
set_option maxRecDepth 100000 in
theorem s_X11_pace_ok (d : Nat) (ρ : Nat → Nat → Option zF) (hρ : zSh ρ) (a1 : Int32) (h : zH) (res : Int32 × zH) (hR : zRq h ρ) (e : s_X11_pace a1 h = some res) : zcl (d + 3) 256 [zr ((52, 11, 0) : zF), zi a1] h (zQi ρ res) := by
  rw [s_X11_pace] at e
  refine ⟨zm_X11_pace, rfl, ?_⟩
  show zwp (d + 3) zm_X11_pace 0 [some (zr ((52, 11, 0) : zF)), some (zi a1), none, none] [] h _
  refine zwp.go (m := 2) (j := 2) (ls' := [some (zr ((52, 11, 0) : zF)), some (zi a1), none, none]) (st' := [zi (0 : Int32), zr ((52, 11, 0) : zF)]) (h' := h) rfl ?_
  refine zc_w e rfl hR (fun h1 hR1 e => ?_)
  refine zwp.go (m := 4) (j := 7) (ls' := [some (zr ((52, 11, 0) : zF)), some (zi a1), none, none]) (st' := [zl (1 : Int64), zl (0 : Int64), zl a1.toInt64]) (h' := h1) rfl ?_
  refine zc_cp (d := d + 2) e (fun q e => s_X11_isIn_ok (d + 2) ρ hρ a1.toInt64 (0 : Int64) (1 : Int64) h1 q hR1 e) rfl rfl (fun v2 e => ?_)
  refine zb_if (j := 13) (j2 := 9) e rfl (fun e => ?_) (fun e => ?_)
  · refine zwp.go (m := 5) (j := 18) (ls' := [some (zr ((52, 11, 0) : zF)), some (zi a1), some (zi (-1 : Int32)), some (zi (zI h1 52 30))]) (st' := []) (h' := h1) rfl ?_
    exact s_X11_pace_L18_ok d ρ hρ zfu a1 (-1 : Int32) (zI h1 52 30) h1 _ hR1 e
  · refine zwp.go (m := 2) (j := 11) (ls' := [some (zr ((52, 11, 0) : zF)), some (zi a1), none, none]) (st' := [zi (1 : Int32), zr ((52, 11, 0) : zF)]) (h' := h1) rfl ?_
    refine zc_ci (d := d + 2) e (fun q e => s_X11_fail_ok (d + 2) ρ hρ (1 : Int32) h1 q hR1 e) rfl rfl (fun v4 h3 hR3 e => ?_)
    cases e
    exact zwp.ret rfl rfl ⟨⟨rfl, rfl⟩, hR3⟩
def s_X10_both (pp : Nat) (a1 : Int32) (a2 : Int32) (h : zH) : Option ((Int32 ⊕ Nat) × zH) := zbx (s_X10_needVerse pp a1 h) (fun _ h2 => zbx (s_X10_needVerse pp a2 h2) (fun _ h4 => zix a1 8 fun i5 => zix a2 8 fun i6 => (s_X10_aliveNow pp h4).bind fun v7 => some (Sum.inl (((zI h4 (pp + 2) i5) &&& (zI h4 (pp + 2) i6)) &&& v7), h4)) (fun x h3 => some (Sum.inr x, h3))) (fun x h1 => some (Sum.inr x, h1))
set_option maxRecDepth 100000 in
theorem s_X10_both_ok (d : Nat) (ρ : Nat → Nat → Option zF) (hρ : zSh ρ) (pp : Nat) (a1 : Int32) (a2 : Int32) (hpp : ρ 0 3 = some (pp, 3, 0) ∧ zPlS ρ pp) (h : zH) (res : (Int32 ⊕ Nat) × zH) (hR : zRq h ρ) (e : s_X10_both pp a1 a2 h = some res) : zcl (d + 2) 257 [zr ((0, 10, 0) : zF), zi a1, zi a2] h (zQx ρ res) := by
  rw [s_X10_both] at e
  refine ⟨zm_X10_both, rfl, ?_⟩
  show zwp (d + 2) zm_X10_both 0 [some (zr ((0, 10, 0) : zF)), some (zi a1), some (zi a2)] [] h _
  refine zwp.go (m := 2) (j := 2) (ls' := [some (zr ((0, 10, 0) : zF)), some (zi a1), some (zi a2)]) (st' := [zi a1, zr ((0, 10, 0) : zF)]) (h' := h) rfl ?_
  refine zc_cu (d := d + 1) e (fun q e => s_X10_needVerse_ok (d + 1) ρ hρ pp a1 hpp h q hR e) rfl rfl (fun h2 hR2 e => ?_) (fun x h1 hR1 e => ?_)
  · refine zwp.go (m := 2) (j := 5) (ls' := [some (zr ((0, 10, 0) : zF)), some (zi a1), some (zi a2)]) (st' := [zi a2, zr ((0, 10, 0) : zF)]) (h' := h2) rfl ?_
    refine zc_cu (d := d + 1) e (fun q e => s_X10_needVerse_ok (d + 1) ρ hρ pp a2 hpp h2 q hR2 e) rfl rfl (fun h4 hR4 e => ?_) (fun x h3 hR3 e => ?_)
    · refine zwp.go (m := 1) (j := 7) (ls' := [some (zr ((0, 10, 0) : zF)), some (zi a1), some (zi a2)]) (st' := [zr ((0, 10, 0) : zF)]) (h' := h4) rfl ?_
      refine zc_sr (r := ((pp, 3, 0) : zF)) (zrf (a := 0) (y := 3) hR4 rfl hpp.1) rfl ?_
      refine zc_sr (r := (((pp + 2), 20, 8) : zF)) (zrf (a := pp) (y := 1) hR4 rfl hpp.2.2.2.1) rfl ?_
      refine zwp.go (m := 1) (j := 10) (ls' := [some (zr ((0, 10, 0) : zF)), some (zi a1), some (zi a2)]) (st' := [zi a1, zr (((pp + 2), 20, 8) : zF)]) (h' := h4) rfl ?_
      refine zc_ai e (fun _ => rfl) (fun i5 e => ?_)
      refine zwp.go (m := 1) (j := 12) (ls' := [some (zr ((0, 10, 0) : zF)), some (zi a1), some (zi a2)]) (st' := [zr ((0, 10, 0) : zF), zi (zI h4 (pp + 2) i5)]) (h' := h4) rfl ?_
      refine zc_sr (r := ((pp, 3, 0) : zF)) (zrf (a := 0) (y := 3) hR4 rfl hpp.1) rfl ?_
      refine zc_sr (r := (((pp + 2), 20, 8) : zF)) (zrf (a := pp) (y := 1) hR4 rfl hpp.2.2.2.1) rfl ?_
      refine zwp.go (m := 1) (j := 15) (ls' := [some (zr ((0, 10, 0) : zF)), some (zi a1), some (zi a2)]) (st' := [zi a2, zr (((pp + 2), 20, 8) : zF), zi (zI h4 (pp + 2) i5)]) (h' := h4) rfl ?_
      refine zc_ai e (fun _ => rfl) (fun i6 e => ?_)
      refine zwp.go (m := 2) (j := 18) (ls' := [some (zr ((0, 10, 0) : zF)), some (zi a1), some (zi a2)]) (st' := [zr ((0, 10, 0) : zF), zi ((zI h4 (pp + 2) i5) &&& (zI h4 (pp + 2) i6))]) (h' := h4) rfl ?_
      refine zc_cp (d := d + 1) e (fun q e => s_X10_aliveNow_ok (d + 0) ρ hρ pp hpp h4 q hR4 e) rfl rfl (fun v7 e => ?_)
      refine zwp.go (m := 1) (j := 20) (ls' := [some (zr ((0, 10, 0) : zF)), some (zi a1), some (zi a2)]) (st' := [zi (((zI h4 (pp + 2) i5) &&& (zI h4 (pp + 2) i6)) &&& v7)]) (h' := h4) rfl ?_
      cases e
      exact zwp.ret rfl rfl ⟨⟨rfl, rfl⟩, hR4⟩
    · cases e
      exact ⟨rfl, ⟨⟨rfl, rfl⟩, hR3⟩⟩
  · cases e
    exact ⟨rfl, ⟨⟨rfl, rfl⟩, hR1⟩⟩
def s_L_both (pp : Nat) (a1 : Int32) (a2 : Int32) (a3 n3 : Nat) (h : zH) : Option (Int32 × zH) := zbx (s_X10_both pp a1 a2 h) (fun v3 h2 => zix (0 : Int32) n3 fun i5 => zlt (zwL h2 a3 i5 v3.toInt64) fun h4 => some ((0 : Int32), h4)) (fun x h1 => if x = 1 then (some ((1 : Int32), h1)) else none)
set_option maxRecDepth 100000 in
theorem s_L_both_ok (d : Nat) (ρ : Nat → Nat → Option zF) (hρ : zSh ρ) (pp : Nat) (a1 : Int32) (a2 : Int32) (a3 n3 : Nat) (hpp : ρ 0 3 = some (pp, 3, 0) ∧ zPlS ρ pp) (h : zH) (res : Int32 × zH) (hR : zRq h ρ) (e : s_L_both pp a1 a2 a3 n3 h = some res) : zcl (d + 3) 258 [zr ((0, 10, 0) : zF), zi a1, zi a2, zr ((a3, 23, n3) : zF)] h (zQi ρ res) := by
  rw [s_L_both] at e
  refine ⟨zm_L_both, rfl, ?_⟩
  show zwp (d + 3) zm_L_both 0 [some (zr ((0, 10, 0) : zF)), some (zi a1), some (zi a2), some (zr ((a3, 23, n3) : zF)), none] [] h _
  refine zwp.go (m := 5) (j := 5) (ls' := [some (zr ((0, 10, 0) : zF)), some (zi a1), some (zi a2), some (zr ((a3, 23, n3) : zF)), none]) (st' := [zi a2, zi a1, zr ((0, 10, 0) : zF), zi (0 : Int32), zr ((a3, 23, n3) : zF)]) (h' := h) rfl ?_
  refine zc_cx (d := d + 2) e (fun q e => s_X10_both_ok (d + 0) ρ hρ pp a1 a2 hpp h q hR e) rfl rfl (fun v3 h2 hR2 e => ?_) (fun x h1 hR1 e => ?_)
  · refine zwp.go (m := 1) (j := 7) (ls' := [some (zr ((0, 10, 0) : zF)), some (zi a1), some (zi a2), some (zr ((a3, 23, n3) : zF)), none]) (st' := [zl v3.toInt64, zi (0 : Int32), zr ((a3, 23, n3) : zF)]) (h' := h2) rfl ?_
    refine zc_sl e (fun _ => rfl) hR2 (fun h4 hR4 e => ?_)
    refine zwp.go (m := 2) (j := 13) (ls' := [some (zr ((0, 10, 0) : zF)), some (zi a1), some (zi a2), some (zr ((a3, 23, n3) : zF)), none]) (st' := [zi (0 : Int32)]) (h' := h4) rfl ?_
    cases e
    exact zwp.ret rfl rfl ⟨⟨rfl, rfl⟩, hR4⟩
  · by_cases q1 : x = 1
    · subst q1
      replace e : (some ((1 : Int32), h1)) = some res := by simpa using e
      show zwp _ _ 10 [some (zr ((0, 10, 0) : zF)), some (zi a1), some (zi a2), some (zr ((a3, 23, n3) : zF)), none] [] _ _
      refine zwp.go (m := 1) (j := 11) (ls' := [some (zr ((0, 10, 0) : zF)), some (zi a1), some (zi a2), some (zr ((a3, 23, n3) : zF)), none]) (st' := [zi (1 : Int32)]) (h' := h1) rfl ?_
      cases e
      exact zwp.ret rfl rfl ⟨⟨rfl, rfl⟩, hR1⟩
    · skip
      simp [q1] at e
def s_X11_both_J19 (h : zH) : Option (Int32 × zH) := zbd (s_X11_fail (1 : Int32) h) fun v2 h1 => some (v2, h1)
set_option maxRecDepth 100000 in
theorem s_X11_both_J19_ok (d : Nat) (ρ : Nat → Nat → Option zF) (hρ : zSh ρ) (h : zH) (res : Int32 × zH) (hR : zRq h ρ) (e : s_X11_both_J19   h = some res) : zwp (d + 2) zm_X11_both 19 [some (zr ((52, 11, 0) : zF)), none, none] [] h (zQi ρ res) := by
  rw [s_X11_both_J19] at e
  refine zwp.go (m := 2) (j := 21) (ls' := [some (zr ((52, 11, 0) : zF)), none, none]) (st' := [zi (1 : Int32), zr ((52, 11, 0) : zF)]) (h' := h) rfl ?_
  refine zc_ci (d := d + 1) e (fun q e => s_X11_fail_ok (d + 1) ρ hρ (1 : Int32) h q hR e) rfl rfl (fun v2 h1 hR1 e => ?_)
  cases e
  exact zwp.ret rfl rfl ⟨⟨rfl, rfl⟩, hR1⟩
def s_X11_both (a1 : Int32) (a2 : Int32) (h : zH) : Option (Int32 × zH) := zlt (zwI h 52 4 (0 : Int32)) fun h1 => (s_X11_isVerse a1 h1).bind fun v2 => if v2 = 0 then (s_X11_both_J19 h1) else ((s_X11_isVerse a2 h1).bind fun v3 => if v3 = 0 then (s_X11_both_J19 h1) else ((s_X11_throwNow a1 h1).bind fun v4 => (s_X11_throwNow a2 h1).bind fun v5 => some ((v4 &&& v5), h1)))
set_option maxRecDepth 100000 in
theorem s_X11_both_ok (d : Nat) (ρ : Nat → Nat → Option zF) (hρ : zSh ρ) (a1 : Int32) (a2 : Int32) (h : zH) (res : Int32 × zH) (hR : zRq h ρ) (e : s_X11_both a1 a2 h = some res) : zcl (d + 2) 259 [zr ((52, 11, 0) : zF), zi a1, zi a2] h (zQi ρ res) := by
  rw [s_X11_both] at e
  refine ⟨zm_X11_both, rfl, ?_⟩
  show zwp (d + 2) zm_X11_both 0 [some (zr ((52, 11, 0) : zF)), some (zi a1), some (zi a2)] [] h _
  refine zwp.go (m := 2) (j := 2) (ls' := [some (zr ((52, 11, 0) : zF)), some (zi a1), some (zi a2)]) (st' := [zi (0 : Int32), zr ((52, 11, 0) : zF)]) (h' := h) rfl ?_
  refine zc_w e rfl hR (fun h1 hR1 e => ?_)
  refine zwp.go (m := 2) (j := 5) (ls' := [some (zr ((52, 11, 0) : zF)), some (zi a1), some (zi a2)]) (st' := [zi a1, zr ((52, 11, 0) : zF)]) (h' := h1) rfl ?_
  refine zc_cp (d := d + 1) e (fun q e => s_X11_isVerse_ok (d + 0) ρ hρ a1 h1 q hR1 e) rfl rfl (fun v2 e => ?_)
  refine zb_if (j := 19) (j2 := 7) e rfl (fun e => ?_) (fun e => ?_)
  · refine zwp.fg (a := [some (zr ((52, 11, 0) : zF)), none, none]) (And.intro rfl trivial) ?_
    exact s_X11_both_J19_ok d ρ hρ h1 _ hR1 e
  · refine zwp.go (m := 2) (j := 9) (ls' := [some (zr ((52, 11, 0) : zF)), some (zi a1), some (zi a2)]) (st' := [zi a2, zr ((52, 11, 0) : zF)]) (h' := h1) rfl ?_
    refine zc_cp (d := d + 1) e (fun q e => s_X11_isVerse_ok (d + 0) ρ hρ a2 h1 q hR1 e) rfl rfl (fun v3 e => ?_)
    refine zb_if (j := 19) (j2 := 11) e rfl (fun e => ?_) (fun e => ?_)
    · refine zwp.fg (a := [some (zr ((52, 11, 0) : zF)), none, none]) (And.intro rfl trivial) ?_
      exact s_X11_both_J19_ok d ρ hρ h1 _ hR1 e
    · refine zwp.go (m := 2) (j := 13) (ls' := [some (zr ((52, 11, 0) : zF)), some (zi a1), some (zi a2)]) (st' := [zi a1, zr ((52, 11, 0) : zF)]) (h' := h1) rfl ?_
      refine zc_cp (d := d + 1) e (fun q e => s_X11_throwNow_ok (d + 0) ρ hρ a1 h1 q hR1 e) rfl rfl (fun v4 e => ?_)
      refine zwp.go (m := 2) (j := 16) (ls' := [some (zr ((52, 11, 0) : zF)), some (zi a1), some (zi a2)]) (st' := [zi a2, zr ((52, 11, 0) : zF), zi v4]) (h' := h1) rfl ?_
      refine zc_cp (d := d + 1) e (fun q e => s_X11_throwNow_ok (d + 0) ρ hρ a2 h1 q hR1 e) rfl rfl (fun v5 e => ?_)
      refine zwp.go (m := 2) (j := 22) (ls' := [some (zr ((52, 11, 0) : zF)), some (zi a1), some (zi a2)]) (st' := [zi (v4 &&& v5)]) (h' := h1) rfl ?_
      cases e
      exact zwp.ret rfl rfl ⟨⟨rfl, rfl⟩, hR1⟩
def s_X2_addSeen (a0 : Nat) (a1 : Int32) (a2 : Int32) (a3 : Int32) (h : zH) : Option (zH) := zix (zI h a0 7) 8 fun i7 => zlt (zwI h (a0 + 7) i7 a1) fun h1 => zix (zI h1 a0 7) 8 fun i6 => zlt (zwI h1 (a0 + 8) i6 a2) fun h2 => zix (zI h2 a0 7) 8 fun i5 => zlt (zwI h2 (a0 + 9) i5 (a3 &&& 1)) fun h3 => zlt (zwI h3 a0 7 ((zI h3 a0 7) + (1 : Int32))) fun h4 => some h4
set_option maxRecDepth 100000 in
theorem s_X2_addSeen_ok (d : Nat) (ρ : Nat → Nat → Option zF) (hρ : zSh ρ) (a0 : Nat) (a1 : Int32) (a2 : Int32) (a3 : Int32) (ha0 : zLdS ρ a0) (h : zH) (res : zH) (hR : zRq h ρ) (e : s_X2_addSeen a0 a1 a2 a3 h = some res) : zcl d 260 [zr ((a0, 2, 0) : zF), zi a1, zi a2, zi a3] h (zQv ρ res) := by
  rw [s_X2_addSeen] at e
  refine ⟨zm_X2_addSeen, rfl, ?_⟩
  show zwp d zm_X2_addSeen 0 [some (zr ((a0, 2, 0) : zF)), some (zi a1), some (zi a2), some (zi a3)] [] h _
  refine zwp.go (m := 1) (j := 1) (ls' := [some (zr ((a0, 2, 0) : zF)), some (zi a1), some (zi a2), some (zi a3)]) (st' := [zr ((a0, 2, 0) : zF)]) (h' := h) rfl ?_
  refine zc_sr (r := (((a0 + 7), 20, 8) : zF)) (zrf (a := a0) (y := 1) hR rfl ha0.2.2.1) rfl ?_
  refine zwp.go (m := 3) (j := 5) (ls' := [some (zr ((a0, 2, 0) : zF)), some (zi a1), some (zi a2), some (zi a3)]) (st' := [zi a1, zi (zI h a0 7), zr (((a0 + 7), 20, 8) : zF)]) (h' := h) rfl ?_
  refine zc_si e (fun _ => rfl) hR (fun h1 hR1 e => ?_)
  refine zwp.go (m := 1) (j := 7) (ls' := [some (zr ((a0, 2, 0) : zF)), some (zi a1), some (zi a2), some (zi a3)]) (st' := [zr ((a0, 2, 0) : zF)]) (h' := h1) rfl ?_
  refine zc_sr (r := (((a0 + 8), 20, 8) : zF)) (zrf (a := a0) (y := 2) hR1 rfl ha0.2.2.2.1) rfl ?_
  refine zwp.go (m := 3) (j := 11) (ls' := [some (zr ((a0, 2, 0) : zF)), some (zi a1), some (zi a2), some (zi a3)]) (st' := [zi a2, zi (zI h1 a0 7), zr (((a0 + 8), 20, 8) : zF)]) (h' := h1) rfl ?_
  refine zc_si e (fun _ => rfl) hR1 (fun h2 hR2 e => ?_)
  refine zwp.go (m := 1) (j := 13) (ls' := [some (zr ((a0, 2, 0) : zF)), some (zi a1), some (zi a2), some (zi a3)]) (st' := [zr ((a0, 2, 0) : zF)]) (h' := h2) rfl ?_
  refine zc_sr (r := (((a0 + 9), 22, 8) : zF)) (zrf (a := a0) (y := 3) hR2 (zmu3 ha0.1) ha0.2.2.2.2.1) rfl ?_
  refine zwp.go (m := 3) (j := 17) (ls' := [some (zr ((a0, 2, 0) : zF)), some (zi a1), some (zi a2), some (zi a3)]) (st' := [zi a3, zi (zI h2 a0 7), zr (((a0 + 9), 22, 8) : zF)]) (h' := h2) rfl ?_
  refine zc_si e (fun _ => rfl) hR2 (fun h3 hR3 e => ?_)
  refine zwp.go (m := 5) (j := 23) (ls' := [some (zr ((a0, 2, 0) : zF)), some (zi a1), some (zi a2), some (zi a3)]) (st' := [zi ((zI h3 a0 7) + (1 : Int32)), zr ((a0, 2, 0) : zF)]) (h' := h3) rfl ?_
  refine zc_w e rfl hR3 (fun h4 hR4 e => ?_)
  cases e
  exact zwp.rv rfl ⟨⟨rfl, rfl⟩, hR4⟩
def s_X10_see_J13 (pp : Nat) (h : zH) : Option ((Int32 ⊕ Nat) × zH) := zbd (s_X10_refuse pp (2 : Int32) h) fun v2 h1 => some (Sum.inl v2, h1)
set_option maxRecDepth 100000 in
theorem s_X10_see_J13_ok (d : Nat) (ρ : Nat → Nat → Option zF) (hρ : zSh ρ) (pp : Nat) (hpp : ρ 0 3 = some (pp, 3, 0) ∧ zPlS ρ pp) (h : zH) (res : (Int32 ⊕ Nat) × zH) (hR : zRq h ρ) (e : s_X10_see_J13 pp  h = some res) : zwp (d + 1) zm_X10_see 13 [some (zr ((0, 10, 0) : zF)), none, none, none] [] h (zQx ρ res) := by
  rw [s_X10_see_J13] at e
  refine zwp.go (m := 2) (j := 15) (ls' := [some (zr ((0, 10, 0) : zF)), none, none, none]) (st' := [zi (2 : Int32), zr ((0, 10, 0) : zF)]) (h' := h) rfl ?_
  refine zc_ci (d := d + 0) e (fun q e => s_X10_refuse_ok (d + 0) ρ hρ pp (2 : Int32) hpp h q hR e) rfl rfl (fun v2 h1 hR1 e => ?_)
  cases e
  exact zwp.ret rfl rfl ⟨⟨rfl, rfl⟩, hR1⟩
def s_X10_see (pp : Nat) (a1 : Int32) (a2 : Int32) (a3 : Int32) (h : zH) : Option ((Int32 ⊕ Nat) × zH) := zbx (s_X10_needRib pp a1 h) (fun _ h2 => if (8 : Int32) ≤ (zI h2 18 7) then (s_X10_see_J13 pp h2) else (if a2 < 0 then (s_X10_see_J13 pp h2) else (if a2 ≤ (20 : Int32) then ((s_X2_addSeen 18 a1 a2 a3 h2).bind fun h3 => (s_X10_noteChange pp h3).bind fun h4 => some (Sum.inl (zI h4 18 7), h4)) else (s_X10_see_J13 pp h2)))) (fun x h1 => some (Sum.inr x, h1))
set_option maxRecDepth 100000 in
theorem s_X10_see_ok (d : Nat) (ρ : Nat → Nat → Option zF) (hρ : zSh ρ) (pp : Nat) (a1 : Int32) (a2 : Int32) (a3 : Int32) (hpp : ρ 0 3 = some (pp, 3, 0) ∧ zPlS ρ pp) (h : zH) (res : (Int32 ⊕ Nat) × zH) (hR : zRq h ρ) (e : s_X10_see pp a1 a2 a3 h = some res) : zcl (d + 1) 261 [zr ((0, 10, 0) : zF), zi a1, zi a2, zi a3] h (zQx ρ res) := by
  rw [s_X10_see] at e
  refine ⟨zm_X10_see, rfl, ?_⟩
  show zwp (d + 1) zm_X10_see 0 [some (zr ((0, 10, 0) : zF)), some (zi a1), some (zi a2), some (zi a3)] [] h _
  refine zwp.go (m := 2) (j := 2) (ls' := [some (zr ((0, 10, 0) : zF)), some (zi a1), some (zi a2), some (zi a3)]) (st' := [zi a1, zr ((0, 10, 0) : zF)]) (h' := h) rfl ?_
  refine zc_cu (d := d + 0) e (fun q e => s_X10_needRib_ok (d + 0) ρ hρ pp a1 hpp h q hR e) rfl rfl (fun h2 hR2 e => ?_) (fun x h1 hR1 e => ?_)
  · refine zwp.go (m := 1) (j := 4) (ls' := [some (zr ((0, 10, 0) : zF)), some (zi a1), some (zi a2), some (zi a3)]) (st' := [zr ((0, 10, 0) : zF)]) (h' := h2) rfl ?_
    refine zc_sr (r := ((18, 2, 0) : zF)) (zrf (a := 0) (y := 6) hR2 rfl (hρ 0 6 rfl)) rfl ?_
    refine zwp.go (m := 2) (j := 7) (ls' := [some (zr ((0, 10, 0) : zF)), some (zi a1), some (zi a2), some (zi a3)]) (st' := [zi (8 : Int32), zi (zI h2 18 7)]) (h' := h2) rfl ?_
    refine zb_if (j := 13) (j2 := 8) e rfl (fun e => ?_) (fun e => ?_)
    · refine zwp.fg (a := [some (zr ((0, 10, 0) : zF)), none, none, none]) (And.intro rfl trivial) ?_
      exact s_X10_see_J13_ok d ρ hρ pp hpp h2 _ hR2 e
    · refine zwp.go (m := 1) (j := 9) (ls' := [some (zr ((0, 10, 0) : zF)), some (zi a1), some (zi a2), some (zi a3)]) (st' := [zi a2]) (h' := h2) rfl ?_
      refine zb_if (j := 13) (j2 := 10) e rfl (fun e => ?_) (fun e => ?_)
      · refine zwp.fg (a := [some (zr ((0, 10, 0) : zF)), none, none, none]) (And.intro rfl trivial) ?_
        exact s_X10_see_J13_ok d ρ hρ pp hpp h2 _ hR2 e
      · refine zwp.go (m := 2) (j := 12) (ls' := [some (zr ((0, 10, 0) : zF)), some (zi a1), some (zi a2), some (zi a3)]) (st' := [zi (20 : Int32), zi a2]) (h' := h2) rfl ?_
        refine zb_if (j := 17) (j2 := 13) e rfl (fun e => ?_) (fun e => ?_)
        · refine zwp.go (m := 1) (j := 18) (ls' := [some (zr ((0, 10, 0) : zF)), some (zi a1), some (zi a2), some (zi a3)]) (st' := [zr ((0, 10, 0) : zF)]) (h' := h2) rfl ?_
          refine zc_sr (r := ((18, 2, 0) : zF)) (zrf (a := 0) (y := 6) hR2 rfl (hρ 0 6 rfl)) rfl ?_
          refine zwp.go (m := 3) (j := 22) (ls' := [some (zr ((0, 10, 0) : zF)), some (zi a1), some (zi a2), some (zi a3)]) (st' := [zi a3, zi a2, zi a1, zr ((18, 2, 0) : zF)]) (h' := h2) rfl ?_
          refine zc_cv (d := d + 0) e (fun q e => s_X2_addSeen_ok (d + 0) ρ hρ 18 a1 a2 a3 (zSh_ld18 hρ) h2 q hR2 e) rfl rfl (fun h3 hR3 e => ?_)
          refine zwp.go (m := 1) (j := 24) (ls' := [some (zr ((0, 10, 0) : zF)), some (zi a1), some (zi a2), some (zi a3)]) (st' := [zr ((0, 10, 0) : zF)]) (h' := h3) rfl ?_
          refine zc_cv (d := d + 0) e (fun q e => s_X10_noteChange_ok (d + 0) ρ hρ pp hpp h3 q hR3 e) rfl rfl (fun h4 hR4 e => ?_)
          refine zwp.go (m := 1) (j := 26) (ls' := [some (zr ((0, 10, 0) : zF)), some (zi a1), some (zi a2), some (zi a3)]) (st' := [zr ((0, 10, 0) : zF)]) (h' := h4) rfl ?_
          refine zc_sr (r := ((18, 2, 0) : zF)) (zrf (a := 0) (y := 6) hR4 rfl (hρ 0 6 rfl)) rfl ?_
          refine zwp.go (m := 1) (j := 28) (ls' := [some (zr ((0, 10, 0) : zF)), some (zi a1), some (zi a2), some (zi a3)]) (st' := [zi (zI h4 18 7)]) (h' := h4) rfl ?_
          cases e
          exact zwp.ret rfl rfl ⟨⟨rfl, rfl⟩, hR4⟩
        · refine zwp.fg (a := [some (zr ((0, 10, 0) : zF)), none, none, none]) (And.intro rfl trivial) ?_
          exact s_X10_see_J13_ok d ρ hρ pp hpp h2 _ hR2 e
  · cases e
    exact ⟨rfl, ⟨⟨rfl, rfl⟩, hR1⟩⟩
def s_L_see (pp : Nat) (a1 : Int32) (a2 : Int32) (a3 : Int32) (a4 n4 : Nat) (h : zH) : Option (Int32 × zH) := zbx (s_X10_see pp a1 a2 a3 h) (fun v3 h2 => zix (0 : Int32) n4 fun i5 => zlt (zwL h2 a4 i5 v3.toInt64) fun h4 => some ((0 : Int32), h4)) (fun x h1 => if x = 1 then (some ((1 : Int32), h1)) else none)
set_option maxRecDepth 100000 in
theorem s_L_see_ok (d : Nat) (ρ : Nat → Nat → Option zF) (hρ : zSh ρ) (pp : Nat) (a1 : Int32) (a2 : Int32) (a3 : Int32) (a4 n4 : Nat) (hpp : ρ 0 3 = some (pp, 3, 0) ∧ zPlS ρ pp) (h : zH) (res : Int32 × zH) (hR : zRq h ρ) (e : s_L_see pp a1 a2 a3 a4 n4 h = some res) : zcl (d + 2) 262 [zr ((0, 10, 0) : zF), zi a1, zi a2, zi a3, zr ((a4, 23, n4) : zF)] h (zQi ρ res) := by
  rw [s_L_see] at e
  refine ⟨zm_L_see, rfl, ?_⟩
  show zwp (d + 2) zm_L_see 0 [some (zr ((0, 10, 0) : zF)), some (zi a1), some (zi a2), some (zi a3), some (zr ((a4, 23, n4) : zF)), none] [] h _
  refine zwp.go (m := 6) (j := 6) (ls' := [some (zr ((0, 10, 0) : zF)), some (zi a1), some (zi a2), some (zi a3), some (zr ((a4, 23, n4) : zF)), none]) (st' := [zi a3, zi a2, zi a1, zr ((0, 10, 0) : zF), zi (0 : Int32), zr ((a4, 23, n4) : zF)]) (h' := h) rfl ?_
  refine zc_cx (d := d + 1) e (fun q e => s_X10_see_ok (d + 0) ρ hρ pp a1 a2 a3 hpp h q hR e) rfl rfl (fun v3 h2 hR2 e => ?_) (fun x h1 hR1 e => ?_)
  · refine zwp.go (m := 1) (j := 8) (ls' := [some (zr ((0, 10, 0) : zF)), some (zi a1), some (zi a2), some (zi a3), some (zr ((a4, 23, n4) : zF)), none]) (st' := [zl v3.toInt64, zi (0 : Int32), zr ((a4, 23, n4) : zF)]) (h' := h2) rfl ?_
    refine zc_sl e (fun _ => rfl) hR2 (fun h4 hR4 e => ?_)
    refine zwp.go (m := 2) (j := 14) (ls' := [some (zr ((0, 10, 0) : zF)), some (zi a1), some (zi a2), some (zi a3), some (zr ((a4, 23, n4) : zF)), none]) (st' := [zi (0 : Int32)]) (h' := h4) rfl ?_
    cases e
    exact zwp.ret rfl rfl ⟨⟨rfl, rfl⟩, hR4⟩
  · by_cases q1 : x = 1
    · subst q1
      replace e : (some ((1 : Int32), h1)) = some res := by simpa using e
      show zwp _ _ 11 [some (zr ((0, 10, 0) : zF)), some (zi a1), some (zi a2), some (zi a3), some (zr ((a4, 23, n4) : zF)), none] [] _ _
      refine zwp.go (m := 1) (j := 12) (ls' := [some (zr ((0, 10, 0) : zF)), some (zi a1), some (zi a2), some (zi a3), some (zr ((a4, 23, n4) : zF)), none]) (st' := [zi (1 : Int32)]) (h' := h1) rfl ?_
      cases e
      exact zwp.ret rfl rfl ⟨⟨rfl, rfl⟩, hR1⟩
    · skip
      simp [q1] at e
def s_X11_see_J21 (h : zH) : Option (Int32 × zH) := zbd (s_X11_refuse (2 : Int32) h) fun v2 h1 => some (v2, h1)
set_option maxRecDepth 100000 in
theorem s_X11_see_J21_ok (d : Nat) (ρ : Nat → Nat → Option zF) (hρ : zSh ρ) (h : zH) (res : Int32 × zH) (hR : zRq h ρ) (e : s_X11_see_J21   h = some res) : zwp (d + 2) zm_X11_see 21 [some (zr ((52, 11, 0) : zF)), none, none, none] [] h (zQi ρ res) := by
  rw [s_X11_see_J21] at e
  refine zwp.go (m := 2) (j := 23) (ls' := [some (zr ((52, 11, 0) : zF)), none, none, none]) (st' := [zi (2 : Int32), zr ((52, 11, 0) : zF)]) (h' := h) rfl ?_
  refine zc_ci (d := d + 1) e (fun q e => s_X11_refuse_ok (d + 1) ρ hρ (2 : Int32) h q hR e) rfl rfl (fun v2 h1 hR1 e => ?_)
  cases e
  exact zwp.ret rfl rfl ⟨⟨rfl, rfl⟩, hR1⟩
def s_X11_see (a1 : Int32) (a2 : Int32) (a3 : Int32) (h : zH) : Option (Int32 × zH) := zlt (zwI h 52 4 (0 : Int32)) fun h1 => (s_X11_isRib a1 h1).bind fun v2 => if ¬ v2 = 0 then (if (zI h1 52 36) = (8 : Int32) then (s_X11_see_J21 h1) else ((s_X11_isIn a2.toInt64 (0 : Int64) (20 : Int64) h1).bind fun v3 => if ¬ v3 = 0 then (zix (zI h1 52 36) 8 fun i10 => zlt (zwI h1 76 i10 a1) fun h4 => zix (zI h4 52 36) 8 fun i9 => zlt (zwI h4 77 i9 a2) fun h5 => zix (zI h5 52 36) 8 fun i8 => zlt (zwI h5 79 i8 (a3 &&& 1)) fun h6 => zlt (zwI h6 52 36 ((zI h6 52 36) + (1 : Int32))) fun h7 => some ((zI h7 52 36), h7)) else (s_X11_see_J21 h1))) else (zbd (s_X11_fail (1 : Int32) h1) fun v12 h11 => some (v12, h11))
set_option maxRecDepth 100000 in
theorem s_X11_see_ok (d : Nat) (ρ : Nat → Nat → Option zF) (hρ : zSh ρ) (a1 : Int32) (a2 : Int32) (a3 : Int32) (h : zH) (res : Int32 × zH) (hR : zRq h ρ) (e : s_X11_see a1 a2 a3 h = some res) : zcl (d + 2) 263 [zr ((52, 11, 0) : zF), zi a1, zi a2, zi a3] h (zQi ρ res) := by
  rw [s_X11_see] at e
  refine ⟨zm_X11_see, rfl, ?_⟩
  show zwp (d + 2) zm_X11_see 0 [some (zr ((52, 11, 0) : zF)), some (zi a1), some (zi a2), some (zi a3)] [] h _
  refine zwp.go (m := 2) (j := 2) (ls' := [some (zr ((52, 11, 0) : zF)), some (zi a1), some (zi a2), some (zi a3)]) (st' := [zi (0 : Int32), zr ((52, 11, 0) : zF)]) (h' := h) rfl ?_
  refine zc_w e rfl hR (fun h1 hR1 e => ?_)
  refine zwp.go (m := 2) (j := 5) (ls' := [some (zr ((52, 11, 0) : zF)), some (zi a1), some (zi a2), some (zi a3)]) (st' := [zi a1, zr ((52, 11, 0) : zF)]) (h' := h1) rfl ?_
  refine zc_cp (d := d + 1) e (fun q e => s_X11_isRib_ok (d + 0) ρ hρ a1 h1 q hR1 e) rfl rfl (fun v2 e => ?_)
  refine zb_if (j := 11) (j2 := 7) e rfl (fun e => ?_) (fun e => ?_)
  · refine zwp.go (m := 3) (j := 14) (ls' := [some (zr ((52, 11, 0) : zF)), some (zi a1), some (zi a2), some (zi a3)]) (st' := [zi (8 : Int32), zi (zI h1 52 36)]) (h' := h1) rfl ?_
    refine zb_if (j := 21) (j2 := 15) e rfl (fun e => ?_) (fun e => ?_)
    · refine zwp.fg (a := [some (zr ((52, 11, 0) : zF)), none, none, none]) (And.intro rfl trivial) ?_
      exact s_X11_see_J21_ok d ρ hρ h1 _ hR1 e
    · refine zwp.go (m := 4) (j := 19) (ls' := [some (zr ((52, 11, 0) : zF)), some (zi a1), some (zi a2), some (zi a3)]) (st' := [zl (20 : Int64), zl (0 : Int64), zl a2.toInt64]) (h' := h1) rfl ?_
      refine zc_cp (d := d + 1) e (fun q e => s_X11_isIn_ok (d + 1) ρ hρ a2.toInt64 (0 : Int64) (20 : Int64) h1 q hR1 e) rfl rfl (fun v3 e => ?_)
      refine zb_if (j := 25) (j2 := 21) e rfl (fun e => ?_) (fun e => ?_)
      · refine zwp.go (m := 1) (j := 26) (ls' := [some (zr ((52, 11, 0) : zF)), some (zi a1), some (zi a2), some (zi a3)]) (st' := [zr ((52, 11, 0) : zF)]) (h' := h1) rfl ?_
        refine zc_sr (r := ((76, 20, 8) : zF)) (zrf (a := 52) (y := 48) hR1 rfl (hρ 52 48 rfl)) rfl ?_
        refine zwp.go (m := 3) (j := 30) (ls' := [some (zr ((52, 11, 0) : zF)), some (zi a1), some (zi a2), some (zi a3)]) (st' := [zi a1, zi (zI h1 52 36), zr ((76, 20, 8) : zF)]) (h' := h1) rfl ?_
        refine zc_si e (fun _ => rfl) hR1 (fun h4 hR4 e => ?_)
        refine zwp.go (m := 1) (j := 32) (ls' := [some (zr ((52, 11, 0) : zF)), some (zi a1), some (zi a2), some (zi a3)]) (st' := [zr ((52, 11, 0) : zF)]) (h' := h4) rfl ?_
        refine zc_sr (r := ((77, 20, 8) : zF)) (zrf (a := 52) (y := 49) hR4 rfl (hρ 52 49 rfl)) rfl ?_
        refine zwp.go (m := 3) (j := 36) (ls' := [some (zr ((52, 11, 0) : zF)), some (zi a1), some (zi a2), some (zi a3)]) (st' := [zi a2, zi (zI h4 52 36), zr ((77, 20, 8) : zF)]) (h' := h4) rfl ?_
        refine zc_si e (fun _ => rfl) hR4 (fun h5 hR5 e => ?_)
        refine zwp.go (m := 1) (j := 38) (ls' := [some (zr ((52, 11, 0) : zF)), some (zi a1), some (zi a2), some (zi a3)]) (st' := [zr ((52, 11, 0) : zF)]) (h' := h5) rfl ?_
        refine zc_sr (r := ((79, 22, 8) : zF)) (zrf (a := 52) (y := 51) hR5 rfl (hρ 52 51 rfl)) rfl ?_
        refine zwp.go (m := 3) (j := 42) (ls' := [some (zr ((52, 11, 0) : zF)), some (zi a1), some (zi a2), some (zi a3)]) (st' := [zi a3, zi (zI h5 52 36), zr ((79, 22, 8) : zF)]) (h' := h5) rfl ?_
        refine zc_si e (fun _ => rfl) hR5 (fun h6 hR6 e => ?_)
        refine zwp.go (m := 5) (j := 48) (ls' := [some (zr ((52, 11, 0) : zF)), some (zi a1), some (zi a2), some (zi a3)]) (st' := [zi ((zI h6 52 36) + (1 : Int32)), zr ((52, 11, 0) : zF)]) (h' := h6) rfl ?_
        refine zc_w e rfl hR6 (fun h7 hR7 e => ?_)
        refine zwp.go (m := 2) (j := 51) (ls' := [some (zr ((52, 11, 0) : zF)), some (zi a1), some (zi a2), some (zi a3)]) (st' := [zi (zI h7 52 36)]) (h' := h7) rfl ?_
        cases e
        exact zwp.ret rfl rfl ⟨⟨rfl, rfl⟩, hR7⟩
      · refine zwp.fg (a := [some (zr ((52, 11, 0) : zF)), none, none, none]) (And.intro rfl trivial) ?_
        exact s_X11_see_J21_ok d ρ hρ h1 _ hR1 e
  · refine zwp.go (m := 2) (j := 9) (ls' := [some (zr ((52, 11, 0) : zF)), some (zi a1), some (zi a2), some (zi a3)]) (st' := [zi (1 : Int32), zr ((52, 11, 0) : zF)]) (h' := h1) rfl ?_
    refine zc_ci (d := d + 1) e (fun q e => s_X11_fail_ok (d + 1) ρ hρ (1 : Int32) h1 q hR1 e) rfl rfl (fun v12 h11 hR11 e => ?_)
    cases e
    exact zwp.ret rfl rfl ⟨⟨rfl, rfl⟩, hR11⟩
def s_X6_lastSeenDay_L4 (a1 : Nat) : Nat → Int32 → Int32 → zH → Option (Int32)
  | 0, _, _, _ => none
  | n + 1, l2, l3, h => if (zI h a1 7) ≤ l3 then (some l2) else (zix l3 8 fun i1 => (s_J9_max_7cf53 l2 (zI h (a1 + 8) i1) h).bind fun v2 => s_X6_lastSeenDay_L4 a1 n v2 (l3 + (1 : Int32)) h)
set_option maxRecDepth 100000 in
theorem s_X6_lastSeenDay_L4_ok (d : Nat) (ρ : Nat → Nat → Option zF) (hρ : zSh ρ) (a1 : Nat) (ha1 : zLdS ρ a1) : ∀ (n : Nat) (l2 : Int32) (l3 : Int32) (h : zH) (res : Int32) (hR : zRq h ρ) (e : s_X6_lastSeenDay_L4 a1 n l2 l3 h = some res), zwp (d + 1) zm_X6_lastSeenDay 4 [none, some (zr ((a1, 2, 0) : zF)), some (zi l2), some (zi l3)] [] h (zQp h res) := by
  intro n
  induction n with
  | zero => intro l2 l3 h res hR e; cases e
  | succ n ih =>
    intro l2 l3 h res hR e
    rw [s_X6_lastSeenDay_L4] at e
    refine zwp.go (m := 3) (j := 7) (ls' := [none, some (zr ((a1, 2, 0) : zF)), some (zi l2), some (zi l3)]) (st' := [zi (zI h a1 7), zi l3]) (h' := h) rfl ?_
    refine zb_if (j := 17) (j2 := 8) e rfl (fun e => ?_) (fun e => ?_)
    · refine zwp.go (m := 1) (j := 18) (ls' := [none, some (zr ((a1, 2, 0) : zF)), some (zi l2), some (zi l3)]) (st' := [zi l2]) (h' := h) rfl ?_
      cases e
      exact zwp.ret rfl rfl ⟨rfl, rfl⟩
    · refine zwp.go (m := 2) (j := 10) (ls' := [none, some (zr ((a1, 2, 0) : zF)), some (zi l2), some (zi l3)]) (st' := [zr ((a1, 2, 0) : zF), zi l2]) (h' := h) rfl ?_
      refine zc_sr (r := (((a1 + 8), 20, 8) : zF)) (zrf (a := a1) (y := 2) hR rfl ha1.2.2.2.1) rfl ?_
      refine zwp.go (m := 1) (j := 12) (ls' := [none, some (zr ((a1, 2, 0) : zF)), some (zi l2), some (zi l3)]) (st' := [zi l3, zr (((a1 + 8), 20, 8) : zF), zi l2]) (h' := h) rfl ?_
      refine zc_ai e (fun _ => rfl) (fun i1 e => ?_)
      refine zc_cp (d := d + 0) e (fun q e => s_J9_max_7cf53_ok (d + 0) ρ hρ l2 (zI h (a1 + 8) i1) h q hR e) rfl rfl (fun v2 e => ?_)
      refine zwp.go (m := 3) (j := 4) (ls' := [none, some (zr ((a1, 2, 0) : zF)), some (zi v2), some (zi (l3 + (1 : Int32)))]) (st' := []) (h' := h) rfl ?_
      exact ih v2 (l3 + (1 : Int32)) h _ hR e
def s_X6_lastSeenDay (a1 : Nat) (h : zH) : Option (Int32) := s_X6_lastSeenDay_L4 a1 zfu (0 : Int32) (0 : Int32) h
set_option maxRecDepth 100000 in
theorem s_X6_lastSeenDay_ok (d : Nat) (ρ : Nat → Nat → Option zF) (hρ : zSh ρ) (a1 : Nat) (ha1 : zLdS ρ a1) (h : zH) (res : Int32) (hR : zRq h ρ) (e : s_X6_lastSeenDay a1 h = some res) : zcl (d + 1) 264 [zr ((47, 6, 0) : zF), zr ((a1, 2, 0) : zF)] h (zQp h res) := by
  rw [s_X6_lastSeenDay] at e
  refine ⟨zm_X6_lastSeenDay, rfl, ?_⟩
  show zwp (d + 1) zm_X6_lastSeenDay 0 [some (zr ((47, 6, 0) : zF)), some (zr ((a1, 2, 0) : zF)), none, none] [] h _
  refine zwp.go (m := 4) (j := 4) (ls' := [some (zr ((47, 6, 0) : zF)), some (zr ((a1, 2, 0) : zF)), some (zi (0 : Int32)), some (zi (0 : Int32))]) (st' := []) (h' := h) rfl ?_
  refine zwp.fg (a := [none, some (zr ((a1, 2, 0) : zF)), some (zi (0 : Int32)), some (zi (0 : Int32))]) (And.intro rfl (And.intro rfl (And.intro rfl trivial))) ?_
  exact s_X6_lastSeenDay_L4_ok d ρ hρ a1 ha1 zfu (0 : Int32) (0 : Int32) h _ hR e
def s_X6_isAsSeen_J22 (a1 : Nat) (k2 : (Int32 → Int32 → zH → Option (Int32))) (l2 : Int32) (l3 : Int32) (s0 : Int32) (h : zH) : Option (Int32) := zix l3 8 fun i1 => if ¬ (zI h (a1 + 8) i1) = l2 then (k2 l2 (l3 + (1 : Int32)) h) else (zix l3 8 fun i2 => if (zI h (a1 + 9) i2) = s0 then (k2 l2 (l3 + (1 : Int32)) h) else (some (0 : Int32)))
set_option maxRecDepth 100000 in
theorem s_X6_isAsSeen_J22_ok (d : Nat) (ρ : Nat → Nat → Option zF) (hρ : zSh ρ) (a1 : Nat) (ha1 : zLdS ρ a1) (k2 : (Int32 → Int32 → zH → Option (Int32))) (hk2 : ∀ l2 l3 h res, zRq h ρ → k2 l2 l3 h = some res → zwp d zm_X6_isAsSeen 2 [some (zr ((47, 6, 0) : zF)), some (zr ((a1, 2, 0) : zF)), some (zi l2), some (zi l3), none] [] h (zQp h res)) (l2 : Int32) (l3 : Int32) (s0 : Int32) (h : zH) (res : Int32) (hR : zRq h ρ) (e : s_X6_isAsSeen_J22 a1 k2 l2 l3 s0 h = some res) : zwp d zm_X6_isAsSeen 22 [some (zr ((47, 6, 0) : zF)), some (zr ((a1, 2, 0) : zF)), some (zi l2), some (zi l3), none] [zi s0] h (zQp h res) := by
  rw [s_X6_isAsSeen_J22] at e
  refine zwp.go (m := 2) (j := 24) (ls' := [some (zr ((47, 6, 0) : zF)), some (zr ((a1, 2, 0) : zF)), some (zi l2), some (zi l3), some (zi s0)]) (st' := [zr ((a1, 2, 0) : zF)]) (h' := h) rfl ?_
  refine zc_sr (r := (((a1 + 8), 20, 8) : zF)) (zrf (a := a1) (y := 2) hR rfl ha1.2.2.2.1) rfl ?_
  refine zwp.go (m := 1) (j := 26) (ls' := [some (zr ((47, 6, 0) : zF)), some (zr ((a1, 2, 0) : zF)), some (zi l2), some (zi l3), some (zi s0)]) (st' := [zi l3, zr (((a1 + 8), 20, 8) : zF)]) (h' := h) rfl ?_
  refine zc_ai e (fun _ => rfl) (fun i1 e => ?_)
  refine zwp.go (m := 1) (j := 28) (ls' := [some (zr ((47, 6, 0) : zF)), some (zr ((a1, 2, 0) : zF)), some (zi l2), some (zi l3), some (zi s0)]) (st' := [zi l2, zi (zI h (a1 + 8) i1)]) (h' := h) rfl ?_
  refine zb_if (j := 37) (j2 := 29) e rfl (fun e => ?_) (fun e => ?_)
  · refine zwp.go (m := 2) (j := 2) (ls' := [some (zr ((47, 6, 0) : zF)), some (zr ((a1, 2, 0) : zF)), some (zi l2), some (zi (l3 + (1 : Int32))), some (zi s0)]) (st' := []) (h' := h) rfl ?_
    refine zwp.fg (a := [some (zr ((47, 6, 0) : zF)), some (zr ((a1, 2, 0) : zF)), some (zi l2), some (zi (l3 + (1 : Int32))), none]) (And.intro rfl (And.intro rfl (And.intro rfl (And.intro rfl trivial)))) ?_
    exact hk2 l2 (l3 + (1 : Int32)) h _ hR e
  · refine zwp.go (m := 1) (j := 30) (ls' := [some (zr ((47, 6, 0) : zF)), some (zr ((a1, 2, 0) : zF)), some (zi l2), some (zi l3), some (zi s0)]) (st' := [zr ((a1, 2, 0) : zF)]) (h' := h) rfl ?_
    refine zc_sr (r := (((a1 + 9), 22, 8) : zF)) (zrf (a := a1) (y := 3) hR (zmu3 ha1.1) ha1.2.2.2.2.1) rfl ?_
    refine zwp.go (m := 1) (j := 32) (ls' := [some (zr ((47, 6, 0) : zF)), some (zr ((a1, 2, 0) : zF)), some (zi l2), some (zi l3), some (zi s0)]) (st' := [zi l3, zr (((a1 + 9), 22, 8) : zF)]) (h' := h) rfl ?_
    refine zc_ai e (fun _ => rfl) (fun i2 e => ?_)
    refine zwp.go (m := 1) (j := 34) (ls' := [some (zr ((47, 6, 0) : zF)), some (zr ((a1, 2, 0) : zF)), some (zi l2), some (zi l3), some (zi s0)]) (st' := [zi s0, zi (zI h (a1 + 9) i2)]) (h' := h) rfl ?_
    refine zb_if (j := 37) (j2 := 35) e rfl (fun e => ?_) (fun e => ?_)
    · refine zwp.go (m := 2) (j := 2) (ls' := [some (zr ((47, 6, 0) : zF)), some (zr ((a1, 2, 0) : zF)), some (zi l2), some (zi (l3 + (1 : Int32))), some (zi s0)]) (st' := []) (h' := h) rfl ?_
      refine zwp.fg (a := [some (zr ((47, 6, 0) : zF)), some (zr ((a1, 2, 0) : zF)), some (zi l2), some (zi (l3 + (1 : Int32))), none]) (And.intro rfl (And.intro rfl (And.intro rfl (And.intro rfl trivial)))) ?_
      exact hk2 l2 (l3 + (1 : Int32)) h _ hR e
    · refine zwp.go (m := 1) (j := 36) (ls' := [some (zr ((47, 6, 0) : zF)), some (zr ((a1, 2, 0) : zF)), some (zi l2), some (zi l3), some (zi s0)]) (st' := [zi (0 : Int32)]) (h' := h) rfl ?_
      cases e
      exact zwp.ret rfl rfl ⟨rfl, rfl⟩
def s_X6_isAsSeen_L2 (a1 : Nat) : Nat → Int32 → Int32 → zH → Option (Int32)
  | 0, _, _, _ => none
  | n + 1, l2, l3, h => if (zI h a1 7) ≤ l3 then (some (1 : Int32)) else (zix l2 21 fun i1 => zix l3 8 fun i2 => if ¬ (((zI h 48 i1) >>> ((zI h (a1 + 7) i2) &&& 31)) &&& (1 : Int32)) = (1 : Int32) then (s_X6_isAsSeen_J22 a1 (s_X6_isAsSeen_L2 a1 n) l2 l3 (0 : Int32) h) else (s_X6_isAsSeen_J22 a1 (s_X6_isAsSeen_L2 a1 n) l2 l3 (1 : Int32) h))
set_option maxRecDepth 100000 in
theorem s_X6_isAsSeen_L2_ok (d : Nat) (ρ : Nat → Nat → Option zF) (hρ : zSh ρ) (a1 : Nat) (ha1 : zLdS ρ a1) : ∀ (n : Nat) (l2 : Int32) (l3 : Int32) (h : zH) (res : Int32) (hR : zRq h ρ) (e : s_X6_isAsSeen_L2 a1 n l2 l3 h = some res), zwp d zm_X6_isAsSeen 2 [some (zr ((47, 6, 0) : zF)), some (zr ((a1, 2, 0) : zF)), some (zi l2), some (zi l3), none] [] h (zQp h res) := by
  intro n
  induction n with
  | zero => intro l2 l3 h res hR e; cases e
  | succ n ih =>
    intro l2 l3 h res hR e
    rw [s_X6_isAsSeen_L2] at e
    refine zwp.go (m := 3) (j := 5) (ls' := [some (zr ((47, 6, 0) : zF)), some (zr ((a1, 2, 0) : zF)), some (zi l2), some (zi l3), none]) (st' := [zi (zI h a1 7), zi l3]) (h' := h) rfl ?_
    refine zb_if (j := 39) (j2 := 6) e rfl (fun e => ?_) (fun e => ?_)
    · refine zwp.go (m := 1) (j := 40) (ls' := [some (zr ((47, 6, 0) : zF)), some (zr ((a1, 2, 0) : zF)), some (zi l2), some (zi l3), none]) (st' := [zi (1 : Int32)]) (h' := h) rfl ?_
      cases e
      exact zwp.ret rfl rfl ⟨rfl, rfl⟩
    · refine zwp.go (m := 1) (j := 7) (ls' := [some (zr ((47, 6, 0) : zF)), some (zr ((a1, 2, 0) : zF)), some (zi l2), some (zi l3), none]) (st' := [zr ((47, 6, 0) : zF)]) (h' := h) rfl ?_
      refine zc_sr (r := ((48, 20, 21) : zF)) (zrf (a := 47) (y := 2) hR rfl (hρ 47 2 rfl)) rfl ?_
      refine zwp.go (m := 1) (j := 9) (ls' := [some (zr ((47, 6, 0) : zF)), some (zr ((a1, 2, 0) : zF)), some (zi l2), some (zi l3), none]) (st' := [zi l2, zr ((48, 20, 21) : zF)]) (h' := h) rfl ?_
      refine zc_ai e (fun _ => rfl) (fun i1 e => ?_)
      refine zwp.go (m := 1) (j := 11) (ls' := [some (zr ((47, 6, 0) : zF)), some (zr ((a1, 2, 0) : zF)), some (zi l2), some (zi l3), none]) (st' := [zr ((a1, 2, 0) : zF), zi (zI h 48 i1)]) (h' := h) rfl ?_
      refine zc_sr (r := (((a1 + 7), 20, 8) : zF)) (zrf (a := a1) (y := 1) hR rfl ha1.2.2.1) rfl ?_
      refine zwp.go (m := 1) (j := 13) (ls' := [some (zr ((47, 6, 0) : zF)), some (zr ((a1, 2, 0) : zF)), some (zi l2), some (zi l3), none]) (st' := [zi l3, zr (((a1 + 7), 20, 8) : zF), zi (zI h 48 i1)]) (h' := h) rfl ?_
      refine zc_ai e (fun _ => rfl) (fun i2 e => ?_)
      refine zwp.go (m := 4) (j := 18) (ls' := [some (zr ((47, 6, 0) : zF)), some (zr ((a1, 2, 0) : zF)), some (zi l2), some (zi l3), none]) (st' := [zi (1 : Int32), zi (((zI h 48 i1) >>> ((zI h (a1 + 7) i2) &&& 31)) &&& (1 : Int32))]) (h' := h) rfl ?_
      refine zb_if (j := 21) (j2 := 19) e rfl (fun e => ?_) (fun e => ?_)
      · refine zwp.go (m := 1) (j := 22) (ls' := [some (zr ((47, 6, 0) : zF)), some (zr ((a1, 2, 0) : zF)), some (zi l2), some (zi l3), none]) (st' := [zi (0 : Int32)]) (h' := h) rfl ?_
        exact s_X6_isAsSeen_J22_ok d ρ hρ a1 ha1 (s_X6_isAsSeen_L2 a1 n) ih l2 l3 (0 : Int32) h _ hR e
      · refine zwp.go (m := 2) (j := 22) (ls' := [some (zr ((47, 6, 0) : zF)), some (zr ((a1, 2, 0) : zF)), some (zi l2), some (zi l3), none]) (st' := [zi (1 : Int32)]) (h' := h) rfl ?_
        exact s_X6_isAsSeen_J22_ok d ρ hρ a1 ha1 (s_X6_isAsSeen_L2 a1 n) ih l2 l3 (1 : Int32) h _ hR e
def s_X6_isAsSeen (a1 : Nat) (a2 : Int32) (h : zH) : Option (Int32) := s_X6_isAsSeen_L2 a1 zfu a2 (0 : Int32) h
set_option maxRecDepth 100000 in
theorem s_X6_isAsSeen_ok (d : Nat) (ρ : Nat → Nat → Option zF) (hρ : zSh ρ) (a1 : Nat) (a2 : Int32) (ha1 : zLdS ρ a1) (h : zH) (res : Int32) (hR : zRq h ρ) (e : s_X6_isAsSeen a1 a2 h = some res) : zcl d 265 [zr ((47, 6, 0) : zF), zr ((a1, 2, 0) : zF), zi a2] h (zQp h res) := by
  rw [s_X6_isAsSeen] at e
  refine ⟨zm_X6_isAsSeen, rfl, ?_⟩
  show zwp d zm_X6_isAsSeen 0 [some (zr ((47, 6, 0) : zF)), some (zr ((a1, 2, 0) : zF)), some (zi a2), none, none] [] h _
  refine zwp.go (m := 2) (j := 2) (ls' := [some (zr ((47, 6, 0) : zF)), some (zr ((a1, 2, 0) : zF)), some (zi a2), some (zi (0 : Int32)), none]) (st' := []) (h' := h) rfl ?_
  exact s_X6_isAsSeen_L2_ok d ρ hρ a1 ha1 zfu a2 (0 : Int32) h _ hR e
def s_X6_fits_L33 (a1 : Nat) (a2 : Nat) : Nat → Int32 → Int32 → Int32 → zH → Option (Int32 × zH)
  | 0, _, _, _, _ => none
  | n + 1, l5, l6, l7, h => if l6 = 0 then (zrt 1 l6 h) else (if l5 < l7 then (zrt 1 l6 h) else (if (20 : Int32) < l7 then (zrt 1 l6 h) else (zbd (s_X9_pass a1 30 h) fun v2 h1 => (s_X8_goneBits 30 (zI h1 a1 6) h1).bind fun v3 => zix l7 21 fun i6 => zlt (zwI h1 48 i6 v3) fun h4 => (s_X6_isAsSeen a2 l7 h4).bind fun v5 => s_X6_fits_L33 a1 a2 n l5 v5 (l7 + (1 : Int32)) h4)))
set_option maxRecDepth 100000 in
theorem s_X6_fits_L33_ok (d : Nat) (ρ : Nat → Nat → Option zF) (hρ : zSh ρ) (a1 : Nat) (a2 : Nat) (ha1 : zPlS ρ a1) (ha2 : zLdS ρ a2) : ∀ (n : Nat) (l5 : Int32) (l6 : Int32) (l7 : Int32) (h : zH) (res : Int32 × zH) (hR : zRq h ρ) (e : s_X6_fits_L33 a1 a2 n l5 l6 l7 h = some res), zwp (d + 5) zm_X6_fits 33 [some (zr ((47, 6, 0) : zF)), some (zr ((a1, 3, 0) : zF)), some (zr ((a2, 2, 0) : zF)), none, none, some (zi l5), some (zi l6), some (zi l7)] [] h (zQi ρ res) := by
  intro n
  induction n with
  | zero => intro l5 l6 l7 h res hR e; cases e
  | succ n ih =>
    intro l5 l6 l7 h res hR e
    rw [s_X6_fits_L33] at e
    refine zwp.go (m := 1) (j := 34) (ls' := [some (zr ((47, 6, 0) : zF)), some (zr ((a1, 3, 0) : zF)), some (zr ((a2, 2, 0) : zF)), none, none, some (zi l5), some (zi l6), some (zi l7)]) (st' := [zi l6]) (h' := h) rfl ?_
    refine zb_if (j := 64) (j2 := 35) e rfl (fun e => ?_) (fun e => ?_)
    · refine zwp.go (m := 1) (j := 65) (ls' := [some (zr ((47, 6, 0) : zF)), some (zr ((a1, 3, 0) : zF)), some (zr ((a2, 2, 0) : zF)), none, none, some (zi l5), some (zi l6), some (zi l7)]) (st' := [zi l6]) (h' := h) rfl ?_
      exact zc_rt e rfl hR
    · refine zwp.go (m := 2) (j := 37) (ls' := [some (zr ((47, 6, 0) : zF)), some (zr ((a1, 3, 0) : zF)), some (zr ((a2, 2, 0) : zF)), none, none, some (zi l5), some (zi l6), some (zi l7)]) (st' := [zi l5, zi l7]) (h' := h) rfl ?_
      refine zb_if (j := 64) (j2 := 38) e rfl (fun e => ?_) (fun e => ?_)
      · refine zwp.go (m := 1) (j := 65) (ls' := [some (zr ((47, 6, 0) : zF)), some (zr ((a1, 3, 0) : zF)), some (zr ((a2, 2, 0) : zF)), none, none, some (zi l5), some (zi l6), some (zi l7)]) (st' := [zi l6]) (h' := h) rfl ?_
        exact zc_rt e rfl hR
      · refine zwp.go (m := 2) (j := 40) (ls' := [some (zr ((47, 6, 0) : zF)), some (zr ((a1, 3, 0) : zF)), some (zr ((a2, 2, 0) : zF)), none, none, some (zi l5), some (zi l6), some (zi l7)]) (st' := [zi (20 : Int32), zi l7]) (h' := h) rfl ?_
        refine zb_if (j := 64) (j2 := 41) e rfl (fun e => ?_) (fun e => ?_)
        · refine zwp.go (m := 1) (j := 65) (ls' := [some (zr ((47, 6, 0) : zF)), some (zr ((a1, 3, 0) : zF)), some (zr ((a2, 2, 0) : zF)), none, none, some (zi l5), some (zi l6), some (zi l7)]) (st' := [zi l6]) (h' := h) rfl ?_
          exact zc_rt e rfl hR
        · refine zwp.go (m := 1) (j := 42) (ls' := [some (zr ((47, 6, 0) : zF)), some (zr ((a1, 3, 0) : zF)), some (zr ((a2, 2, 0) : zF)), none, none, some (zi l5), some (zi l6), some (zi l7)]) (st' := [zr ((47, 6, 0) : zF)]) (h' := h) rfl ?_
          refine zc_sr (r := ((36, 9, 0) : zF)) (zrf (a := 47) (y := 0) hR rfl (hρ 47 0 rfl)) rfl ?_
          refine zwp.go (m := 2) (j := 45) (ls' := [some (zr ((47, 6, 0) : zF)), some (zr ((a1, 3, 0) : zF)), some (zr ((a2, 2, 0) : zF)), none, none, some (zi l5), some (zi l6), some (zi l7)]) (st' := [zr ((47, 6, 0) : zF), zr ((a1, 3, 0) : zF), zr ((36, 9, 0) : zF)]) (h' := h) rfl ?_
          refine zc_sr (r := ((30, 8, 0) : zF)) (zrf (a := 47) (y := 1) hR rfl (hρ 47 1 rfl)) rfl ?_
          refine zc_ci (d := d + 4) e (fun q e => s_X9_pass_ok (d + 0) ρ hρ a1 30 ha1 (zSh_st30 hρ) h q hR e) rfl rfl (fun v2 h1 hR1 e => ?_)
          refine zwp.go (m := 2) (j := 49) (ls' := [some (zr ((47, 6, 0) : zF)), some (zr ((a1, 3, 0) : zF)), some (zr ((a2, 2, 0) : zF)), none, none, some (zi l5), some (zi l6), some (zi l7)]) (st' := [zr ((47, 6, 0) : zF)]) (h' := h1) rfl ?_
          refine zc_sr (r := ((48, 20, 21) : zF)) (zrf (a := 47) (y := 2) hR1 rfl (hρ 47 2 rfl)) rfl ?_
          refine zwp.go (m := 2) (j := 52) (ls' := [some (zr ((47, 6, 0) : zF)), some (zr ((a1, 3, 0) : zF)), some (zr ((a2, 2, 0) : zF)), none, none, some (zi l5), some (zi l6), some (zi l7)]) (st' := [zr ((47, 6, 0) : zF), zi l7, zr ((48, 20, 21) : zF)]) (h' := h1) rfl ?_
          refine zc_sr (r := ((30, 8, 0) : zF)) (zrf (a := 47) (y := 1) hR1 rfl (hρ 47 1 rfl)) rfl ?_
          refine zwp.go (m := 2) (j := 55) (ls' := [some (zr ((47, 6, 0) : zF)), some (zr ((a1, 3, 0) : zF)), some (zr ((a2, 2, 0) : zF)), none, none, some (zi l5), some (zi l6), some (zi l7)]) (st' := [zi (zI h1 a1 6), zr ((30, 8, 0) : zF), zi l7, zr ((48, 20, 21) : zF)]) (h' := h1) rfl ?_
          refine zc_cp (d := d + 4) e (fun q e => s_X8_goneBits_ok (d + 3) ρ hρ 30 (zI h1 a1 6) (zSh_st30 hρ) h1 q hR1 e) rfl rfl (fun v3 e => ?_)
          refine zc_si e (fun _ => rfl) hR1 (fun h4 hR4 e => ?_)
          refine zwp.go (m := 3) (j := 60) (ls' := [some (zr ((47, 6, 0) : zF)), some (zr ((a1, 3, 0) : zF)), some (zr ((a2, 2, 0) : zF)), none, none, some (zi l5), some (zi l6), some (zi l7)]) (st' := [zi l7, zr ((a2, 2, 0) : zF), zr ((47, 6, 0) : zF)]) (h' := h4) rfl ?_
          refine zc_cp (d := d + 4) e (fun q e => s_X6_isAsSeen_ok (d + 4) ρ hρ a2 l7 ha2 h4 q hR4 e) rfl rfl (fun v5 e => ?_)
          refine zwp.go (m := 3) (j := 33) (ls' := [some (zr ((47, 6, 0) : zF)), some (zr ((a1, 3, 0) : zF)), some (zr ((a2, 2, 0) : zF)), none, none, some (zi l5), some (zi v5), some (zi (l7 + (1 : Int32)))]) (st' := []) (h' := h4) rfl ?_
          exact ih l5 v5 (l7 + (1 : Int32)) h4 _ hR4 e
def s_X6_fits_J17 (a1 : Nat) (a2 : Nat) (l5 : Int32) (h : zH) : Option (Int32 × zH) := (s_X8_goneBits 30 (zI h a1 6) h).bind fun v1 => zlt (zwI h 48 0 v1) fun h2 => (s_X6_isAsSeen a2 (0 : Int32) h2).bind fun v3 => s_X6_fits_L33 a1 a2 zfu l5 v3 (1 : Int32) h2
set_option maxRecDepth 100000 in
theorem s_X6_fits_J17_ok (d : Nat) (ρ : Nat → Nat → Option zF) (hρ : zSh ρ) (a1 : Nat) (a2 : Nat) (ha1 : zPlS ρ a1) (ha2 : zLdS ρ a2) (l5 : Int32) (h : zH) (res : Int32 × zH) (hR : zRq h ρ) (e : s_X6_fits_J17 a1 a2 l5 h = some res) : zwp (d + 5) zm_X6_fits 17 [some (zr ((47, 6, 0) : zF)), some (zr ((a1, 3, 0) : zF)), some (zr ((a2, 2, 0) : zF)), none, none, some (zi l5), none, none] [] h (zQi ρ res) := by
  rw [s_X6_fits_J17] at e
  refine zwp.go (m := 1) (j := 18) (ls' := [some (zr ((47, 6, 0) : zF)), some (zr ((a1, 3, 0) : zF)), some (zr ((a2, 2, 0) : zF)), none, none, some (zi l5), none, none]) (st' := [zr ((47, 6, 0) : zF)]) (h' := h) rfl ?_
  refine zc_sr (r := ((48, 20, 21) : zF)) (zrf (a := 47) (y := 2) hR rfl (hρ 47 2 rfl)) rfl ?_
  refine zwp.go (m := 2) (j := 21) (ls' := [some (zr ((47, 6, 0) : zF)), some (zr ((a1, 3, 0) : zF)), some (zr ((a2, 2, 0) : zF)), none, none, some (zi l5), none, none]) (st' := [zr ((47, 6, 0) : zF), zi (0 : Int32), zr ((48, 20, 21) : zF)]) (h' := h) rfl ?_
  refine zc_sr (r := ((30, 8, 0) : zF)) (zrf (a := 47) (y := 1) hR rfl (hρ 47 1 rfl)) rfl ?_
  refine zwp.go (m := 2) (j := 24) (ls' := [some (zr ((47, 6, 0) : zF)), some (zr ((a1, 3, 0) : zF)), some (zr ((a2, 2, 0) : zF)), none, none, some (zi l5), none, none]) (st' := [zi (zI h a1 6), zr ((30, 8, 0) : zF), zi (0 : Int32), zr ((48, 20, 21) : zF)]) (h' := h) rfl ?_
  refine zc_cp (d := d + 4) e (fun q e => s_X8_goneBits_ok (d + 3) ρ hρ 30 (zI h a1 6) (zSh_st30 hρ) h q hR e) rfl rfl (fun v1 e => ?_)
  refine zc_w e rfl hR (fun h2 hR2 e => ?_)
  refine zwp.go (m := 3) (j := 29) (ls' := [some (zr ((47, 6, 0) : zF)), some (zr ((a1, 3, 0) : zF)), some (zr ((a2, 2, 0) : zF)), none, none, some (zi l5), none, none]) (st' := [zi (0 : Int32), zr ((a2, 2, 0) : zF), zr ((47, 6, 0) : zF)]) (h' := h2) rfl ?_
  refine zc_cp (d := d + 4) e (fun q e => s_X6_isAsSeen_ok (d + 4) ρ hρ a2 (0 : Int32) ha2 h2 q hR2 e) rfl rfl (fun v3 e => ?_)
  refine zwp.go (m := 3) (j := 33) (ls' := [some (zr ((47, 6, 0) : zF)), some (zr ((a1, 3, 0) : zF)), some (zr ((a2, 2, 0) : zF)), none, none, some (zi l5), some (zi v3), some (zi (1 : Int32))]) (st' := []) (h' := h2) rfl ?_
  exact s_X6_fits_L33_ok d ρ hρ a1 a2 ha1 ha2 zfu l5 v3 (1 : Int32) h2 _ hR2 e
def s_X6_fits (a1 : Nat) (a2 : Nat) (a3 : Int32) (a4 : Int32) (a5 : Int32) (h : zH) : Option (Int32 × zH) := (s_X8_copyFrom 30 (a2 + 1) h).bind fun h1 => if a3 < 0 then (s_X6_fits_J17 a1 a2 a5 h1) else (if (zI h1 a1 6) ≤ a3 then (s_X6_fits_J17 a1 a2 a5 h1) else (zix a3 12 fun i3 => zlt (zwI h1 31 i3 a4) fun h2 => s_X6_fits_J17 a1 a2 a5 h2))
set_option maxRecDepth 100000 in
theorem s_X6_fits_ok (d : Nat) (ρ : Nat → Nat → Option zF) (hρ : zSh ρ) (a1 : Nat) (a2 : Nat) (a3 : Int32) (a4 : Int32) (a5 : Int32) (ha1 : zPlS ρ a1) (ha2 : zLdS ρ a2) (h : zH) (res : Int32 × zH) (hR : zRq h ρ) (e : s_X6_fits a1 a2 a3 a4 a5 h = some res) : zcl (d + 5) 266 [zr ((47, 6, 0) : zF), zr ((a1, 3, 0) : zF), zr ((a2, 2, 0) : zF), zi a3, zi a4, zi a5] h (zQi ρ res) := by
  rw [s_X6_fits] at e
  refine ⟨zm_X6_fits, rfl, ?_⟩
  show zwp (d + 5) zm_X6_fits 0 [some (zr ((47, 6, 0) : zF)), some (zr ((a1, 3, 0) : zF)), some (zr ((a2, 2, 0) : zF)), some (zi a3), some (zi a4), some (zi a5), none, none] [] h _
  refine zwp.go (m := 1) (j := 1) (ls' := [some (zr ((47, 6, 0) : zF)), some (zr ((a1, 3, 0) : zF)), some (zr ((a2, 2, 0) : zF)), some (zi a3), some (zi a4), some (zi a5), none, none]) (st' := [zr ((47, 6, 0) : zF)]) (h' := h) rfl ?_
  refine zc_sr (r := ((30, 8, 0) : zF)) (zrf (a := 47) (y := 1) hR rfl (hρ 47 1 rfl)) rfl ?_
  refine zwp.go (m := 1) (j := 3) (ls' := [some (zr ((47, 6, 0) : zF)), some (zr ((a1, 3, 0) : zF)), some (zr ((a2, 2, 0) : zF)), some (zi a3), some (zi a4), some (zi a5), none, none]) (st' := [zr ((a2, 2, 0) : zF), zr ((30, 8, 0) : zF)]) (h' := h) rfl ?_
  refine zc_sr (r := (((a2 + 1), 8, 0) : zF)) (zrf (a := a2) (y := 0) hR rfl ha2.2.1) rfl ?_
  refine zc_cv (d := d + 4) e (fun q e => s_X8_copyFrom_ok (d + 4) ρ hρ 30 (a2 + 1) (zSh_st30 hρ) ha2.2.2.2.2.2.2.2 h q hR e) rfl rfl (fun h1 hR1 e => ?_)
  refine zwp.go (m := 1) (j := 6) (ls' := [some (zr ((47, 6, 0) : zF)), some (zr ((a1, 3, 0) : zF)), some (zr ((a2, 2, 0) : zF)), some (zi a3), some (zi a4), some (zi a5), none, none]) (st' := [zi a3]) (h' := h1) rfl ?_
  refine zb_if (j := 17) (j2 := 7) e rfl (fun e => ?_) (fun e => ?_)
  · refine zwp.fg (a := [some (zr ((47, 6, 0) : zF)), some (zr ((a1, 3, 0) : zF)), some (zr ((a2, 2, 0) : zF)), none, none, some (zi a5), none, none]) (And.intro rfl (And.intro rfl (And.intro rfl (And.intro rfl trivial)))) ?_
    exact s_X6_fits_J17_ok d ρ hρ a1 a2 ha1 ha2 a5 h1 _ hR1 e
  · refine zwp.go (m := 3) (j := 10) (ls' := [some (zr ((47, 6, 0) : zF)), some (zr ((a1, 3, 0) : zF)), some (zr ((a2, 2, 0) : zF)), some (zi a3), some (zi a4), some (zi a5), none, none]) (st' := [zi (zI h1 a1 6), zi a3]) (h' := h1) rfl ?_
    refine zb_if (j := 17) (j2 := 11) e rfl (fun e => ?_) (fun e => ?_)
    · refine zwp.fg (a := [some (zr ((47, 6, 0) : zF)), some (zr ((a1, 3, 0) : zF)), some (zr ((a2, 2, 0) : zF)), none, none, some (zi a5), none, none]) (And.intro rfl (And.intro rfl (And.intro rfl (And.intro rfl trivial)))) ?_
      exact s_X6_fits_J17_ok d ρ hρ a1 a2 ha1 ha2 a5 h1 _ hR1 e
    · refine zwp.go (m := 1) (j := 12) (ls' := [some (zr ((47, 6, 0) : zF)), some (zr ((a1, 3, 0) : zF)), some (zr ((a2, 2, 0) : zF)), some (zi a3), some (zi a4), some (zi a5), none, none]) (st' := [zr ((47, 6, 0) : zF)]) (h' := h1) rfl ?_
      refine zc_sr (r := ((30, 8, 0) : zF)) (zrf (a := 47) (y := 1) hR1 rfl (hρ 47 1 rfl)) rfl ?_
      refine zc_sr (r := ((31, 20, 12) : zF)) (zrf (a := 30) (y := 0) hR1 rfl (zSh_st30 hρ).2.1) rfl ?_
      refine zwp.go (m := 2) (j := 16) (ls' := [some (zr ((47, 6, 0) : zF)), some (zr ((a1, 3, 0) : zF)), some (zr ((a2, 2, 0) : zF)), some (zi a3), some (zi a4), some (zi a5), none, none]) (st' := [zi a4, zi a3, zr ((31, 20, 12) : zF)]) (h' := h1) rfl ?_
      refine zc_si e (fun _ => rfl) hR1 (fun h2 hR2 e => ?_)
      refine zwp.fg (a := [some (zr ((47, 6, 0) : zF)), some (zr ((a1, 3, 0) : zF)), some (zr ((a2, 2, 0) : zF)), none, none, some (zi a5), none, none]) (And.intro rfl (And.intro rfl (And.intro rfl (And.intro rfl trivial)))) ?_
      exact s_X6_fits_J17_ok d ρ hρ a1 a2 ha1 ha2 a5 h2 _ hR2 e
def s_X6_search_J52 (a1 : Nat) (a2 : Nat) (k22 : (Int32 → Int32 → Int32 → zH → Option (zH))) (l3 : Int32) (l4 : Int32) (l5 : Int32) (s1 : Int32) (h : zH) : Option (zH) := zlt (zwI h 47 6 s1) fun h1 => zlt (zwI h1 47 5 ((zI h1 47 5) + (1 : Int32))) fun h2 => k22 l3 l4 (l5 + (1 : Int32)) h2
set_option maxRecDepth 100000 in
theorem s_X6_search_J52_ok (d : Nat) (ρ : Nat → Nat → Option zF) (hρ : zSh ρ) (a1 : Nat) (a2 : Nat) (ha1 : zPlS ρ a1) (ha2 : zLdS ρ a2) (k22 : (Int32 → Int32 → Int32 → zH → Option (zH))) (hk22 : ∀ l3 l4 l5 h res, zRq h ρ → k22 l3 l4 l5 h = some res → zwp (d + 6) zm_X6_search 22 [some (zr ((47, 6, 0) : zF)), some (zr ((a1, 3, 0) : zF)), some (zr ((a2, 2, 0) : zF)), some (zi l3), some (zi l4), some (zi l5)] [] h (zQv ρ res)) (l3 : Int32) (l4 : Int32) (l5 : Int32) (s1 : Int32) (h : zH) (res : zH) (hR : zRq h ρ) (e : s_X6_search_J52 a1 a2 k22 l3 l4 l5 s1 h = some res) : zwp (d + 6) zm_X6_search 52 [some (zr ((47, 6, 0) : zF)), some (zr ((a1, 3, 0) : zF)), some (zr ((a2, 2, 0) : zF)), some (zi l3), some (zi l4), some (zi l5)] [zi s1, zr ((47, 6, 0) : zF)] h (zQv ρ res) := by
  rw [s_X6_search_J52] at e
  refine zc_w e rfl hR (fun h1 hR1 e => ?_)
  refine zwp.go (m := 5) (j := 58) (ls' := [some (zr ((47, 6, 0) : zF)), some (zr ((a1, 3, 0) : zF)), some (zr ((a2, 2, 0) : zF)), some (zi l3), some (zi l4), some (zi l5)]) (st' := [zi ((zI h1 47 5) + (1 : Int32)), zr ((47, 6, 0) : zF)]) (h' := h1) rfl ?_
  refine zc_w e rfl hR1 (fun h2 hR2 e => ?_)
  refine zwp.go (m := 2) (j := 22) (ls' := [some (zr ((47, 6, 0) : zF)), some (zr ((a1, 3, 0) : zF)), some (zr ((a2, 2, 0) : zF)), some (zi l3), some (zi l4), some (zi (l5 + (1 : Int32)))]) (st' := []) (h' := h2) rfl ?_
  exact hk22 l3 l4 (l5 + (1 : Int32)) h2 _ hR2 e
def s_X6_search_L22 (a1 : Nat) (a2 : Nat) (k16 : (Int32 → Int32 → zH → Option (zH))) : Nat → Int32 → Int32 → Int32 → zH → Option (zH)
  | 0, _, _, _, _ => none
  | n + 1, l3, l4, l5, h => if (99 : Int32) < l5 then (k16 l3 (l4 + (1 : Int32)) h) else (zix l4 12 fun i1 => if l5 = (zI h (a2 + 2) i1) then (s_X6_search_L22 a1 a2 k16 n l3 l4 (l5 + (1 : Int32)) h) else (zbd (s_X6_fits a1 a2 l4 l5 l3 h) fun v3 h2 => if v3 = 0 then (s_X6_search_L22 a1 a2 k16 n l3 l4 (l5 + (1 : Int32)) h2) else (if ¬ (zI h2 47 5) = 0 then (s_X6_search_J52 a1 a2 (s_X6_search_L22 a1 a2 k16 n) l3 l4 l5 (zI h2 47 6) h2) else (s_X6_search_J52 a1 a2 (s_X6_search_L22 a1 a2 k16 n) l3 l4 l5 (((100 : Int32) * l4) + l5) h2))))
set_option maxRecDepth 100000 in
theorem s_X6_search_L22_ok (d : Nat) (ρ : Nat → Nat → Option zF) (hρ : zSh ρ) (a1 : Nat) (a2 : Nat) (ha1 : zPlS ρ a1) (ha2 : zLdS ρ a2) (k16 : (Int32 → Int32 → zH → Option (zH))) (hk16 : ∀ l3 l4 h res, zRq h ρ → k16 l3 l4 h = some res → zwp (d + 6) zm_X6_search 16 [some (zr ((47, 6, 0) : zF)), some (zr ((a1, 3, 0) : zF)), some (zr ((a2, 2, 0) : zF)), some (zi l3), some (zi l4), none] [] h (zQv ρ res)) : ∀ (n : Nat) (l3 : Int32) (l4 : Int32) (l5 : Int32) (h : zH) (res : zH) (hR : zRq h ρ) (e : s_X6_search_L22 a1 a2 k16 n l3 l4 l5 h = some res), zwp (d + 6) zm_X6_search 22 [some (zr ((47, 6, 0) : zF)), some (zr ((a1, 3, 0) : zF)), some (zr ((a2, 2, 0) : zF)), some (zi l3), some (zi l4), some (zi l5)] [] h (zQv ρ res) := by
  intro n
  induction n with
  | zero => intro l3 l4 l5 h res hR e; cases e
  | succ n ih =>
    intro l3 l4 l5 h res hR e
    rw [s_X6_search_L22] at e
    refine zwp.go (m := 2) (j := 24) (ls' := [some (zr ((47, 6, 0) : zF)), some (zr ((a1, 3, 0) : zF)), some (zr ((a2, 2, 0) : zF)), some (zi l3), some (zi l4), some (zi l5)]) (st' := [zi (99 : Int32), zi l5]) (h' := h) rfl ?_
    refine zb_if (j := 61) (j2 := 25) e rfl (fun e => ?_) (fun e => ?_)
    · refine zwp.go (m := 2) (j := 16) (ls' := [some (zr ((47, 6, 0) : zF)), some (zr ((a1, 3, 0) : zF)), some (zr ((a2, 2, 0) : zF)), some (zi l3), some (zi (l4 + (1 : Int32))), some (zi l5)]) (st' := []) (h' := h) rfl ?_
      refine zwp.fg (a := [some (zr ((47, 6, 0) : zF)), some (zr ((a1, 3, 0) : zF)), some (zr ((a2, 2, 0) : zF)), some (zi l3), some (zi (l4 + (1 : Int32))), none]) (And.intro rfl (And.intro rfl (And.intro rfl (And.intro rfl (And.intro rfl trivial))))) ?_
      exact hk16 l3 (l4 + (1 : Int32)) h _ hR e
    · refine zwp.go (m := 2) (j := 27) (ls' := [some (zr ((47, 6, 0) : zF)), some (zr ((a1, 3, 0) : zF)), some (zr ((a2, 2, 0) : zF)), some (zi l3), some (zi l4), some (zi l5)]) (st' := [zr ((a2, 2, 0) : zF), zi l5]) (h' := h) rfl ?_
      refine zc_sr (r := (((a2 + 1), 8, 0) : zF)) (zrf (a := a2) (y := 0) hR rfl ha2.2.1) rfl ?_
      refine zc_sr (r := (((a2 + 2), 20, 12) : zF)) (zrf (a := (a2 + 1)) (y := 0) hR rfl ha2.2.2.2.2.2.2.2.2.1) rfl ?_
      refine zwp.go (m := 1) (j := 30) (ls' := [some (zr ((47, 6, 0) : zF)), some (zr ((a1, 3, 0) : zF)), some (zr ((a2, 2, 0) : zF)), some (zi l3), some (zi l4), some (zi l5)]) (st' := [zi l4, zr (((a2 + 2), 20, 12) : zF), zi l5]) (h' := h) rfl ?_
      refine zc_ai e (fun _ => rfl) (fun i1 e => ?_)
      refine zb_if (j := 59) (j2 := 32) e rfl (fun e => ?_) (fun e => ?_)
      · refine zwp.go (m := 2) (j := 22) (ls' := [some (zr ((47, 6, 0) : zF)), some (zr ((a1, 3, 0) : zF)), some (zr ((a2, 2, 0) : zF)), some (zi l3), some (zi l4), some (zi (l5 + (1 : Int32)))]) (st' := []) (h' := h) rfl ?_
        exact ih l3 l4 (l5 + (1 : Int32)) h _ hR e
      · refine zwp.go (m := 6) (j := 38) (ls' := [some (zr ((47, 6, 0) : zF)), some (zr ((a1, 3, 0) : zF)), some (zr ((a2, 2, 0) : zF)), some (zi l3), some (zi l4), some (zi l5)]) (st' := [zi l3, zi l5, zi l4, zr ((a2, 2, 0) : zF), zr ((a1, 3, 0) : zF), zr ((47, 6, 0) : zF)]) (h' := h) rfl ?_
        refine zc_ci (d := d + 5) e (fun q e => s_X6_fits_ok (d + 0) ρ hρ a1 a2 l4 l5 l3 ha1 ha2 h q hR e) rfl rfl (fun v3 h2 hR2 e => ?_)
        refine zb_if (j := 59) (j2 := 40) e rfl (fun e => ?_) (fun e => ?_)
        · refine zwp.go (m := 2) (j := 22) (ls' := [some (zr ((47, 6, 0) : zF)), some (zr ((a1, 3, 0) : zF)), some (zr ((a2, 2, 0) : zF)), some (zi l3), some (zi l4), some (zi (l5 + (1 : Int32)))]) (st' := []) (h' := h2) rfl ?_
          exact ih l3 l4 (l5 + (1 : Int32)) h2 _ hR2 e
        · refine zwp.go (m := 3) (j := 43) (ls' := [some (zr ((47, 6, 0) : zF)), some (zr ((a1, 3, 0) : zF)), some (zr ((a2, 2, 0) : zF)), some (zi l3), some (zi l4), some (zi l5)]) (st' := [zi (zI h2 47 5), zr ((47, 6, 0) : zF)]) (h' := h2) rfl ?_
          refine zb_if (j := 50) (j2 := 44) e rfl (fun e => ?_) (fun e => ?_)
          · refine zwp.go (m := 2) (j := 52) (ls' := [some (zr ((47, 6, 0) : zF)), some (zr ((a1, 3, 0) : zF)), some (zr ((a2, 2, 0) : zF)), some (zi l3), some (zi l4), some (zi l5)]) (st' := [zi (zI h2 47 6), zr ((47, 6, 0) : zF)]) (h' := h2) rfl ?_
            exact s_X6_search_J52_ok d ρ hρ a1 a2 ha1 ha2 (s_X6_search_L22 a1 a2 k16 n) ih l3 l4 l5 (zI h2 47 6) h2 _ hR2 e
          · refine zwp.go (m := 6) (j := 52) (ls' := [some (zr ((47, 6, 0) : zF)), some (zr ((a1, 3, 0) : zF)), some (zr ((a2, 2, 0) : zF)), some (zi l3), some (zi l4), some (zi l5)]) (st' := [zi (((100 : Int32) * l4) + l5), zr ((47, 6, 0) : zF)]) (h' := h2) rfl ?_
            exact s_X6_search_J52_ok d ρ hρ a1 a2 ha1 ha2 (s_X6_search_L22 a1 a2 k16 n) ih l3 l4 l5 (((100 : Int32) * l4) + l5) h2 _ hR2 e
def s_X6_search_L16 (a1 : Nat) (a2 : Nat) : Nat → Int32 → Int32 → zH → Option (zH)
  | 0, _, _, _ => none
  | n + 1, l3, l4, h => if (zI h a1 6) ≤ l4 then (zbd (s_X6_fits a1 a2 (-1 : Int32) (0 : Int32) l3 h) fun v2 h1 => zbo v2 (zlt (zwI h1 47 7 v2) fun h3 => zlt (zwI h3 47 4 (1 : Int32)) fun h4 => some h4)) else (s_X6_search_L22 a1 a2 (s_X6_search_L16 a1 a2 n) zfu l3 l4 (1 : Int32) h)
set_option maxRecDepth 100000 in
theorem s_X6_search_L16_ok (d : Nat) (ρ : Nat → Nat → Option zF) (hρ : zSh ρ) (a1 : Nat) (a2 : Nat) (ha1 : zPlS ρ a1) (ha2 : zLdS ρ a2) : ∀ (n : Nat) (l3 : Int32) (l4 : Int32) (h : zH) (res : zH) (hR : zRq h ρ) (e : s_X6_search_L16 a1 a2 n l3 l4 h = some res), zwp (d + 6) zm_X6_search 16 [some (zr ((47, 6, 0) : zF)), some (zr ((a1, 3, 0) : zF)), some (zr ((a2, 2, 0) : zF)), some (zi l3), some (zi l4), none] [] h (zQv ρ res) := by
  intro n
  induction n with
  | zero => intro l3 l4 h res hR e; cases e
  | succ n ih =>
    intro l3 l4 h res hR e
    rw [s_X6_search_L16] at e
    refine zwp.go (m := 3) (j := 19) (ls' := [some (zr ((47, 6, 0) : zF)), some (zr ((a1, 3, 0) : zF)), some (zr ((a2, 2, 0) : zF)), some (zi l3), some (zi l4), none]) (st' := [zi (zI h a1 6), zi l4]) (h' := h) rfl ?_
    refine zb_if (j := 63) (j2 := 20) e rfl (fun e => ?_) (fun e => ?_)
    · refine zwp.go (m := 7) (j := 70) (ls' := [some (zr ((47, 6, 0) : zF)), some (zr ((a1, 3, 0) : zF)), some (zr ((a2, 2, 0) : zF)), some (zi l3), some (zi l4), none]) (st' := [zi l3, zi (0 : Int32), zi (-1 : Int32), zr ((a2, 2, 0) : zF), zr ((a1, 3, 0) : zF), zr ((47, 6, 0) : zF), zr ((47, 6, 0) : zF)]) (h' := h) rfl ?_
      refine zc_ci (d := d + 5) e (fun q e => s_X6_fits_ok (d + 0) ρ hρ a1 a2 (-1 : Int32) (0 : Int32) l3 ha1 ha2 h q hR e) rfl rfl (fun v2 h1 hR1 e => ?_)
      refine zc_wb e rfl hR1 (fun h3 hR3 e => ?_)
      refine zwp.go (m := 2) (j := 74) (ls' := [some (zr ((47, 6, 0) : zF)), some (zr ((a1, 3, 0) : zF)), some (zr ((a2, 2, 0) : zF)), some (zi l3), some (zi l4), none]) (st' := [zi (1 : Int32), zr ((47, 6, 0) : zF)]) (h' := h3) rfl ?_
      refine zc_w e rfl hR3 (fun h4 hR4 e => ?_)
      cases e
      exact zwp.rv rfl ⟨⟨rfl, rfl⟩, hR4⟩
    · refine zwp.go (m := 2) (j := 22) (ls' := [some (zr ((47, 6, 0) : zF)), some (zr ((a1, 3, 0) : zF)), some (zr ((a2, 2, 0) : zF)), some (zi l3), some (zi l4), some (zi (1 : Int32))]) (st' := []) (h' := h) rfl ?_
      exact s_X6_search_L22_ok d ρ hρ a1 a2 ha1 ha2 (s_X6_search_L16 a1 a2 n) ih zfu l3 l4 (1 : Int32) h _ hR e
def s_X6_search (a1 : Nat) (a2 : Nat) (h : zH) : Option (zH) := if (zI h 47 4) = 0 then ((s_X6_lastSeenDay a2 h).bind fun v1 => zlt (zwI h 47 5 (0 : Int32)) fun h2 => zlt (zwI h2 47 6 (-1 : Int32)) fun h3 => s_X6_search_L16 a1 a2 zfu v1 (0 : Int32) h3) else (some h)
set_option maxRecDepth 100000 in
theorem s_X6_search_ok (d : Nat) (ρ : Nat → Nat → Option zF) (hρ : zSh ρ) (a1 : Nat) (a2 : Nat) (ha1 : zPlS ρ a1) (ha2 : zLdS ρ a2) (h : zH) (res : zH) (hR : zRq h ρ) (e : s_X6_search a1 a2 h = some res) : zcl (d + 6) 267 [zr ((47, 6, 0) : zF), zr ((a1, 3, 0) : zF), zr ((a2, 2, 0) : zF)] h (zQv ρ res) := by
  rw [s_X6_search] at e
  refine ⟨zm_X6_search, rfl, ?_⟩
  show zwp (d + 6) zm_X6_search 0 [some (zr ((47, 6, 0) : zF)), some (zr ((a1, 3, 0) : zF)), some (zr ((a2, 2, 0) : zF)), none, none, none] [] h _
  refine zwp.go (m := 2) (j := 2) (ls' := [some (zr ((47, 6, 0) : zF)), some (zr ((a1, 3, 0) : zF)), some (zr ((a2, 2, 0) : zF)), none, none, none]) (st' := [zi (zI h 47 4)]) (h' := h) rfl ?_
  refine zb_if (j := 4) (j2 := 3) e rfl (fun e => ?_) (fun e => ?_)
  · refine zwp.go (m := 2) (j := 6) (ls' := [some (zr ((47, 6, 0) : zF)), some (zr ((a1, 3, 0) : zF)), some (zr ((a2, 2, 0) : zF)), none, none, none]) (st' := [zr ((a2, 2, 0) : zF), zr ((47, 6, 0) : zF)]) (h' := h) rfl ?_
    refine zc_cp (d := d + 5) e (fun q e => s_X6_lastSeenDay_ok (d + 4) ρ hρ a2 ha2 h q hR e) rfl rfl (fun v1 e => ?_)
    refine zwp.go (m := 3) (j := 10) (ls' := [some (zr ((47, 6, 0) : zF)), some (zr ((a1, 3, 0) : zF)), some (zr ((a2, 2, 0) : zF)), some (zi v1), none, none]) (st' := [zi (0 : Int32), zr ((47, 6, 0) : zF)]) (h' := h) rfl ?_
    refine zc_w e rfl hR (fun h2 hR2 e => ?_)
    refine zwp.go (m := 2) (j := 13) (ls' := [some (zr ((47, 6, 0) : zF)), some (zr ((a1, 3, 0) : zF)), some (zr ((a2, 2, 0) : zF)), some (zi v1), none, none]) (st' := [zi (-1 : Int32), zr ((47, 6, 0) : zF)]) (h' := h2) rfl ?_
    refine zc_w e rfl hR2 (fun h3 hR3 e => ?_)
    refine zwp.go (m := 2) (j := 16) (ls' := [some (zr ((47, 6, 0) : zF)), some (zr ((a1, 3, 0) : zF)), some (zr ((a2, 2, 0) : zF)), some (zi v1), some (zi (0 : Int32)), none]) (st' := []) (h' := h3) rfl ?_
    exact s_X6_search_L16_ok d ρ hρ a1 a2 ha1 ha2 zfu v1 (0 : Int32) h3 _ hR3 e
  · cases e
    exact zwp.rv rfl ⟨⟨rfl, rfl⟩, hR⟩
def s_X10_strong (pp : Nat) (a1 : Int32) (h : zH) : Option ((Int32 ⊕ Nat) × zH) := zbx (s_X10_needWhat pp a1 (3 : Int32) h) (fun _ h2 => (s_X6_search pp 18 h2).bind fun h3 => if a1 = 0 then (some (Sum.inl (zI h3 47 5), h3)) else if a1 = 1 then (some (Sum.inl (zI h3 47 6), h3)) else (if (zI h3 47 7) = 0 then (some (Sum.inl (0 : Int32), h3)) else (some (Sum.inl (1 : Int32), h3)))) (fun x h1 => some (Sum.inr x, h1))
set_option maxRecDepth 100000 in
theorem s_X10_strong_ok (d : Nat) (ρ : Nat → Nat → Option zF) (hρ : zSh ρ) (pp : Nat) (a1 : Int32) (hpp : ρ 0 3 = some (pp, 3, 0) ∧ zPlS ρ pp) (h : zH) (res : (Int32 ⊕ Nat) × zH) (hR : zRq h ρ) (e : s_X10_strong pp a1 h = some res) : zcl (d + 7) 268 [zr ((0, 10, 0) : zF), zi a1] h (zQx ρ res) := by
  rw [s_X10_strong] at e
  refine ⟨zm_X10_strong, rfl, ?_⟩
  show zwp (d + 7) zm_X10_strong 0 [some (zr ((0, 10, 0) : zF)), some (zi a1)] [] h _
  refine zwp.go (m := 3) (j := 3) (ls' := [some (zr ((0, 10, 0) : zF)), some (zi a1)]) (st' := [zi (3 : Int32), zi a1, zr ((0, 10, 0) : zF)]) (h' := h) rfl ?_
  refine zc_cu (d := d + 6) e (fun q e => s_X10_needWhat_ok (d + 6) ρ hρ pp a1 (3 : Int32) hpp h q hR e) rfl rfl (fun h2 hR2 e => ?_) (fun x h1 hR1 e => ?_)
  · refine zwp.go (m := 1) (j := 5) (ls' := [some (zr ((0, 10, 0) : zF)), some (zi a1)]) (st' := [zr ((0, 10, 0) : zF)]) (h' := h2) rfl ?_
    refine zc_sr (r := ((47, 6, 0) : zF)) (zrf (a := 0) (y := 13) hR2 rfl (hρ 0 13 rfl)) rfl ?_
    refine zwp.go (m := 1) (j := 7) (ls' := [some (zr ((0, 10, 0) : zF)), some (zi a1)]) (st' := [zr ((0, 10, 0) : zF), zr ((47, 6, 0) : zF)]) (h' := h2) rfl ?_
    refine zc_sr (r := ((pp, 3, 0) : zF)) (zrf (a := 0) (y := 3) hR2 rfl hpp.1) rfl ?_
    refine zwp.go (m := 1) (j := 9) (ls' := [some (zr ((0, 10, 0) : zF)), some (zi a1)]) (st' := [zr ((0, 10, 0) : zF), zr ((pp, 3, 0) : zF), zr ((47, 6, 0) : zF)]) (h' := h2) rfl ?_
    refine zc_sr (r := ((18, 2, 0) : zF)) (zrf (a := 0) (y := 6) hR2 rfl (hρ 0 6 rfl)) rfl ?_
    refine zc_cv (d := d + 6) e (fun q e => s_X6_search_ok (d + 0) ρ hρ pp 18 hpp.2 (zSh_ld18 hρ) h2 q hR2 e) rfl rfl (fun h3 hR3 e => ?_)
    refine zwp.go (m := 1) (j := 12) (ls' := [some (zr ((0, 10, 0) : zF)), some (zi a1)]) (st' := [zi a1]) (h' := h3) rfl ?_
    refine zwp.nx (j := zsw [(0, 13), (1, 17)] 21 a1) (ls' := [some (zr ((0, 10, 0) : zF)), some (zi a1)]) (st' := []) (h' := h3) rfl ?_
    refine zb_sw e (fun e => ?_) (fun e => ?_)
    · refine zwp.go (m := 1) (j := 14) (ls' := [some (zr ((0, 10, 0) : zF)), some (zi a1)]) (st' := [zr ((0, 10, 0) : zF)]) (h' := h3) rfl ?_
      refine zc_sr (r := ((47, 6, 0) : zF)) (zrf (a := 0) (y := 13) hR3 rfl (hρ 0 13 rfl)) rfl ?_
      refine zwp.go (m := 1) (j := 16) (ls' := [some (zr ((0, 10, 0) : zF)), some (zi a1)]) (st' := [zi (zI h3 47 5)]) (h' := h3) rfl ?_
      cases e
      exact zwp.ret rfl rfl ⟨⟨rfl, rfl⟩, hR3⟩
    refine zb_sw e (fun e => ?_) (fun e => ?_)
    · refine zwp.go (m := 1) (j := 18) (ls' := [some (zr ((0, 10, 0) : zF)), some (zi a1)]) (st' := [zr ((0, 10, 0) : zF)]) (h' := h3) rfl ?_
      refine zc_sr (r := ((47, 6, 0) : zF)) (zrf (a := 0) (y := 13) hR3 rfl (hρ 0 13 rfl)) rfl ?_
      refine zwp.go (m := 1) (j := 20) (ls' := [some (zr ((0, 10, 0) : zF)), some (zi a1)]) (st' := [zi (zI h3 47 6)]) (h' := h3) rfl ?_
      cases e
      exact zwp.ret rfl rfl ⟨⟨rfl, rfl⟩, hR3⟩
    refine zwp.go (m := 1) (j := 22) (ls' := [some (zr ((0, 10, 0) : zF)), some (zi a1)]) (st' := [zr ((0, 10, 0) : zF)]) (h' := h3) rfl ?_
    refine zc_sr (r := ((47, 6, 0) : zF)) (zrf (a := 0) (y := 13) hR3 rfl (hρ 0 13 rfl)) rfl ?_
    refine zwp.go (m := 1) (j := 24) (ls' := [some (zr ((0, 10, 0) : zF)), some (zi a1)]) (st' := [zi (zI h3 47 7)]) (h' := h3) rfl ?_
    refine zb_if (j := 27) (j2 := 25) e rfl (fun e => ?_) (fun e => ?_)
    · refine zwp.go (m := 1) (j := 28) (ls' := [some (zr ((0, 10, 0) : zF)), some (zi a1)]) (st' := [zi (0 : Int32)]) (h' := h3) rfl ?_
      cases e
      exact zwp.ret rfl rfl ⟨⟨rfl, rfl⟩, hR3⟩
    · refine zwp.go (m := 2) (j := 28) (ls' := [some (zr ((0, 10, 0) : zF)), some (zi a1)]) (st' := [zi (1 : Int32)]) (h' := h3) rfl ?_
      cases e
      exact zwp.ret rfl rfl ⟨⟨rfl, rfl⟩, hR3⟩
  · cases e
    exact ⟨rfl, ⟨⟨rfl, rfl⟩, hR1⟩⟩
def s_L_strong (pp : Nat) (a1 : Int32) (a2 n2 : Nat) (h : zH) : Option (Int32 × zH) := zbx (s_X10_strong pp a1 h) (fun v3 h2 => zix (0 : Int32) n2 fun i5 => zlt (zwL h2 a2 i5 v3.toInt64) fun h4 => some ((0 : Int32), h4)) (fun x h1 => if x = 1 then (some ((1 : Int32), h1)) else none)
set_option maxRecDepth 100000 in
theorem s_L_strong_ok (d : Nat) (ρ : Nat → Nat → Option zF) (hρ : zSh ρ) (pp : Nat) (a1 : Int32) (a2 n2 : Nat) (hpp : ρ 0 3 = some (pp, 3, 0) ∧ zPlS ρ pp) (h : zH) (res : Int32 × zH) (hR : zRq h ρ) (e : s_L_strong pp a1 a2 n2 h = some res) : zcl (d + 8) 269 [zr ((0, 10, 0) : zF), zi a1, zr ((a2, 23, n2) : zF)] h (zQi ρ res) := by
  rw [s_L_strong] at e
  refine ⟨zm_L_strong, rfl, ?_⟩
  show zwp (d + 8) zm_L_strong 0 [some (zr ((0, 10, 0) : zF)), some (zi a1), some (zr ((a2, 23, n2) : zF)), none] [] h _
  refine zwp.go (m := 4) (j := 4) (ls' := [some (zr ((0, 10, 0) : zF)), some (zi a1), some (zr ((a2, 23, n2) : zF)), none]) (st' := [zi a1, zr ((0, 10, 0) : zF), zi (0 : Int32), zr ((a2, 23, n2) : zF)]) (h' := h) rfl ?_
  refine zc_cx (d := d + 7) e (fun q e => s_X10_strong_ok (d + 0) ρ hρ pp a1 hpp h q hR e) rfl rfl (fun v3 h2 hR2 e => ?_) (fun x h1 hR1 e => ?_)
  · refine zwp.go (m := 1) (j := 6) (ls' := [some (zr ((0, 10, 0) : zF)), some (zi a1), some (zr ((a2, 23, n2) : zF)), none]) (st' := [zl v3.toInt64, zi (0 : Int32), zr ((a2, 23, n2) : zF)]) (h' := h2) rfl ?_
    refine zc_sl e (fun _ => rfl) hR2 (fun h4 hR4 e => ?_)
    refine zwp.go (m := 2) (j := 12) (ls' := [some (zr ((0, 10, 0) : zF)), some (zi a1), some (zr ((a2, 23, n2) : zF)), none]) (st' := [zi (0 : Int32)]) (h' := h4) rfl ?_
    cases e
    exact zwp.ret rfl rfl ⟨⟨rfl, rfl⟩, hR4⟩
  · by_cases q1 : x = 1
    · subst q1
      replace e : (some ((1 : Int32), h1)) = some res := by simpa using e
      show zwp _ _ 9 [some (zr ((0, 10, 0) : zF)), some (zi a1), some (zr ((a2, 23, n2) : zF)), none] [] _ _
      refine zwp.go (m := 1) (j := 10) (ls' := [some (zr ((0, 10, 0) : zF)), some (zi a1), some (zr ((a2, 23, n2) : zF)), none]) (st' := [zi (1 : Int32)]) (h' := h1) rfl ?_
      cases e
      exact zwp.ret rfl rfl ⟨⟨rfl, rfl⟩, hR1⟩
    · skip
      simp [q1] at e
def s_X11_isAsSeen_J66 (l2 : Int32) (h : zH) : Option (Int32 × zH) := (s_X11_unpack 78 38 (0 : Int32) h).bind fun h1 => zrt 1 l2 h1
set_option maxRecDepth 100000 in
theorem s_X11_isAsSeen_J66_ok (d : Nat) (ρ : Nat → Nat → Option zF) (hρ : zSh ρ) (l2 : Int32) (h : zH) (res : Int32 × zH) (hR : zRq h ρ) (e : s_X11_isAsSeen_J66  l2 h = some res) : zwp (d + 5) zm_X11_isAsSeen 66 [some (zr ((52, 11, 0) : zF)), none, some (zi l2), none, none] [] h (zQi ρ res) := by
  rw [s_X11_isAsSeen_J66] at e
  refine zwp.go (m := 2) (j := 68) (ls' := [some (zr ((52, 11, 0) : zF)), none, some (zi l2), none, none]) (st' := [zr ((52, 11, 0) : zF), zr ((52, 11, 0) : zF)]) (h' := h) rfl ?_
  refine zc_sr (r := ((78, 20, 38) : zF)) (zrf (a := 52) (y := 50) hR rfl (hρ 52 50 rfl)) rfl ?_
  refine zwp.go (m := 1) (j := 70) (ls' := [some (zr ((52, 11, 0) : zF)), none, some (zi l2), none, none]) (st' := [zi (0 : Int32), zr ((78, 20, 38) : zF), zr ((52, 11, 0) : zF)]) (h' := h) rfl ?_
  refine zc_cv (d := d + 4) e (fun q e => s_X11_unpack_ok (d + 4) ρ hρ 78 38 (0 : Int32) h q hR e) rfl rfl (fun h1 hR1 e => ?_)
  refine zwp.go (m := 1) (j := 72) (ls' := [some (zr ((52, 11, 0) : zF)), none, some (zi l2), none, none]) (st' := [zi l2]) (h' := h1) rfl ?_
  exact zc_rt e rfl hR1
def s_X11_isAsSeen_L33 (k26 : (Int32 → Int32 → Int32 → zH → Option (Int32 × zH))) : Nat → Int32 → Int32 → Int32 → Int32 → zH → Option (Int32 × zH)
  | 0, _, _, _, _, _ => none
  | n + 1, l1, l2, l3, l4, h => if (zI h 52 36) ≤ l4 then ((s_X11_aDay h).bind fun h1 => k26 l1 l2 (l3 + (1 : Int32)) h1) else (if l2 = 0 then (s_X11_isAsSeen_L33 k26 n l1 (0 : Int32) l3 (l4 + (1 : Int32)) h) else (zix l4 8 fun i2 => if ¬ (zI h 77 i2) = l3 then (s_X11_isAsSeen_L33 k26 n l1 (1 : Int32) l3 (l4 + (1 : Int32)) h) else (zix l4 8 fun i3 => (s_X11_isGone (zI h 76 i3) h).bind fun v4 => zix l4 8 fun i5 => if ¬ v4 = (zI h 79 i5) then (s_X11_isAsSeen_L33 k26 n l1 (0 : Int32) l3 (l4 + (1 : Int32)) h) else (s_X11_isAsSeen_L33 k26 n l1 (1 : Int32) l3 (l4 + (1 : Int32)) h))))
set_option maxRecDepth 100000 in
theorem s_X11_isAsSeen_L33_ok (d : Nat) (ρ : Nat → Nat → Option zF) (hρ : zSh ρ) (k26 : (Int32 → Int32 → Int32 → zH → Option (Int32 × zH))) (hk26 : ∀ l1 l2 l3 h res, zRq h ρ → k26 l1 l2 l3 h = some res → zwp (d + 5) zm_X11_isAsSeen 26 [some (zr ((52, 11, 0) : zF)), some (zi l1), some (zi l2), some (zi l3), none] [] h (zQi ρ res)) : ∀ (n : Nat) (l1 : Int32) (l2 : Int32) (l3 : Int32) (l4 : Int32) (h : zH) (res : Int32 × zH) (hR : zRq h ρ) (e : s_X11_isAsSeen_L33 k26 n l1 l2 l3 l4 h = some res), zwp (d + 5) zm_X11_isAsSeen 33 [some (zr ((52, 11, 0) : zF)), some (zi l1), some (zi l2), some (zi l3), some (zi l4)] [] h (zQi ρ res) := by
  intro n
  induction n with
  | zero => intro l1 l2 l3 l4 h res hR e; cases e
  | succ n ih =>
    intro l1 l2 l3 l4 h res hR e
    rw [s_X11_isAsSeen_L33] at e
    refine zwp.go (m := 3) (j := 36) (ls' := [some (zr ((52, 11, 0) : zF)), some (zi l1), some (zi l2), some (zi l3), some (zi l4)]) (st' := [zi (zI h 52 36), zi l4]) (h' := h) rfl ?_
    refine zb_if (j := 62) (j2 := 37) e rfl (fun e => ?_) (fun e => ?_)
    · refine zwp.go (m := 1) (j := 63) (ls' := [some (zr ((52, 11, 0) : zF)), some (zi l1), some (zi l2), some (zi l3), some (zi l4)]) (st' := [zr ((52, 11, 0) : zF)]) (h' := h) rfl ?_
      refine zc_cv (d := d + 4) e (fun q e => s_X11_aDay_ok (d + 0) ρ hρ h q hR e) rfl rfl (fun h1 hR1 e => ?_)
      refine zwp.go (m := 2) (j := 26) (ls' := [some (zr ((52, 11, 0) : zF)), some (zi l1), some (zi l2), some (zi (l3 + (1 : Int32))), some (zi l4)]) (st' := []) (h' := h1) rfl ?_
      refine zwp.fg (a := [some (zr ((52, 11, 0) : zF)), some (zi l1), some (zi l2), some (zi (l3 + (1 : Int32))), none]) (And.intro rfl (And.intro rfl (And.intro rfl (And.intro rfl trivial)))) ?_
      exact hk26 l1 l2 (l3 + (1 : Int32)) h1 _ hR1 e
    · refine zwp.go (m := 1) (j := 38) (ls' := [some (zr ((52, 11, 0) : zF)), some (zi l1), some (zi l2), some (zi l3), some (zi l4)]) (st' := [zi l2]) (h' := h) rfl ?_
      refine zb_if (j := 58) (j2 := 39) e rfl (fun e => ?_) (fun e => ?_)
      · refine zwp.go (m := 4) (j := 33) (ls' := [some (zr ((52, 11, 0) : zF)), some (zi l1), some (zi (0 : Int32)), some (zi l3), some (zi (l4 + (1 : Int32)))]) (st' := []) (h' := h) rfl ?_
        exact ih l1 (0 : Int32) l3 (l4 + (1 : Int32)) h _ hR e
      · refine zwp.go (m := 1) (j := 40) (ls' := [some (zr ((52, 11, 0) : zF)), some (zi l1), some (zi l2), some (zi l3), some (zi l4)]) (st' := [zr ((52, 11, 0) : zF)]) (h' := h) rfl ?_
        refine zc_sr (r := ((77, 20, 8) : zF)) (zrf (a := 52) (y := 49) hR rfl (hρ 52 49 rfl)) rfl ?_
        refine zwp.go (m := 1) (j := 42) (ls' := [some (zr ((52, 11, 0) : zF)), some (zi l1), some (zi l2), some (zi l3), some (zi l4)]) (st' := [zi l4, zr ((77, 20, 8) : zF)]) (h' := h) rfl ?_
        refine zc_ai e (fun _ => rfl) (fun i2 e => ?_)
        refine zwp.go (m := 1) (j := 44) (ls' := [some (zr ((52, 11, 0) : zF)), some (zi l1), some (zi l2), some (zi l3), some (zi l4)]) (st' := [zi l3, zi (zI h 77 i2)]) (h' := h) rfl ?_
        refine zb_if (j := 56) (j2 := 45) e rfl (fun e => ?_) (fun e => ?_)
        · refine zwp.go (m := 5) (j := 33) (ls' := [some (zr ((52, 11, 0) : zF)), some (zi l1), some (zi (1 : Int32)), some (zi l3), some (zi (l4 + (1 : Int32)))]) (st' := []) (h' := h) rfl ?_
          exact ih l1 (1 : Int32) l3 (l4 + (1 : Int32)) h _ hR e
        · refine zwp.go (m := 2) (j := 47) (ls' := [some (zr ((52, 11, 0) : zF)), some (zi l1), some (zi l2), some (zi l3), some (zi l4)]) (st' := [zr ((52, 11, 0) : zF), zr ((52, 11, 0) : zF)]) (h' := h) rfl ?_
          refine zc_sr (r := ((76, 20, 8) : zF)) (zrf (a := 52) (y := 48) hR rfl (hρ 52 48 rfl)) rfl ?_
          refine zwp.go (m := 1) (j := 49) (ls' := [some (zr ((52, 11, 0) : zF)), some (zi l1), some (zi l2), some (zi l3), some (zi l4)]) (st' := [zi l4, zr ((76, 20, 8) : zF), zr ((52, 11, 0) : zF)]) (h' := h) rfl ?_
          refine zc_ai e (fun _ => rfl) (fun i3 e => ?_)
          refine zc_cp (d := d + 4) e (fun q e => s_X11_isGone_ok (d + 4) ρ hρ (zI h 76 i3) h q hR e) rfl rfl (fun v4 e => ?_)
          refine zwp.go (m := 1) (j := 52) (ls' := [some (zr ((52, 11, 0) : zF)), some (zi l1), some (zi l2), some (zi l3), some (zi l4)]) (st' := [zr ((52, 11, 0) : zF), zi v4]) (h' := h) rfl ?_
          refine zc_sr (r := ((79, 22, 8) : zF)) (zrf (a := 52) (y := 51) hR rfl (hρ 52 51 rfl)) rfl ?_
          refine zwp.go (m := 1) (j := 54) (ls' := [some (zr ((52, 11, 0) : zF)), some (zi l1), some (zi l2), some (zi l3), some (zi l4)]) (st' := [zi l4, zr ((79, 22, 8) : zF), zi v4]) (h' := h) rfl ?_
          refine zc_ai e (fun _ => rfl) (fun i5 e => ?_)
          refine zb_if (j := 58) (j2 := 56) e rfl (fun e => ?_) (fun e => ?_)
          · refine zwp.go (m := 4) (j := 33) (ls' := [some (zr ((52, 11, 0) : zF)), some (zi l1), some (zi (0 : Int32)), some (zi l3), some (zi (l4 + (1 : Int32)))]) (st' := []) (h' := h) rfl ?_
            exact ih l1 (0 : Int32) l3 (l4 + (1 : Int32)) h _ hR e
          · refine zwp.go (m := 5) (j := 33) (ls' := [some (zr ((52, 11, 0) : zF)), some (zi l1), some (zi (1 : Int32)), some (zi l3), some (zi (l4 + (1 : Int32)))]) (st' := []) (h' := h) rfl ?_
            exact ih l1 (1 : Int32) l3 (l4 + (1 : Int32)) h _ hR e
def s_X11_isAsSeen_L26 : Nat → Int32 → Int32 → Int32 → zH → Option (Int32 × zH)
  | 0, _, _, _, _ => none
  | n + 1, l1, l2, l3, h => if l1 < l3 then (s_X11_isAsSeen_J66 l2 h) else (if l2 = 0 then (s_X11_isAsSeen_J66 l2 h) else (s_X11_isAsSeen_L33 (s_X11_isAsSeen_L26 n) zfu l1 l2 l3 (0 : Int32) h))
set_option maxRecDepth 100000 in
theorem s_X11_isAsSeen_L26_ok (d : Nat) (ρ : Nat → Nat → Option zF) (hρ : zSh ρ) : ∀ (n : Nat) (l1 : Int32) (l2 : Int32) (l3 : Int32) (h : zH) (res : Int32 × zH) (hR : zRq h ρ) (e : s_X11_isAsSeen_L26  n l1 l2 l3 h = some res), zwp (d + 5) zm_X11_isAsSeen 26 [some (zr ((52, 11, 0) : zF)), some (zi l1), some (zi l2), some (zi l3), none] [] h (zQi ρ res) := by
  intro n
  induction n with
  | zero => intro l1 l2 l3 h res hR e; cases e
  | succ n ih =>
    intro l1 l2 l3 h res hR e
    rw [s_X11_isAsSeen_L26] at e
    refine zwp.go (m := 2) (j := 28) (ls' := [some (zr ((52, 11, 0) : zF)), some (zi l1), some (zi l2), some (zi l3), none]) (st' := [zi l1, zi l3]) (h' := h) rfl ?_
    refine zb_if (j := 66) (j2 := 29) e rfl (fun e => ?_) (fun e => ?_)
    · refine zwp.fg (a := [some (zr ((52, 11, 0) : zF)), none, some (zi l2), none, none]) (And.intro rfl (And.intro rfl trivial)) ?_
      exact s_X11_isAsSeen_J66_ok d ρ hρ l2 h _ hR e
    · refine zwp.go (m := 1) (j := 30) (ls' := [some (zr ((52, 11, 0) : zF)), some (zi l1), some (zi l2), some (zi l3), none]) (st' := [zi l2]) (h' := h) rfl ?_
      refine zb_if (j := 66) (j2 := 31) e rfl (fun e => ?_) (fun e => ?_)
      · refine zwp.fg (a := [some (zr ((52, 11, 0) : zF)), none, some (zi l2), none, none]) (And.intro rfl (And.intro rfl trivial)) ?_
        exact s_X11_isAsSeen_J66_ok d ρ hρ l2 h _ hR e
      · refine zwp.go (m := 2) (j := 33) (ls' := [some (zr ((52, 11, 0) : zF)), some (zi l1), some (zi l2), some (zi l3), some (zi (0 : Int32))]) (st' := []) (h' := h) rfl ?_
        exact s_X11_isAsSeen_L33_ok d ρ hρ (s_X11_isAsSeen_L26 n) ih zfu l1 l2 l3 (0 : Int32) h _ hR e
def s_X11_isAsSeen_L9 : Nat → Int32 → Int32 → zH → Option (Int32 × zH)
  | 0, _, _, _ => none
  | n + 1, l1, l2, h => if (zI h 52 36) ≤ l2 then (s_X11_isAsSeen_L26 zfu l1 (1 : Int32) (0 : Int32) h) else (zix l2 8 fun i1 => (s_J9_max_7cf53 l1 (zI h 77 i1) h).bind fun v2 => s_X11_isAsSeen_L9 n v2 (l2 + (1 : Int32)) h)
set_option maxRecDepth 100000 in
theorem s_X11_isAsSeen_L9_ok (d : Nat) (ρ : Nat → Nat → Option zF) (hρ : zSh ρ) : ∀ (n : Nat) (l1 : Int32) (l2 : Int32) (h : zH) (res : Int32 × zH) (hR : zRq h ρ) (e : s_X11_isAsSeen_L9  n l1 l2 h = some res), zwp (d + 5) zm_X11_isAsSeen 9 [some (zr ((52, 11, 0) : zF)), some (zi l1), some (zi l2), none, none] [] h (zQi ρ res) := by
  intro n
  induction n with
  | zero => intro l1 l2 h res hR e; cases e
  | succ n ih =>
    intro l1 l2 h res hR e
    rw [s_X11_isAsSeen_L9] at e
    refine zwp.go (m := 3) (j := 12) (ls' := [some (zr ((52, 11, 0) : zF)), some (zi l1), some (zi l2), none, none]) (st' := [zi (zI h 52 36), zi l2]) (h' := h) rfl ?_
    refine zb_if (j := 22) (j2 := 13) e rfl (fun e => ?_) (fun e => ?_)
    · refine zwp.go (m := 4) (j := 26) (ls' := [some (zr ((52, 11, 0) : zF)), some (zi l1), some (zi (1 : Int32)), some (zi (0 : Int32)), none]) (st' := []) (h' := h) rfl ?_
      exact s_X11_isAsSeen_L26_ok d ρ hρ zfu l1 (1 : Int32) (0 : Int32) h _ hR e
    · refine zwp.go (m := 2) (j := 15) (ls' := [some (zr ((52, 11, 0) : zF)), some (zi l1), some (zi l2), none, none]) (st' := [zr ((52, 11, 0) : zF), zi l1]) (h' := h) rfl ?_
      refine zc_sr (r := ((77, 20, 8) : zF)) (zrf (a := 52) (y := 49) hR rfl (hρ 52 49 rfl)) rfl ?_
      refine zwp.go (m := 1) (j := 17) (ls' := [some (zr ((52, 11, 0) : zF)), some (zi l1), some (zi l2), none, none]) (st' := [zi l2, zr ((77, 20, 8) : zF), zi l1]) (h' := h) rfl ?_
      refine zc_ai e (fun _ => rfl) (fun i1 e => ?_)
      refine zc_cp (d := d + 4) e (fun q e => s_J9_max_7cf53_ok (d + 4) ρ hρ l1 (zI h 77 i1) h q hR e) rfl rfl (fun v2 e => ?_)
      refine zwp.go (m := 3) (j := 9) (ls' := [some (zr ((52, 11, 0) : zF)), some (zi v2), some (zi (l2 + (1 : Int32))), none, none]) (st' := []) (h' := h) rfl ?_
      exact ih v2 (l2 + (1 : Int32)) h _ hR e
def s_X11_isAsSeen (h : zH) : Option (Int32 × zH) := (s_X11_pack 78 38 (0 : Int32) h).bind fun h1 => s_X11_isAsSeen_L9 zfu (0 : Int32) (0 : Int32) h1
set_option maxRecDepth 100000 in
theorem s_X11_isAsSeen_ok (d : Nat) (ρ : Nat → Nat → Option zF) (hρ : zSh ρ) (h : zH) (res : Int32 × zH) (hR : zRq h ρ) (e : s_X11_isAsSeen  h = some res) : zcl (d + 5) 270 [zr ((52, 11, 0) : zF)] h (zQi ρ res) := by
  rw [s_X11_isAsSeen] at e
  refine ⟨zm_X11_isAsSeen, rfl, ?_⟩
  show zwp (d + 5) zm_X11_isAsSeen 0 [some (zr ((52, 11, 0) : zF)), none, none, none, none] [] h _
  refine zwp.go (m := 2) (j := 2) (ls' := [some (zr ((52, 11, 0) : zF)), none, none, none, none]) (st' := [zr ((52, 11, 0) : zF), zr ((52, 11, 0) : zF)]) (h' := h) rfl ?_
  refine zc_sr (r := ((78, 20, 38) : zF)) (zrf (a := 52) (y := 50) hR rfl (hρ 52 50 rfl)) rfl ?_
  refine zwp.go (m := 1) (j := 4) (ls' := [some (zr ((52, 11, 0) : zF)), none, none, none, none]) (st' := [zi (0 : Int32), zr ((78, 20, 38) : zF), zr ((52, 11, 0) : zF)]) (h' := h) rfl ?_
  refine zc_cv (d := d + 4) e (fun q e => s_X11_pack_ok (d + 4) ρ hρ 78 38 (0 : Int32) h q hR e) rfl rfl (fun h1 hR1 e => ?_)
  refine zwp.go (m := 4) (j := 9) (ls' := [some (zr ((52, 11, 0) : zF)), some (zi (0 : Int32)), some (zi (0 : Int32)), none, none]) (st' := []) (h' := h1) rfl ?_
  exact s_X11_isAsSeen_L9_ok d ρ hρ zfu (0 : Int32) (0 : Int32) h1 _ hR1 e
