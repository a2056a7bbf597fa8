/-! ===== methods as functions, 9 ===== -/
def s_X11_tellFits_L18 (k5 : (Int32 → zH → Option (zH))) : Nat → Int32 → Int32 → Int32 → zH → Option (zH)
  | 0, _, _, _, _ => none
  | n + 1, l1, l2, l3, h => if (99 : Int32) < l3 then (zix l1 12 fun i2 => zlt (zwI h 64 i2 l2) fun h1 => k5 (l1 + (1 : Int32)) h1) else (zix l1 12 fun i9 => zlt (zwI h 64 i9 l3) fun h3 => if l3 = l2 then (s_X11_tellFits_L18 k5 n l1 l2 (l3 + (1 : Int32)) h3) else (zbd (s_X11_isAsSeen h3) fun v5 h4 => if ¬ v5 = 0 then (zix (zI h4 52 54) 1188 fun i8 => zlt (zwI h4 80 i8 (((100 : Int32) * l1) + l3)) fun h6 => zlt (zwI h6 52 54 ((zI h6 52 54) + (1 : Int32))) fun h7 => s_X11_tellFits_L18 k5 n l1 l2 (l3 + (1 : Int32)) h7) else (s_X11_tellFits_L18 k5 n l1 l2 (l3 + (1 : Int32)) h4)))
set_option maxRecDepth 100000 in
theorem s_X11_tellFits_L18_ok (d : Nat) (ρ : Nat → Nat → Option zF) (hρ : zSh ρ) (k5 : (Int32 → zH → Option (zH))) (hk5 : ∀ l1 h res, zRq h ρ → k5 l1 h = some res → zwp (d + 6) zm_X11_tellFits 5 [some (zr ((52, 11, 0) : zF)), some (zi l1), none, none] [] h (zQv ρ res)) : ∀ (n : Nat) (l1 : Int32) (l2 : Int32) (l3 : Int32) (h : zH) (res : zH) (hR : zRq h ρ) (e : s_X11_tellFits_L18 k5 n l1 l2 l3 h = some res), zwp (d + 6) zm_X11_tellFits 18 [some (zr ((52, 11, 0) : zF)), some (zi l1), some (zi l2), some (zi l3)] [] h (zQv ρ res) := by
  intro n
  induction n with
  | zero => intro l1 l2 l3 h res hR e; cases e
  | succ n ih =>
    intro l1 l2 l3 h res hR e
    rw [s_X11_tellFits_L18] at e
    refine zwp.go (m := 2) (j := 20) (ls' := [some (zr ((52, 11, 0) : zF)), some (zi l1), some (zi l2), some (zi l3)]) (st' := [zi (99 : Int32), zi l3]) (h' := h) rfl ?_
    refine zb_if (j := 51) (j2 := 21) e rfl (fun e => ?_) (fun e => ?_)
    · refine zwp.go (m := 1) (j := 52) (ls' := [some (zr ((52, 11, 0) : zF)), some (zi l1), some (zi l2), some (zi l3)]) (st' := [zr ((52, 11, 0) : zF)]) (h' := h) rfl ?_
      refine zc_sr (r := ((64, 20, 12) : zF)) (zrf (a := 52) (y := 24) hR rfl (hρ 52 24 rfl)) rfl ?_
      refine zwp.go (m := 2) (j := 55) (ls' := [some (zr ((52, 11, 0) : zF)), some (zi l1), some (zi l2), some (zi l3)]) (st' := [zi l2, zi l1, zr ((64, 20, 12) : zF)]) (h' := h) rfl ?_
      refine zc_si e (fun _ => rfl) hR (fun h1 hR1 e => ?_)
      refine zwp.go (m := 2) (j := 5) (ls' := [some (zr ((52, 11, 0) : zF)), some (zi (l1 + (1 : Int32))), some (zi l2), some (zi l3)]) (st' := []) (h' := h1) rfl ?_
      refine zwp.fg (a := [some (zr ((52, 11, 0) : zF)), some (zi (l1 + (1 : Int32))), none, none]) (And.intro rfl (And.intro rfl trivial)) ?_
      exact hk5 (l1 + (1 : Int32)) h1 _ hR1 e
    · refine zwp.go (m := 1) (j := 22) (ls' := [some (zr ((52, 11, 0) : zF)), some (zi l1), some (zi l2), some (zi l3)]) (st' := [zr ((52, 11, 0) : zF)]) (h' := h) rfl ?_
      refine zc_sr (r := ((64, 20, 12) : zF)) (zrf (a := 52) (y := 24) hR rfl (hρ 52 24 rfl)) rfl ?_
      refine zwp.go (m := 2) (j := 25) (ls' := [some (zr ((52, 11, 0) : zF)), some (zi l1), some (zi l2), some (zi l3)]) (st' := [zi l3, zi l1, zr ((64, 20, 12) : zF)]) (h' := h) rfl ?_
      refine zc_si e (fun _ => rfl) hR (fun h3 hR3 e => ?_)
      refine zwp.go (m := 2) (j := 28) (ls' := [some (zr ((52, 11, 0) : zF)), some (zi l1), some (zi l2), some (zi l3)]) (st' := [zi l2, zi l3]) (h' := h3) rfl ?_
      refine zb_if (j := 49) (j2 := 29) e rfl (fun e => ?_) (fun e => ?_)
      · refine zwp.go (m := 2) (j := 18) (ls' := [some (zr ((52, 11, 0) : zF)), some (zi l1), some (zi l2), some (zi (l3 + (1 : Int32)))]) (st' := []) (h' := h3) rfl ?_
        exact ih l1 l2 (l3 + (1 : Int32)) h3 _ hR3 e
      · refine zwp.go (m := 1) (j := 30) (ls' := [some (zr ((52, 11, 0) : zF)), some (zi l1), some (zi l2), some (zi l3)]) (st' := [zr ((52, 11, 0) : zF)]) (h' := h3) rfl ?_
        refine zc_ci (d := d + 5) e (fun q e => s_X11_isAsSeen_ok (d + 0) ρ hρ h3 q hR3 e) rfl rfl (fun v5 h4 hR4 e => ?_)
        refine zb_if (j := 33) (j2 := 32) e rfl (fun e => ?_) (fun e => ?_)
        · refine zwp.go (m := 1) (j := 34) (ls' := [some (zr ((52, 11, 0) : zF)), some (zi l1), some (zi l2), some (zi l3)]) (st' := [zr ((52, 11, 0) : zF)]) (h' := h4) rfl ?_
          refine zc_sr (r := ((80, 20, 1188) : zF)) (zrf (a := 52) (y := 52) hR4 rfl (hρ 52 52 rfl)) rfl ?_
          refine zwp.go (m := 7) (j := 42) (ls' := [some (zr ((52, 11, 0) : zF)), some (zi l1), some (zi l2), some (zi l3)]) (st' := [zi (((100 : Int32) * l1) + l3), zi (zI h4 52 54), zr ((80, 20, 1188) : zF)]) (h' := h4) rfl ?_
          refine zc_si e (fun _ => rfl) hR4 (fun h6 hR6 e => ?_)
          refine zwp.go (m := 5) (j := 48) (ls' := [some (zr ((52, 11, 0) : zF)), some (zi l1), some (zi l2), some (zi l3)]) (st' := [zi ((zI h6 52 54) + (1 : Int32)), zr ((52, 11, 0) : zF)]) (h' := h6) rfl ?_
          refine zc_w e rfl hR6 (fun h7 hR7 e => ?_)
          refine zwp.go (m := 2) (j := 18) (ls' := [some (zr ((52, 11, 0) : zF)), some (zi l1), some (zi l2), some (zi (l3 + (1 : Int32)))]) (st' := []) (h' := h7) rfl ?_
          exact ih l1 l2 (l3 + (1 : Int32)) h7 _ hR7 e
        · refine zwp.go (m := 3) (j := 18) (ls' := [some (zr ((52, 11, 0) : zF)), some (zi l1), some (zi l2), some (zi (l3 + (1 : Int32)))]) (st' := []) (h' := h4) rfl ?_
          exact ih l1 l2 (l3 + (1 : Int32)) h4 _ hR4 e
def s_X11_tellFits_L5 : Nat → Int32 → zH → Option (zH)
  | 0, _, _ => none
  | n + 1, l1, h => if (zI h 56 0) ≤ l1 then (some h) else (zix l1 12 fun i1 => s_X11_tellFits_L18 (s_X11_tellFits_L5 n) zfu l1 (zI h 64 i1) (1 : Int32) h)
set_option maxRecDepth 100000 in
theorem s_X11_tellFits_L5_ok (d : Nat) (ρ : Nat → Nat → Option zF) (hρ : zSh ρ) : ∀ (n : Nat) (l1 : Int32) (h : zH) (res : zH) (hR : zRq h ρ) (e : s_X11_tellFits_L5  n l1 h = some res), zwp (d + 6) zm_X11_tellFits 5 [some (zr ((52, 11, 0) : zF)), some (zi l1), none, none] [] h (zQv ρ res) := by
  intro n
  induction n with
  | zero => intro l1 h res hR e; cases e
  | succ n ih =>
    intro l1 h res hR e
    rw [s_X11_tellFits_L5] at e
    refine zwp.go (m := 2) (j := 7) (ls' := [some (zr ((52, 11, 0) : zF)), some (zi l1), none, none]) (st' := [zr ((52, 11, 0) : zF), zi l1]) (h' := h) rfl ?_
    refine zc_sr (r := ((56, 20, 12) : zF)) (zrf (a := 52) (y := 5) hR rfl (hρ 52 5 rfl)) rfl ?_
    refine zwp.go (m := 2) (j := 10) (ls' := [some (zr ((52, 11, 0) : zF)), some (zi l1), none, none]) (st' := [zi (zI h 56 0), zi l1]) (h' := h) rfl ?_
    refine zb_if (j := 58) (j2 := 11) e rfl (fun e => ?_) (fun e => ?_)
    · cases e
      exact zwp.rv rfl ⟨⟨rfl, rfl⟩, hR⟩
    · refine zwp.go (m := 1) (j := 12) (ls' := [some (zr ((52, 11, 0) : zF)), some (zi l1), none, none]) (st' := [zr ((52, 11, 0) : zF)]) (h' := h) rfl ?_
      refine zc_sr (r := ((64, 20, 12) : zF)) (zrf (a := 52) (y := 24) hR rfl (hρ 52 24 rfl)) rfl ?_
      refine zwp.go (m := 1) (j := 14) (ls' := [some (zr ((52, 11, 0) : zF)), some (zi l1), none, none]) (st' := [zi l1, zr ((64, 20, 12) : zF)]) (h' := h) rfl ?_
      refine zc_ai e (fun _ => rfl) (fun i1 e => ?_)
      refine zwp.go (m := 3) (j := 18) (ls' := [some (zr ((52, 11, 0) : zF)), some (zi l1), some (zi (zI h 64 i1)), some (zi (1 : Int32))]) (st' := []) (h' := h) rfl ?_
      exact s_X11_tellFits_L18_ok d ρ hρ (s_X11_tellFits_L5 n) ih zfu l1 (zI h 64 i1) (1 : Int32) h _ hR e
def s_X11_tellFits (h : zH) : Option (zH) := zlt (zwI h 52 54 (0 : Int32)) fun h1 => s_X11_tellFits_L5 zfu (0 : Int32) h1
set_option maxRecDepth 100000 in
theorem s_X11_tellFits_ok (d : Nat) (ρ : Nat → Nat → Option zF) (hρ : zSh ρ) (h : zH) (res : zH) (hR : zRq h ρ) (e : s_X11_tellFits  h = some res) : zcl (d + 6) 271 [zr ((52, 11, 0) : zF)] h (zQv ρ res) := by
  rw [s_X11_tellFits] at e
  refine ⟨zm_X11_tellFits, rfl, ?_⟩
  show zwp (d + 6) zm_X11_tellFits 0 [some (zr ((52, 11, 0) : zF)), none, none, none] [] h _
  refine zwp.go (m := 2) (j := 2) (ls' := [some (zr ((52, 11, 0) : zF)), none, none, none]) (st' := [zi (0 : Int32), zr ((52, 11, 0) : zF)]) (h' := h) rfl ?_
  refine zc_w e rfl hR (fun h1 hR1 e => ?_)
  refine zwp.go (m := 2) (j := 5) (ls' := [some (zr ((52, 11, 0) : zF)), some (zi (0 : Int32)), none, none]) (st' := []) (h' := h1) rfl ?_
  exact s_X11_tellFits_L5_ok d ρ hρ zfu (0 : Int32) h1 _ hR1 e
def s_X11_strong (a1 : Int32) (h : zH) : Option (Int32 × zH) := zlt (zwI h 52 4 (0 : Int32)) fun h1 => (s_X11_isIn a1.toInt64 (0 : Int64) (2 : Int64) h1).bind fun v2 => if ¬ v2 = 0 then (if ¬ a1 = (2 : Int32) then ((s_X11_tellFits h1).bind fun h3 => if ¬ a1 = 0 then (if ¬ (zI h3 52 54) = 0 then (some ((zI h3 80 0), h3)) else (some ((-1 : Int32), h3))) else (some ((zI h3 52 54), h3))) else (zbd (s_X11_isAsSeen h1) fun v5 h4 => if v5 = 0 then (some ((0 : Int32), h4)) else (some ((1 : Int32), h4)))) else (zbd (s_X11_fail (1 : Int32) h1) fun v7 h6 => some (v7, h6))
set_option maxRecDepth 100000 in
theorem s_X11_strong_ok (d : Nat) (ρ : Nat → Nat → Option zF) (hρ : zSh ρ) (a1 : Int32) (h : zH) (res : Int32 × zH) (hR : zRq h ρ) (e : s_X11_strong a1 h = some res) : zcl (d + 7) 272 [zr ((52, 11, 0) : zF), zi a1] h (zQi ρ res) := by
  rw [s_X11_strong] at e
  refine ⟨zm_X11_strong, rfl, ?_⟩
  show zwp (d + 7) zm_X11_strong 0 [some (zr ((52, 11, 0) : zF)), some (zi a1)] [] h _
  refine zwp.go (m := 2) (j := 2) (ls' := [some (zr ((52, 11, 0) : zF)), some (zi a1)]) (st' := [zi (0 : Int32), zr ((52, 11, 0) : zF)]) (h' := h) rfl ?_
  refine zc_w e rfl hR (fun h1 hR1 e => ?_)
  refine zwp.go (m := 4) (j := 7) (ls' := [some (zr ((52, 11, 0) : zF)), some (zi a1)]) (st' := [zl (2 : Int64), zl (0 : Int64), zl a1.toInt64]) (h' := h1) rfl ?_
  refine zc_cp (d := d + 6) e (fun q e => s_X11_isIn_ok (d + 6) ρ hρ a1.toInt64 (0 : Int64) (2 : Int64) h1 q hR1 e) rfl rfl (fun v2 e => ?_)
  refine zb_if (j := 13) (j2 := 9) e rfl (fun e => ?_) (fun e => ?_)
  · refine zwp.go (m := 2) (j := 15) (ls' := [some (zr ((52, 11, 0) : zF)), some (zi a1)]) (st' := [zi (2 : Int32), zi a1]) (h' := h1) rfl ?_
    refine zb_if (j := 23) (j2 := 16) e rfl (fun e => ?_) (fun e => ?_)
    · refine zwp.go (m := 1) (j := 24) (ls' := [some (zr ((52, 11, 0) : zF)), some (zi a1)]) (st' := [zr ((52, 11, 0) : zF)]) (h' := h1) rfl ?_
      refine zc_cv (d := d + 6) e (fun q e => s_X11_tellFits_ok (d + 0) ρ hρ h1 q hR1 e) rfl rfl (fun h3 hR3 e => ?_)
      refine zwp.go (m := 1) (j := 26) (ls' := [some (zr ((52, 11, 0) : zF)), some (zi a1)]) (st' := [zi a1]) (h' := h3) rfl ?_
      refine zb_if (j := 30) (j2 := 27) e rfl (fun e => ?_) (fun e => ?_)
      · refine zwp.go (m := 2) (j := 32) (ls' := [some (zr ((52, 11, 0) : zF)), some (zi a1)]) (st' := [zi (zI h3 52 54)]) (h' := h3) rfl ?_
        refine zb_if (j := 35) (j2 := 33) e rfl (fun e => ?_) (fun e => ?_)
        · refine zwp.go (m := 1) (j := 36) (ls' := [some (zr ((52, 11, 0) : zF)), some (zi a1)]) (st' := [zr ((52, 11, 0) : zF)]) (h' := h3) rfl ?_
          refine zc_sr (r := ((80, 20, 1188) : zF)) (zrf (a := 52) (y := 52) hR3 rfl (hρ 52 52 rfl)) rfl ?_
          refine zwp.go (m := 2) (j := 39) (ls' := [some (zr ((52, 11, 0) : zF)), some (zi a1)]) (st' := [zi (zI h3 80 0)]) (h' := h3) rfl ?_
          cases e
          exact zwp.ret rfl rfl ⟨⟨rfl, rfl⟩, hR3⟩
        · refine zwp.go (m := 2) (j := 39) (ls' := [some (zr ((52, 11, 0) : zF)), some (zi a1)]) (st' := [zi (-1 : Int32)]) (h' := h3) rfl ?_
          cases e
          exact zwp.ret rfl rfl ⟨⟨rfl, rfl⟩, hR3⟩
      · refine zwp.go (m := 3) (j := 39) (ls' := [some (zr ((52, 11, 0) : zF)), some (zi a1)]) (st' := [zi (zI h3 52 54)]) (h' := h3) rfl ?_
        cases e
        exact zwp.ret rfl rfl ⟨⟨rfl, rfl⟩, hR3⟩
    · refine zwp.go (m := 1) (j := 17) (ls' := [some (zr ((52, 11, 0) : zF)), some (zi a1)]) (st' := [zr ((52, 11, 0) : zF)]) (h' := h1) rfl ?_
      refine zc_ci (d := d + 6) e (fun q e => s_X11_isAsSeen_ok (d + 1) ρ hρ h1 q hR1 e) rfl rfl (fun v5 h4 hR4 e => ?_)
      refine zb_if (j := 21) (j2 := 19) e rfl (fun e => ?_) (fun e => ?_)
      · refine zwp.go (m := 1) (j := 22) (ls' := [some (zr ((52, 11, 0) : zF)), some (zi a1)]) (st' := [zi (0 : Int32)]) (h' := h4) rfl ?_
        cases e
        exact zwp.ret rfl rfl ⟨⟨rfl, rfl⟩, hR4⟩
      · refine zwp.go (m := 2) (j := 22) (ls' := [some (zr ((52, 11, 0) : zF)), some (zi a1)]) (st' := [zi (1 : Int32)]) (h' := h4) rfl ?_
        cases e
        exact zwp.ret rfl rfl ⟨⟨rfl, rfl⟩, hR4⟩
  · refine zwp.go (m := 2) (j := 11) (ls' := [some (zr ((52, 11, 0) : zF)), some (zi a1)]) (st' := [zi (1 : Int32), zr ((52, 11, 0) : zF)]) (h' := h1) rfl ?_
    refine zc_ci (d := d + 6) e (fun q e => s_X11_fail_ok (d + 6) ρ hρ (1 : Int32) h1 q hR1 e) rfl rfl (fun v7 h6 hR6 e => ?_)
    cases e
    exact zwp.ret rfl rfl ⟨⟨rfl, rfl⟩, hR6⟩
def s_X6_forgetMet_L2 : Nat → Int32 → zH → Option (zH)
  | 0, _, _ => none
  | n + 1, l1, h => if (Int32.ofNat 1344) ≤ l1 then (some h) else (zix l1 1344 fun i2 => zlt (zwL h 49 i2 (0 : Int64)) fun h1 => s_X6_forgetMet_L2 n (l1 + (1 : Int32)) h1)
set_option maxRecDepth 100000 in
theorem s_X6_forgetMet_L2_ok (d : Nat) (ρ : Nat → Nat → Option zF) (hρ : zSh ρ) : ∀ (n : Nat) (l1 : Int32) (h : zH) (res : zH) (hR : zRq h ρ) (e : s_X6_forgetMet_L2  n l1 h = some res), zwp d zm_X6_forgetMet 2 [some (zr ((47, 6, 0) : zF)), some (zi l1)] [] h (zQv ρ res) := by
  intro n
  induction n with
  | zero => intro l1 h res hR e; cases e
  | succ n ih =>
    intro l1 h res hR e
    rw [s_X6_forgetMet_L2] at e
    refine zwp.go (m := 2) (j := 4) (ls' := [some (zr ((47, 6, 0) : zF)), some (zi l1)]) (st' := [zr ((47, 6, 0) : zF), zi l1]) (h' := h) rfl ?_
    refine zc_sr (r := ((49, 23, 1344) : zF)) (zrf (a := 47) (y := 3) hR rfl (hρ 47 3 rfl)) rfl ?_
    refine zwp.go (m := 1) (j := 6) (ls' := [some (zr ((47, 6, 0) : zF)), some (zi l1)]) (st' := [zi (Int32.ofNat 1344), zi l1]) (h' := h) rfl ?_
    refine zb_if (j := 14) (j2 := 7) e rfl (fun e => ?_) (fun e => ?_)
    · cases e
      exact zwp.rv rfl ⟨⟨rfl, rfl⟩, hR⟩
    · refine zwp.go (m := 1) (j := 8) (ls' := [some (zr ((47, 6, 0) : zF)), some (zi l1)]) (st' := [zr ((47, 6, 0) : zF)]) (h' := h) rfl ?_
      refine zc_sr (r := ((49, 23, 1344) : zF)) (zrf (a := 47) (y := 3) hR rfl (hρ 47 3 rfl)) rfl ?_
      refine zwp.go (m := 2) (j := 11) (ls' := [some (zr ((47, 6, 0) : zF)), some (zi l1)]) (st' := [zl (0 : Int64), zi l1, zr ((49, 23, 1344) : zF)]) (h' := h) rfl ?_
      refine zc_sl e (fun _ => rfl) hR (fun h1 hR1 e => ?_)
      refine zwp.go (m := 2) (j := 2) (ls' := [some (zr ((47, 6, 0) : zF)), some (zi (l1 + (1 : Int32)))]) (st' := []) (h' := h1) rfl ?_
      exact ih (l1 + (1 : Int32)) h1 _ hR1 e
def s_X6_forgetMet (h : zH) : Option (zH) := s_X6_forgetMet_L2 zfu (0 : Int32) h
set_option maxRecDepth 100000 in
theorem s_X6_forgetMet_ok (d : Nat) (ρ : Nat → Nat → Option zF) (hρ : zSh ρ) (h : zH) (res : zH) (hR : zRq h ρ) (e : s_X6_forgetMet  h = some res) : zcl d 273 [zr ((47, 6, 0) : zF)] h (zQv ρ res) := by
  rw [s_X6_forgetMet] at e
  refine ⟨zm_X6_forgetMet, rfl, ?_⟩
  show zwp d zm_X6_forgetMet 0 [some (zr ((47, 6, 0) : zF)), none] [] h _
  refine zwp.go (m := 2) (j := 2) (ls' := [some (zr ((47, 6, 0) : zF)), some (zi (0 : Int32))]) (st' := []) (h' := h) rfl ?_
  exact s_X6_forgetMet_L2_ok d ρ hρ zfu (0 : Int32) h _ hR e
def s_X6_meet_L2 : Nat → Int32 → zH → Option (zH)
  | 0, _, _ => none
  | n + 1, l1, h => if (20 : Int32) < l1 then (some h) else (zix l1 21 fun i1 => zix ((l1 * (64 : Int32)) + ((zI h 48 i1) >>> ((6 : Int32) &&& 31))) 1344 fun i2 => zix l1 21 fun i3 => zix ((l1 * (64 : Int32)) + ((zI h 48 i1) >>> ((6 : Int32) &&& 31))) 1344 fun i5 => zlt (zwL h 49 i5 ((zL h 49 i2) ||| ((1 : Int64) <<< (((zI h 48 i3) &&& (63 : Int32)).toInt64 &&& 63)))) fun h4 => s_X6_meet_L2 n (l1 + (1 : Int32)) h4)
set_option maxRecDepth 100000 in
theorem s_X6_meet_L2_ok (d : Nat) (ρ : Nat → Nat → Option zF) (hρ : zSh ρ) : ∀ (n : Nat) (l1 : Int32) (h : zH) (res : zH) (hR : zRq h ρ) (e : s_X6_meet_L2  n l1 h = some res), zwp d zm_X6_meet 2 [some (zr ((47, 6, 0) : zF)), some (zi l1)] [] h (zQv ρ res) := by
  intro n
  induction n with
  | zero => intro l1 h res hR e; cases e
  | succ n ih =>
    intro l1 h res hR e
    rw [s_X6_meet_L2] at e
    refine zwp.go (m := 2) (j := 4) (ls' := [some (zr ((47, 6, 0) : zF)), some (zi l1)]) (st' := [zi (20 : Int32), zi l1]) (h' := h) rfl ?_
    refine zb_if (j := 31) (j2 := 5) e rfl (fun e => ?_) (fun e => ?_)
    · cases e
      exact zwp.rv rfl ⟨⟨rfl, rfl⟩, hR⟩
    · refine zwp.go (m := 1) (j := 6) (ls' := [some (zr ((47, 6, 0) : zF)), some (zi l1)]) (st' := [zr ((47, 6, 0) : zF)]) (h' := h) rfl ?_
      refine zc_sr (r := ((49, 23, 1344) : zF)) (zrf (a := 47) (y := 3) hR rfl (hρ 47 3 rfl)) rfl ?_
      refine zwp.go (m := 4) (j := 11) (ls' := [some (zr ((47, 6, 0) : zF)), some (zi l1)]) (st' := [zr ((47, 6, 0) : zF), zi (l1 * (64 : Int32)), zr ((49, 23, 1344) : zF)]) (h' := h) rfl ?_
      refine zc_sr (r := ((48, 20, 21) : zF)) (zrf (a := 47) (y := 2) hR rfl (hρ 47 2 rfl)) rfl ?_
      refine zwp.go (m := 1) (j := 13) (ls' := [some (zr ((47, 6, 0) : zF)), some (zi l1)]) (st' := [zi l1, zr ((48, 20, 21) : zF), zi (l1 * (64 : Int32)), zr ((49, 23, 1344) : zF)]) (h' := h) rfl ?_
      refine zc_ai e (fun _ => rfl) (fun i1 e => ?_)
      refine zwp.go (m := 4) (j := 18) (ls' := [some (zr ((47, 6, 0) : zF)), some (zi l1)]) (st' := [zi ((l1 * (64 : Int32)) + ((zI h 48 i1) >>> ((6 : Int32) &&& 31))), zr ((49, 23, 1344) : zF), zi ((l1 * (64 : Int32)) + ((zI h 48 i1) >>> ((6 : Int32) &&& 31))), zr ((49, 23, 1344) : zF)]) (h' := h) rfl ?_
      refine zc_al e (fun _ => rfl) (fun i2 e => ?_)
      refine zwp.go (m := 2) (j := 21) (ls' := [some (zr ((47, 6, 0) : zF)), some (zi l1)]) (st' := [zr ((47, 6, 0) : zF), zl (1 : Int64), zl (zL h 49 i2), zi ((l1 * (64 : Int32)) + ((zI h 48 i1) >>> ((6 : Int32) &&& 31))), zr ((49, 23, 1344) : zF)]) (h' := h) rfl ?_
      refine zc_sr (r := ((48, 20, 21) : zF)) (zrf (a := 47) (y := 2) hR rfl (hρ 47 2 rfl)) rfl ?_
      refine zwp.go (m := 1) (j := 23) (ls' := [some (zr ((47, 6, 0) : zF)), some (zi l1)]) (st' := [zi l1, zr ((48, 20, 21) : zF), zl (1 : Int64), zl (zL h 49 i2), zi ((l1 * (64 : Int32)) + ((zI h 48 i1) >>> ((6 : Int32) &&& 31))), zr ((49, 23, 1344) : zF)]) (h' := h) rfl ?_
      refine zc_ai e (fun _ => rfl) (fun i3 e => ?_)
      refine zwp.go (m := 4) (j := 28) (ls' := [some (zr ((47, 6, 0) : zF)), some (zi l1)]) (st' := [zl ((zL h 49 i2) ||| ((1 : Int64) <<< (((zI h 48 i3) &&& (63 : Int32)).toInt64 &&& 63))), zi ((l1 * (64 : Int32)) + ((zI h 48 i1) >>> ((6 : Int32) &&& 31))), zr ((49, 23, 1344) : zF)]) (h' := h) rfl ?_
      refine zc_sl e (fun _ => rfl) hR (fun h4 hR4 e => ?_)
      refine zwp.go (m := 2) (j := 2) (ls' := [some (zr ((47, 6, 0) : zF)), some (zi (l1 + (1 : Int32)))]) (st' := []) (h' := h4) rfl ?_
      exact ih (l1 + (1 : Int32)) h4 _ hR4 e
def s_X6_meet (h : zH) : Option (zH) := s_X6_meet_L2 zfu (1 : Int32) h
set_option maxRecDepth 100000 in
theorem s_X6_meet_ok (d : Nat) (ρ : Nat → Nat → Option zF) (hρ : zSh ρ) (h : zH) (res : zH) (hR : zRq h ρ) (e : s_X6_meet  h = some res) : zcl d 274 [zr ((47, 6, 0) : zF)] h (zQv ρ res) := by
  rw [s_X6_meet] at e
  refine ⟨zm_X6_meet, rfl, ?_⟩
  show zwp d zm_X6_meet 0 [some (zr ((47, 6, 0) : zF)), none] [] h _
  refine zwp.go (m := 2) (j := 2) (ls' := [some (zr ((47, 6, 0) : zF)), some (zi (1 : Int32))]) (st' := []) (h' := h) rfl ?_
  exact s_X6_meet_L2_ok d ρ hρ zfu (1 : Int32) h _ hR e
def s_J13_bitCount_95d88 (a0 : Int64) (h : zH) : Option (Int32) := some (((((((((a0 - ((a0.toUInt64 >>> ((1 : Int32).toInt64.toUInt64 &&& Int64.toUInt64 63)).toInt64 &&& (6148914691236517205 : Int64))) &&& (3689348814741910323 : Int64)) + (((a0 - ((a0.toUInt64 >>> ((1 : Int32).toInt64.toUInt64 &&& Int64.toUInt64 63)).toInt64 &&& (6148914691236517205 : Int64))).toUInt64 >>> ((2 : Int32).toInt64.toUInt64 &&& Int64.toUInt64 63)).toInt64 &&& (3689348814741910323 : Int64))) + ((((a0 - ((a0.toUInt64 >>> ((1 : Int32).toInt64.toUInt64 &&& Int64.toUInt64 63)).toInt64 &&& (6148914691236517205 : Int64))) &&& (3689348814741910323 : Int64)) + (((a0 - ((a0.toUInt64 >>> ((1 : Int32).toInt64.toUInt64 &&& Int64.toUInt64 63)).toInt64 &&& (6148914691236517205 : Int64))).toUInt64 >>> ((2 : Int32).toInt64.toUInt64 &&& Int64.toUInt64 63)).toInt64 &&& (3689348814741910323 : Int64))).toUInt64 >>> ((4 : Int32).toInt64.toUInt64 &&& Int64.toUInt64 63)).toInt64) &&& (1085102592571150095 : Int64)) + ((((((a0 - ((a0.toUInt64 >>> ((1 : Int32).toInt64.toUInt64 &&& Int64.toUInt64 63)).toInt64 &&& (6148914691236517205 : Int64))) &&& (3689348814741910323 : Int64)) + (((a0 - ((a0.toUInt64 >>> ((1 : Int32).toInt64.toUInt64 &&& Int64.toUInt64 63)).toInt64 &&& (6148914691236517205 : Int64))).toUInt64 >>> ((2 : Int32).toInt64.toUInt64 &&& Int64.toUInt64 63)).toInt64 &&& (3689348814741910323 : Int64))) + ((((a0 - ((a0.toUInt64 >>> ((1 : Int32).toInt64.toUInt64 &&& Int64.toUInt64 63)).toInt64 &&& (6148914691236517205 : Int64))) &&& (3689348814741910323 : Int64)) + (((a0 - ((a0.toUInt64 >>> ((1 : Int32).toInt64.toUInt64 &&& Int64.toUInt64 63)).toInt64 &&& (6148914691236517205 : Int64))).toUInt64 >>> ((2 : Int32).toInt64.toUInt64 &&& Int64.toUInt64 63)).toInt64 &&& (3689348814741910323 : Int64))).toUInt64 >>> ((4 : Int32).toInt64.toUInt64 &&& Int64.toUInt64 63)).toInt64) &&& (1085102592571150095 : Int64)).toUInt64 >>> ((8 : Int32).toInt64.toUInt64 &&& Int64.toUInt64 63)).toInt64) + (((((((a0 - ((a0.toUInt64 >>> ((1 : Int32).toInt64.toUInt64 &&& Int64.toUInt64 63)).toInt64 &&& (6148914691236517205 : Int64))) &&& (3689348814741910323 : Int64)) + (((a0 - ((a0.toUInt64 >>> ((1 : Int32).toInt64.toUInt64 &&& Int64.toUInt64 63)).toInt64 &&& (6148914691236517205 : Int64))).toUInt64 >>> ((2 : Int32).toInt64.toUInt64 &&& Int64.toUInt64 63)).toInt64 &&& (3689348814741910323 : Int64))) + ((((a0 - ((a0.toUInt64 >>> ((1 : Int32).toInt64.toUInt64 &&& Int64.toUInt64 63)).toInt64 &&& (6148914691236517205 : Int64))) &&& (3689348814741910323 : Int64)) + (((a0 - ((a0.toUInt64 >>> ((1 : Int32).toInt64.toUInt64 &&& Int64.toUInt64 63)).toInt64 &&& (6148914691236517205 : Int64))).toUInt64 >>> ((2 : Int32).toInt64.toUInt64 &&& Int64.toUInt64 63)).toInt64 &&& (3689348814741910323 : Int64))).toUInt64 >>> ((4 : Int32).toInt64.toUInt64 &&& Int64.toUInt64 63)).toInt64) &&& (1085102592571150095 : Int64)) + ((((((a0 - ((a0.toUInt64 >>> ((1 : Int32).toInt64.toUInt64 &&& Int64.toUInt64 63)).toInt64 &&& (6148914691236517205 : Int64))) &&& (3689348814741910323 : Int64)) + (((a0 - ((a0.toUInt64 >>> ((1 : Int32).toInt64.toUInt64 &&& Int64.toUInt64 63)).toInt64 &&& (6148914691236517205 : Int64))).toUInt64 >>> ((2 : Int32).toInt64.toUInt64 &&& Int64.toUInt64 63)).toInt64 &&& (3689348814741910323 : Int64))) + ((((a0 - ((a0.toUInt64 >>> ((1 : Int32).toInt64.toUInt64 &&& Int64.toUInt64 63)).toInt64 &&& (6148914691236517205 : Int64))) &&& (3689348814741910323 : Int64)) + (((a0 - ((a0.toUInt64 >>> ((1 : Int32).toInt64.toUInt64 &&& Int64.toUInt64 63)).toInt64 &&& (6148914691236517205 : Int64))).toUInt64 >>> ((2 : Int32).toInt64.toUInt64 &&& Int64.toUInt64 63)).toInt64 &&& (3689348814741910323 : Int64))).toUInt64 >>> ((4 : Int32).toInt64.toUInt64 &&& Int64.toUInt64 63)).toInt64) &&& (1085102592571150095 : Int64)).toUInt64 >>> ((8 : Int32).toInt64.toUInt64 &&& Int64.toUInt64 63)).toInt64).toUInt64 >>> ((16 : Int32).toInt64.toUInt64 &&& Int64.toUInt64 63)).toInt64) + ((((((((a0 - ((a0.toUInt64 >>> ((1 : Int32).toInt64.toUInt64 &&& Int64.toUInt64 63)).toInt64 &&& (6148914691236517205 : Int64))) &&& (3689348814741910323 : Int64)) + (((a0 - ((a0.toUInt64 >>> ((1 : Int32).toInt64.toUInt64 &&& Int64.toUInt64 63)).toInt64 &&& (6148914691236517205 : Int64))).toUInt64 >>> ((2 : Int32).toInt64.toUInt64 &&& Int64.toUInt64 63)).toInt64 &&& (3689348814741910323 : Int64))) + ((((a0 - ((a0.toUInt64 >>> ((1 : Int32).toInt64.toUInt64 &&& Int64.toUInt64 63)).toInt64 &&& (6148914691236517205 : Int64))) &&& (3689348814741910323 : Int64)) + (((a0 - ((a0.toUInt64 >>> ((1 : Int32).toInt64.toUInt64 &&& Int64.toUInt64 63)).toInt64 &&& (6148914691236517205 : Int64))).toUInt64 >>> ((2 : Int32).toInt64.toUInt64 &&& Int64.toUInt64 63)).toInt64 &&& (3689348814741910323 : Int64))).toUInt64 >>> ((4 : Int32).toInt64.toUInt64 &&& Int64.toUInt64 63)).toInt64) &&& (1085102592571150095 : Int64)) + ((((((a0 - ((a0.toUInt64 >>> ((1 : Int32).toInt64.toUInt64 &&& Int64.toUInt64 63)).toInt64 &&& (6148914691236517205 : Int64))) &&& (3689348814741910323 : Int64)) + (((a0 - ((a0.toUInt64 >>> ((1 : Int32).toInt64.toUInt64 &&& Int64.toUInt64 63)).toInt64 &&& (6148914691236517205 : Int64))).toUInt64 >>> ((2 : Int32).toInt64.toUInt64 &&& Int64.toUInt64 63)).toInt64 &&& (3689348814741910323 : Int64))) + ((((a0 - ((a0.toUInt64 >>> ((1 : Int32).toInt64.toUInt64 &&& Int64.toUInt64 63)).toInt64 &&& (6148914691236517205 : Int64))) &&& (3689348814741910323 : Int64)) + (((a0 - ((a0.toUInt64 >>> ((1 : Int32).toInt64.toUInt64 &&& Int64.toUInt64 63)).toInt64 &&& (6148914691236517205 : Int64))).toUInt64 >>> ((2 : Int32).toInt64.toUInt64 &&& Int64.toUInt64 63)).toInt64 &&& (3689348814741910323 : Int64))).toUInt64 >>> ((4 : Int32).toInt64.toUInt64 &&& Int64.toUInt64 63)).toInt64) &&& (1085102592571150095 : Int64)).toUInt64 >>> ((8 : Int32).toInt64.toUInt64 &&& Int64.toUInt64 63)).toInt64) + (((((((a0 - ((a0.toUInt64 >>> ((1 : Int32).toInt64.toUInt64 &&& Int64.toUInt64 63)).toInt64 &&& (6148914691236517205 : Int64))) &&& (3689348814741910323 : Int64)) + (((a0 - ((a0.toUInt64 >>> ((1 : Int32).toInt64.toUInt64 &&& Int64.toUInt64 63)).toInt64 &&& (6148914691236517205 : Int64))).toUInt64 >>> ((2 : Int32).toInt64.toUInt64 &&& Int64.toUInt64 63)).toInt64 &&& (3689348814741910323 : Int64))) + ((((a0 - ((a0.toUInt64 >>> ((1 : Int32).toInt64.toUInt64 &&& Int64.toUInt64 63)).toInt64 &&& (6148914691236517205 : Int64))) &&& (3689348814741910323 : Int64)) + (((a0 - ((a0.toUInt64 >>> ((1 : Int32).toInt64.toUInt64 &&& Int64.toUInt64 63)).toInt64 &&& (6148914691236517205 : Int64))).toUInt64 >>> ((2 : Int32).toInt64.toUInt64 &&& Int64.toUInt64 63)).toInt64 &&& (3689348814741910323 : Int64))).toUInt64 >>> ((4 : Int32).toInt64.toUInt64 &&& Int64.toUInt64 63)).toInt64) &&& (1085102592571150095 : Int64)) + ((((((a0 - ((a0.toUInt64 >>> ((1 : Int32).toInt64.toUInt64 &&& Int64.toUInt64 63)).toInt64 &&& (6148914691236517205 : Int64))) &&& (3689348814741910323 : Int64)) + (((a0 - ((a0.toUInt64 >>> ((1 : Int32).toInt64.toUInt64 &&& Int64.toUInt64 63)).toInt64 &&& (6148914691236517205 : Int64))).toUInt64 >>> ((2 : Int32).toInt64.toUInt64 &&& Int64.toUInt64 63)).toInt64 &&& (3689348814741910323 : Int64))) + ((((a0 - ((a0.toUInt64 >>> ((1 : Int32).toInt64.toUInt64 &&& Int64.toUInt64 63)).toInt64 &&& (6148914691236517205 : Int64))) &&& (3689348814741910323 : Int64)) + (((a0 - ((a0.toUInt64 >>> ((1 : Int32).toInt64.toUInt64 &&& Int64.toUInt64 63)).toInt64 &&& (6148914691236517205 : Int64))).toUInt64 >>> ((2 : Int32).toInt64.toUInt64 &&& Int64.toUInt64 63)).toInt64 &&& (3689348814741910323 : Int64))).toUInt64 >>> ((4 : Int32).toInt64.toUInt64 &&& Int64.toUInt64 63)).toInt64) &&& (1085102592571150095 : Int64)).toUInt64 >>> ((8 : Int32).toInt64.toUInt64 &&& Int64.toUInt64 63)).toInt64).toUInt64 >>> ((16 : Int32).toInt64.toUInt64 &&& Int64.toUInt64 63)).toInt64).toUInt64 >>> ((32 : Int32).toInt64.toUInt64 &&& Int64.toUInt64 63)).toInt64).toInt32 &&& (127 : Int32))
set_option maxRecDepth 100000 in
theorem s_J13_bitCount_95d88_ok (d : Nat) (ρ : Nat → Nat → Option zF) (hρ : zSh ρ) (a0 : Int64) (h : zH) (res : Int32) (hR : zRq h ρ) (e : s_J13_bitCount_95d88 a0 h = some res) : zcl d 275 [zl a0] h (zQp h res) := by
  rw [s_J13_bitCount_95d88] at e
  refine ⟨zm_J13_bitCount_95d88, rfl, ?_⟩
  show zwp d zm_J13_bitCount_95d88 0 [some (zl a0), none] [] h _
  refine zwp.go (m := 48) (j := 48) (ls' := [some (zl ((((((((a0 - ((a0.toUInt64 >>> ((1 : Int32).toInt64.toUInt64 &&& Int64.toUInt64 63)).toInt64 &&& (6148914691236517205 : Int64))) &&& (3689348814741910323 : Int64)) + (((a0 - ((a0.toUInt64 >>> ((1 : Int32).toInt64.toUInt64 &&& Int64.toUInt64 63)).toInt64 &&& (6148914691236517205 : Int64))).toUInt64 >>> ((2 : Int32).toInt64.toUInt64 &&& Int64.toUInt64 63)).toInt64 &&& (3689348814741910323 : Int64))) + ((((a0 - ((a0.toUInt64 >>> ((1 : Int32).toInt64.toUInt64 &&& Int64.toUInt64 63)).toInt64 &&& (6148914691236517205 : Int64))) &&& (3689348814741910323 : Int64)) + (((a0 - ((a0.toUInt64 >>> ((1 : Int32).toInt64.toUInt64 &&& Int64.toUInt64 63)).toInt64 &&& (6148914691236517205 : Int64))).toUInt64 >>> ((2 : Int32).toInt64.toUInt64 &&& Int64.toUInt64 63)).toInt64 &&& (3689348814741910323 : Int64))).toUInt64 >>> ((4 : Int32).toInt64.toUInt64 &&& Int64.toUInt64 63)).toInt64) &&& (1085102592571150095 : Int64)) + ((((((a0 - ((a0.toUInt64 >>> ((1 : Int32).toInt64.toUInt64 &&& Int64.toUInt64 63)).toInt64 &&& (6148914691236517205 : Int64))) &&& (3689348814741910323 : Int64)) + (((a0 - ((a0.toUInt64 >>> ((1 : Int32).toInt64.toUInt64 &&& Int64.toUInt64 63)).toInt64 &&& (6148914691236517205 : Int64))).toUInt64 >>> ((2 : Int32).toInt64.toUInt64 &&& Int64.toUInt64 63)).toInt64 &&& (3689348814741910323 : Int64))) + ((((a0 - ((a0.toUInt64 >>> ((1 : Int32).toInt64.toUInt64 &&& Int64.toUInt64 63)).toInt64 &&& (6148914691236517205 : Int64))) &&& (3689348814741910323 : Int64)) + (((a0 - ((a0.toUInt64 >>> ((1 : Int32).toInt64.toUInt64 &&& Int64.toUInt64 63)).toInt64 &&& (6148914691236517205 : Int64))).toUInt64 >>> ((2 : Int32).toInt64.toUInt64 &&& Int64.toUInt64 63)).toInt64 &&& (3689348814741910323 : Int64))).toUInt64 >>> ((4 : Int32).toInt64.toUInt64 &&& Int64.toUInt64 63)).toInt64) &&& (1085102592571150095 : Int64)).toUInt64 >>> ((8 : Int32).toInt64.toUInt64 &&& Int64.toUInt64 63)).toInt64) + (((((((a0 - ((a0.toUInt64 >>> ((1 : Int32).toInt64.toUInt64 &&& Int64.toUInt64 63)).toInt64 &&& (6148914691236517205 : Int64))) &&& (3689348814741910323 : Int64)) + (((a0 - ((a0.toUInt64 >>> ((1 : Int32).toInt64.toUInt64 &&& Int64.toUInt64 63)).toInt64 &&& (6148914691236517205 : Int64))).toUInt64 >>> ((2 : Int32).toInt64.toUInt64 &&& Int64.toUInt64 63)).toInt64 &&& (3689348814741910323 : Int64))) + ((((a0 - ((a0.toUInt64 >>> ((1 : Int32).toInt64.toUInt64 &&& Int64.toUInt64 63)).toInt64 &&& (6148914691236517205 : Int64))) &&& (3689348814741910323 : Int64)) + (((a0 - ((a0.toUInt64 >>> ((1 : Int32).toInt64.toUInt64 &&& Int64.toUInt64 63)).toInt64 &&& (6148914691236517205 : Int64))).toUInt64 >>> ((2 : Int32).toInt64.toUInt64 &&& Int64.toUInt64 63)).toInt64 &&& (3689348814741910323 : Int64))).toUInt64 >>> ((4 : Int32).toInt64.toUInt64 &&& Int64.toUInt64 63)).toInt64) &&& (1085102592571150095 : Int64)) + ((((((a0 - ((a0.toUInt64 >>> ((1 : Int32).toInt64.toUInt64 &&& Int64.toUInt64 63)).toInt64 &&& (6148914691236517205 : Int64))) &&& (3689348814741910323 : Int64)) + (((a0 - ((a0.toUInt64 >>> ((1 : Int32).toInt64.toUInt64 &&& Int64.toUInt64 63)).toInt64 &&& (6148914691236517205 : Int64))).toUInt64 >>> ((2 : Int32).toInt64.toUInt64 &&& Int64.toUInt64 63)).toInt64 &&& (3689348814741910323 : Int64))) + ((((a0 - ((a0.toUInt64 >>> ((1 : Int32).toInt64.toUInt64 &&& Int64.toUInt64 63)).toInt64 &&& (6148914691236517205 : Int64))) &&& (3689348814741910323 : Int64)) + (((a0 - ((a0.toUInt64 >>> ((1 : Int32).toInt64.toUInt64 &&& Int64.toUInt64 63)).toInt64 &&& (6148914691236517205 : Int64))).toUInt64 >>> ((2 : Int32).toInt64.toUInt64 &&& Int64.toUInt64 63)).toInt64 &&& (3689348814741910323 : Int64))).toUInt64 >>> ((4 : Int32).toInt64.toUInt64 &&& Int64.toUInt64 63)).toInt64) &&& (1085102592571150095 : Int64)).toUInt64 >>> ((8 : Int32).toInt64.toUInt64 &&& Int64.toUInt64 63)).toInt64).toUInt64 >>> ((16 : Int32).toInt64.toUInt64 &&& Int64.toUInt64 63)).toInt64) + ((((((((a0 - ((a0.toUInt64 >>> ((1 : Int32).toInt64.toUInt64 &&& Int64.toUInt64 63)).toInt64 &&& (6148914691236517205 : Int64))) &&& (3689348814741910323 : Int64)) + (((a0 - ((a0.toUInt64 >>> ((1 : Int32).toInt64.toUInt64 &&& Int64.toUInt64 63)).toInt64 &&& (6148914691236517205 : Int64))).toUInt64 >>> ((2 : Int32).toInt64.toUInt64 &&& Int64.toUInt64 63)).toInt64 &&& (3689348814741910323 : Int64))) + ((((a0 - ((a0.toUInt64 >>> ((1 : Int32).toInt64.toUInt64 &&& Int64.toUInt64 63)).toInt64 &&& (6148914691236517205 : Int64))) &&& (3689348814741910323 : Int64)) + (((a0 - ((a0.toUInt64 >>> ((1 : Int32).toInt64.toUInt64 &&& Int64.toUInt64 63)).toInt64 &&& (6148914691236517205 : Int64))).toUInt64 >>> ((2 : Int32).toInt64.toUInt64 &&& Int64.toUInt64 63)).toInt64 &&& (3689348814741910323 : Int64))).toUInt64 >>> ((4 : Int32).toInt64.toUInt64 &&& Int64.toUInt64 63)).toInt64) &&& (1085102592571150095 : Int64)) + ((((((a0 - ((a0.toUInt64 >>> ((1 : Int32).toInt64.toUInt64 &&& Int64.toUInt64 63)).toInt64 &&& (6148914691236517205 : Int64))) &&& (3689348814741910323 : Int64)) + (((a0 - ((a0.toUInt64 >>> ((1 : Int32).toInt64.toUInt64 &&& Int64.toUInt64 63)).toInt64 &&& (6148914691236517205 : Int64))).toUInt64 >>> ((2 : Int32).toInt64.toUInt64 &&& Int64.toUInt64 63)).toInt64 &&& (3689348814741910323 : Int64))) + ((((a0 - ((a0.toUInt64 >>> ((1 : Int32).toInt64.toUInt64 &&& Int64.toUInt64 63)).toInt64 &&& (6148914691236517205 : Int64))) &&& (3689348814741910323 : Int64)) + (((a0 - ((a0.toUInt64 >>> ((1 : Int32).toInt64.toUInt64 &&& Int64.toUInt64 63)).toInt64 &&& (6148914691236517205 : Int64))).toUInt64 >>> ((2 : Int32).toInt64.toUInt64 &&& Int64.toUInt64 63)).toInt64 &&& (3689348814741910323 : Int64))).toUInt64 >>> ((4 : Int32).toInt64.toUInt64 &&& Int64.toUInt64 63)).toInt64) &&& (1085102592571150095 : Int64)).toUInt64 >>> ((8 : Int32).toInt64.toUInt64 &&& Int64.toUInt64 63)).toInt64) + (((((((a0 - ((a0.toUInt64 >>> ((1 : Int32).toInt64.toUInt64 &&& Int64.toUInt64 63)).toInt64 &&& (6148914691236517205 : Int64))) &&& (3689348814741910323 : Int64)) + (((a0 - ((a0.toUInt64 >>> ((1 : Int32).toInt64.toUInt64 &&& Int64.toUInt64 63)).toInt64 &&& (6148914691236517205 : Int64))).toUInt64 >>> ((2 : Int32).toInt64.toUInt64 &&& Int64.toUInt64 63)).toInt64 &&& (3689348814741910323 : Int64))) + ((((a0 - ((a0.toUInt64 >>> ((1 : Int32).toInt64.toUInt64 &&& Int64.toUInt64 63)).toInt64 &&& (6148914691236517205 : Int64))) &&& (3689348814741910323 : Int64)) + (((a0 - ((a0.toUInt64 >>> ((1 : Int32).toInt64.toUInt64 &&& Int64.toUInt64 63)).toInt64 &&& (6148914691236517205 : Int64))).toUInt64 >>> ((2 : Int32).toInt64.toUInt64 &&& Int64.toUInt64 63)).toInt64 &&& (3689348814741910323 : Int64))).toUInt64 >>> ((4 : Int32).toInt64.toUInt64 &&& Int64.toUInt64 63)).toInt64) &&& (1085102592571150095 : Int64)) + ((((((a0 - ((a0.toUInt64 >>> ((1 : Int32).toInt64.toUInt64 &&& Int64.toUInt64 63)).toInt64 &&& (6148914691236517205 : Int64))) &&& (3689348814741910323 : Int64)) + (((a0 - ((a0.toUInt64 >>> ((1 : Int32).toInt64.toUInt64 &&& Int64.toUInt64 63)).toInt64 &&& (6148914691236517205 : Int64))).toUInt64 >>> ((2 : Int32).toInt64.toUInt64 &&& Int64.toUInt64 63)).toInt64 &&& (3689348814741910323 : Int64))) + ((((a0 - ((a0.toUInt64 >>> ((1 : Int32).toInt64.toUInt64 &&& Int64.toUInt64 63)).toInt64 &&& (6148914691236517205 : Int64))) &&& (3689348814741910323 : Int64)) + (((a0 - ((a0.toUInt64 >>> ((1 : Int32).toInt64.toUInt64 &&& Int64.toUInt64 63)).toInt64 &&& (6148914691236517205 : Int64))).toUInt64 >>> ((2 : Int32).toInt64.toUInt64 &&& Int64.toUInt64 63)).toInt64 &&& (3689348814741910323 : Int64))).toUInt64 >>> ((4 : Int32).toInt64.toUInt64 &&& Int64.toUInt64 63)).toInt64) &&& (1085102592571150095 : Int64)).toUInt64 >>> ((8 : Int32).toInt64.toUInt64 &&& Int64.toUInt64 63)).toInt64).toUInt64 >>> ((16 : Int32).toInt64.toUInt64 &&& Int64.toUInt64 63)).toInt64).toUInt64 >>> ((32 : Int32).toInt64.toUInt64 &&& Int64.toUInt64 63)).toInt64)), none]) (st' := [zi (((((((((a0 - ((a0.toUInt64 >>> ((1 : Int32).toInt64.toUInt64 &&& Int64.toUInt64 63)).toInt64 &&& (6148914691236517205 : Int64))) &&& (3689348814741910323 : Int64)) + (((a0 - ((a0.toUInt64 >>> ((1 : Int32).toInt64.toUInt64 &&& Int64.toUInt64 63)).toInt64 &&& (6148914691236517205 : Int64))).toUInt64 >>> ((2 : Int32).toInt64.toUInt64 &&& Int64.toUInt64 63)).toInt64 &&& (3689348814741910323 : Int64))) + ((((a0 - ((a0.toUInt64 >>> ((1 : Int32).toInt64.toUInt64 &&& Int64.toUInt64 63)).toInt64 &&& (6148914691236517205 : Int64))) &&& (3689348814741910323 : Int64)) + (((a0 - ((a0.toUInt64 >>> ((1 : Int32).toInt64.toUInt64 &&& Int64.toUInt64 63)).toInt64 &&& (6148914691236517205 : Int64))).toUInt64 >>> ((2 : Int32).toInt64.toUInt64 &&& Int64.toUInt64 63)).toInt64 &&& (3689348814741910323 : Int64))).toUInt64 >>> ((4 : Int32).toInt64.toUInt64 &&& Int64.toUInt64 63)).toInt64) &&& (1085102592571150095 : Int64)) + ((((((a0 - ((a0.toUInt64 >>> ((1 : Int32).toInt64.toUInt64 &&& Int64.toUInt64 63)).toInt64 &&& (6148914691236517205 : Int64))) &&& (3689348814741910323 : Int64)) + (((a0 - ((a0.toUInt64 >>> ((1 : Int32).toInt64.toUInt64 &&& Int64.toUInt64 63)).toInt64 &&& (6148914691236517205 : Int64))).toUInt64 >>> ((2 : Int32).toInt64.toUInt64 &&& Int64.toUInt64 63)).toInt64 &&& (3689348814741910323 : Int64))) + ((((a0 - ((a0.toUInt64 >>> ((1 : Int32).toInt64.toUInt64 &&& Int64.toUInt64 63)).toInt64 &&& (6148914691236517205 : Int64))) &&& (3689348814741910323 : Int64)) + (((a0 - ((a0.toUInt64 >>> ((1 : Int32).toInt64.toUInt64 &&& Int64.toUInt64 63)).toInt64 &&& (6148914691236517205 : Int64))).toUInt64 >>> ((2 : Int32).toInt64.toUInt64 &&& Int64.toUInt64 63)).toInt64 &&& (3689348814741910323 : Int64))).toUInt64 >>> ((4 : Int32).toInt64.toUInt64 &&& Int64.toUInt64 63)).toInt64) &&& (1085102592571150095 : Int64)).toUInt64 >>> ((8 : Int32).toInt64.toUInt64 &&& Int64.toUInt64 63)).toInt64) + (((((((a0 - ((a0.toUInt64 >>> ((1 : Int32).toInt64.toUInt64 &&& Int64.toUInt64 63)).toInt64 &&& (6148914691236517205 : Int64))) &&& (3689348814741910323 : Int64)) + (((a0 - ((a0.toUInt64 >>> ((1 : Int32).toInt64.toUInt64 &&& Int64.toUInt64 63)).toInt64 &&& (6148914691236517205 : Int64))).toUInt64 >>> ((2 : Int32).toInt64.toUInt64 &&& Int64.toUInt64 63)).toInt64 &&& (3689348814741910323 : Int64))) + ((((a0 - ((a0.toUInt64 >>> ((1 : Int32).toInt64.toUInt64 &&& Int64.toUInt64 63)).toInt64 &&& (6148914691236517205 : Int64))) &&& (3689348814741910323 : Int64)) + (((a0 - ((a0.toUInt64 >>> ((1 : Int32).toInt64.toUInt64 &&& Int64.toUInt64 63)).toInt64 &&& (6148914691236517205 : Int64))).toUInt64 >>> ((2 : Int32).toInt64.toUInt64 &&& Int64.toUInt64 63)).toInt64 &&& (3689348814741910323 : Int64))).toUInt64 >>> ((4 : Int32).toInt64.toUInt64 &&& Int64.toUInt64 63)).toInt64) &&& (1085102592571150095 : Int64)) + ((((((a0 - ((a0.toUInt64 >>> ((1 : Int32).toInt64.toUInt64 &&& Int64.toUInt64 63)).toInt64 &&& (6148914691236517205 : Int64))) &&& (3689348814741910323 : Int64)) + (((a0 - ((a0.toUInt64 >>> ((1 : Int32).toInt64.toUInt64 &&& Int64.toUInt64 63)).toInt64 &&& (6148914691236517205 : Int64))).toUInt64 >>> ((2 : Int32).toInt64.toUInt64 &&& Int64.toUInt64 63)).toInt64 &&& (3689348814741910323 : Int64))) + ((((a0 - ((a0.toUInt64 >>> ((1 : Int32).toInt64.toUInt64 &&& Int64.toUInt64 63)).toInt64 &&& (6148914691236517205 : Int64))) &&& (3689348814741910323 : Int64)) + (((a0 - ((a0.toUInt64 >>> ((1 : Int32).toInt64.toUInt64 &&& Int64.toUInt64 63)).toInt64 &&& (6148914691236517205 : Int64))).toUInt64 >>> ((2 : Int32).toInt64.toUInt64 &&& Int64.toUInt64 63)).toInt64 &&& (3689348814741910323 : Int64))).toUInt64 >>> ((4 : Int32).toInt64.toUInt64 &&& Int64.toUInt64 63)).toInt64) &&& (1085102592571150095 : Int64)).toUInt64 >>> ((8 : Int32).toInt64.toUInt64 &&& Int64.toUInt64 63)).toInt64).toUInt64 >>> ((16 : Int32).toInt64.toUInt64 &&& Int64.toUInt64 63)).toInt64) + ((((((((a0 - ((a0.toUInt64 >>> ((1 : Int32).toInt64.toUInt64 &&& Int64.toUInt64 63)).toInt64 &&& (6148914691236517205 : Int64))) &&& (3689348814741910323 : Int64)) + (((a0 - ((a0.toUInt64 >>> ((1 : Int32).toInt64.toUInt64 &&& Int64.toUInt64 63)).toInt64 &&& (6148914691236517205 : Int64))).toUInt64 >>> ((2 : Int32).toInt64.toUInt64 &&& Int64.toUInt64 63)).toInt64 &&& (3689348814741910323 : Int64))) + ((((a0 - ((a0.toUInt64 >>> ((1 : Int32).toInt64.toUInt64 &&& Int64.toUInt64 63)).toInt64 &&& (6148914691236517205 : Int64))) &&& (3689348814741910323 : Int64)) + (((a0 - ((a0.toUInt64 >>> ((1 : Int32).toInt64.toUInt64 &&& Int64.toUInt64 63)).toInt64 &&& (6148914691236517205 : Int64))).toUInt64 >>> ((2 : Int32).toInt64.toUInt64 &&& Int64.toUInt64 63)).toInt64 &&& (3689348814741910323 : Int64))).toUInt64 >>> ((4 : Int32).toInt64.toUInt64 &&& Int64.toUInt64 63)).toInt64) &&& (1085102592571150095 : Int64)) + ((((((a0 - ((a0.toUInt64 >>> ((1 : Int32).toInt64.toUInt64 &&& Int64.toUInt64 63)).toInt64 &&& (6148914691236517205 : Int64))) &&& (3689348814741910323 : Int64)) + (((a0 - ((a0.toUInt64 >>> ((1 : Int32).toInt64.toUInt64 &&& Int64.toUInt64 63)).toInt64 &&& (6148914691236517205 : Int64))).toUInt64 >>> ((2 : Int32).toInt64.toUInt64 &&& Int64.toUInt64 63)).toInt64 &&& (3689348814741910323 : Int64))) + ((((a0 - ((a0.toUInt64 >>> ((1 : Int32).toInt64.toUInt64 &&& Int64.toUInt64 63)).toInt64 &&& (6148914691236517205 : Int64))) &&& (3689348814741910323 : Int64)) + (((a0 - ((a0.toUInt64 >>> ((1 : Int32).toInt64.toUInt64 &&& Int64.toUInt64 63)).toInt64 &&& (6148914691236517205 : Int64))).toUInt64 >>> ((2 : Int32).toInt64.toUInt64 &&& Int64.toUInt64 63)).toInt64 &&& (3689348814741910323 : Int64))).toUInt64 >>> ((4 : Int32).toInt64.toUInt64 &&& Int64.toUInt64 63)).toInt64) &&& (1085102592571150095 : Int64)).toUInt64 >>> ((8 : Int32).toInt64.toUInt64 &&& Int64.toUInt64 63)).toInt64) + (((((((a0 - ((a0.toUInt64 >>> ((1 : Int32).toInt64.toUInt64 &&& Int64.toUInt64 63)).toInt64 &&& (6148914691236517205 : Int64))) &&& (3689348814741910323 : Int64)) + (((a0 - ((a0.toUInt64 >>> ((1 : Int32).toInt64.toUInt64 &&& Int64.toUInt64 63)).toInt64 &&& (6148914691236517205 : Int64))).toUInt64 >>> ((2 : Int32).toInt64.toUInt64 &&& Int64.toUInt64 63)).toInt64 &&& (3689348814741910323 : Int64))) + ((((a0 - ((a0.toUInt64 >>> ((1 : Int32).toInt64.toUInt64 &&& Int64.toUInt64 63)).toInt64 &&& (6148914691236517205 : Int64))) &&& (3689348814741910323 : Int64)) + (((a0 - ((a0.toUInt64 >>> ((1 : Int32).toInt64.toUInt64 &&& Int64.toUInt64 63)).toInt64 &&& (6148914691236517205 : Int64))).toUInt64 >>> ((2 : Int32).toInt64.toUInt64 &&& Int64.toUInt64 63)).toInt64 &&& (3689348814741910323 : Int64))).toUInt64 >>> ((4 : Int32).toInt64.toUInt64 &&& Int64.toUInt64 63)).toInt64) &&& (1085102592571150095 : Int64)) + ((((((a0 - ((a0.toUInt64 >>> ((1 : Int32).toInt64.toUInt64 &&& Int64.toUInt64 63)).toInt64 &&& (6148914691236517205 : Int64))) &&& (3689348814741910323 : Int64)) + (((a0 - ((a0.toUInt64 >>> ((1 : Int32).toInt64.toUInt64 &&& Int64.toUInt64 63)).toInt64 &&& (6148914691236517205 : Int64))).toUInt64 >>> ((2 : Int32).toInt64.toUInt64 &&& Int64.toUInt64 63)).toInt64 &&& (3689348814741910323 : Int64))) + ((((a0 - ((a0.toUInt64 >>> ((1 : Int32).toInt64.toUInt64 &&& Int64.toUInt64 63)).toInt64 &&& (6148914691236517205 : Int64))) &&& (3689348814741910323 : Int64)) + (((a0 - ((a0.toUInt64 >>> ((1 : Int32).toInt64.toUInt64 &&& Int64.toUInt64 63)).toInt64 &&& (6148914691236517205 : Int64))).toUInt64 >>> ((2 : Int32).toInt64.toUInt64 &&& Int64.toUInt64 63)).toInt64 &&& (3689348814741910323 : Int64))).toUInt64 >>> ((4 : Int32).toInt64.toUInt64 &&& Int64.toUInt64 63)).toInt64) &&& (1085102592571150095 : Int64)).toUInt64 >>> ((8 : Int32).toInt64.toUInt64 &&& Int64.toUInt64 63)).toInt64).toUInt64 >>> ((16 : Int32).toInt64.toUInt64 &&& Int64.toUInt64 63)).toInt64).toUInt64 >>> ((32 : Int32).toInt64.toUInt64 &&& Int64.toUInt64 63)).toInt64).toInt32 &&& (127 : Int32))]) (h' := h) rfl ?_
  cases e
  exact zwp.ret rfl rfl ⟨rfl, rfl⟩
def s_X6_chooseDay_L17 (k8 : (Int32 → zH → Option (zH))) : Nat → Int32 → Int32 → Int32 → zH → Option (zH)
  | 0, _, _, _, _ => none
  | n + 1, l1, l2, l3, h => if ((l1 + (1 : Int32)) * (64 : Int32)) ≤ l3 then (if l2 ≤ (zI h 47 10) then (k8 (l1 + (1 : Int32)) h) else (zlt (zwI h 47 10 l2) fun h1 => zlt (zwI h1 47 9 l1) fun h2 => k8 (l1 + (1 : Int32)) h2)) else (zix l3 1344 fun i3 => (s_J13_bitCount_95d88 (zL h 49 i3) h).bind fun v4 => s_X6_chooseDay_L17 k8 n l1 (l2 + v4) (l3 + (1 : Int32)) h)
set_option maxRecDepth 100000 in
theorem s_X6_chooseDay_L17_ok (d : Nat) (ρ : Nat → Nat → Option zF) (hρ : zSh ρ) (k8 : (Int32 → zH → Option (zH))) (hk8 : ∀ l1 h res, zRq h ρ → k8 l1 h = some res → zwp (d + 1) zm_X6_chooseDay 8 [some (zr ((47, 6, 0) : zF)), some (zi l1), none, none] [] h (zQv ρ res)) : ∀ (n : Nat) (l1 : Int32) (l2 : Int32) (l3 : Int32) (h : zH) (res : zH) (hR : zRq h ρ) (e : s_X6_chooseDay_L17 k8 n l1 l2 l3 h = some res), zwp (d + 1) zm_X6_chooseDay 17 [some (zr ((47, 6, 0) : zF)), some (zi l1), some (zi l2), some (zi l3)] [] h (zQv ρ res) := by
  intro n
  induction n with
  | zero => intro l1 l2 l3 h res hR e; cases e
  | succ n ih =>
    intro l1 l2 l3 h res hR e
    rw [s_X6_chooseDay_L17] at e
    refine zwp.go (m := 6) (j := 23) (ls' := [some (zr ((47, 6, 0) : zF)), some (zi l1), some (zi l2), some (zi l3)]) (st' := [zi ((l1 + (1 : Int32)) * (64 : Int32)), zi l3]) (h' := h) rfl ?_
    refine zb_if (j := 34) (j2 := 24) e rfl (fun e => ?_) (fun e => ?_)
    · refine zwp.go (m := 3) (j := 37) (ls' := [some (zr ((47, 6, 0) : zF)), some (zi l1), some (zi l2), some (zi l3)]) (st' := [zi (zI h 47 10), zi l2]) (h' := h) rfl ?_
      refine zb_if (j := 44) (j2 := 38) e rfl (fun e => ?_) (fun e => ?_)
      · refine zwp.go (m := 2) (j := 8) (ls' := [some (zr ((47, 6, 0) : zF)), some (zi (l1 + (1 : Int32))), some (zi l2), some (zi l3)]) (st' := []) (h' := h) rfl ?_
        refine zwp.fg (a := [some (zr ((47, 6, 0) : zF)), some (zi (l1 + (1 : Int32))), none, none]) (And.intro rfl (And.intro rfl trivial)) ?_
        exact hk8 (l1 + (1 : Int32)) h _ hR e
      · refine zwp.go (m := 2) (j := 40) (ls' := [some (zr ((47, 6, 0) : zF)), some (zi l1), some (zi l2), some (zi l3)]) (st' := [zi l2, zr ((47, 6, 0) : zF)]) (h' := h) rfl ?_
        refine zc_w e rfl hR (fun h1 hR1 e => ?_)
        refine zwp.go (m := 2) (j := 43) (ls' := [some (zr ((47, 6, 0) : zF)), some (zi l1), some (zi l2), some (zi l3)]) (st' := [zi l1, zr ((47, 6, 0) : zF)]) (h' := h1) rfl ?_
        refine zc_w e rfl hR1 (fun h2 hR2 e => ?_)
        refine zwp.go (m := 2) (j := 8) (ls' := [some (zr ((47, 6, 0) : zF)), some (zi (l1 + (1 : Int32))), some (zi l2), some (zi l3)]) (st' := []) (h' := h2) rfl ?_
        refine zwp.fg (a := [some (zr ((47, 6, 0) : zF)), some (zi (l1 + (1 : Int32))), none, none]) (And.intro rfl (And.intro rfl trivial)) ?_
        exact hk8 (l1 + (1 : Int32)) h2 _ hR2 e
    · refine zwp.go (m := 2) (j := 26) (ls' := [some (zr ((47, 6, 0) : zF)), some (zi l1), some (zi l2), some (zi l3)]) (st' := [zr ((47, 6, 0) : zF), zi l2]) (h' := h) rfl ?_
      refine zc_sr (r := ((49, 23, 1344) : zF)) (zrf (a := 47) (y := 3) hR rfl (hρ 47 3 rfl)) rfl ?_
      refine zwp.go (m := 1) (j := 28) (ls' := [some (zr ((47, 6, 0) : zF)), some (zi l1), some (zi l2), some (zi l3)]) (st' := [zi l3, zr ((49, 23, 1344) : zF), zi l2]) (h' := h) rfl ?_
      refine zc_al e (fun _ => rfl) (fun i3 e => ?_)
      refine zc_cp (d := d + 0) e (fun q e => s_J13_bitCount_95d88_ok (d + 0) ρ hρ (zL h 49 i3) h q hR e) rfl rfl (fun v4 e => ?_)
      refine zwp.go (m := 4) (j := 17) (ls' := [some (zr ((47, 6, 0) : zF)), some (zi l1), some (zi (l2 + v4)), some (zi (l3 + (1 : Int32)))]) (st' := []) (h' := h) rfl ?_
      exact ih l1 (l2 + v4) (l3 + (1 : Int32)) h _ hR e
def s_X6_chooseDay_L8 : Nat → Int32 → zH → Option (zH)
  | 0, _, _ => none
  | n + 1, l1, h => if (20 : Int32) < l1 then (some h) else (s_X6_chooseDay_L17 (s_X6_chooseDay_L8 n) zfu l1 (0 : Int32) (l1 * (64 : Int32)) h)
set_option maxRecDepth 100000 in
theorem s_X6_chooseDay_L8_ok (d : Nat) (ρ : Nat → Nat → Option zF) (hρ : zSh ρ) : ∀ (n : Nat) (l1 : Int32) (h : zH) (res : zH) (hR : zRq h ρ) (e : s_X6_chooseDay_L8  n l1 h = some res), zwp (d + 1) zm_X6_chooseDay 8 [some (zr ((47, 6, 0) : zF)), some (zi l1), none, none] [] h (zQv ρ res) := by
  intro n
  induction n with
  | zero => intro l1 h res hR e; cases e
  | succ n ih =>
    intro l1 h res hR e
    rw [s_X6_chooseDay_L8] at e
    refine zwp.go (m := 2) (j := 10) (ls' := [some (zr ((47, 6, 0) : zF)), some (zi l1), none, none]) (st' := [zi (20 : Int32), zi l1]) (h' := h) rfl ?_
    refine zb_if (j := 46) (j2 := 11) e rfl (fun e => ?_) (fun e => ?_)
    · cases e
      exact zwp.rv rfl ⟨⟨rfl, rfl⟩, hR⟩
    · refine zwp.go (m := 6) (j := 17) (ls' := [some (zr ((47, 6, 0) : zF)), some (zi l1), some (zi (0 : Int32)), some (zi (l1 * (64 : Int32)))]) (st' := []) (h' := h) rfl ?_
      exact s_X6_chooseDay_L17_ok d ρ hρ (s_X6_chooseDay_L8 n) ih zfu l1 (0 : Int32) (l1 * (64 : Int32)) h _ hR e
def s_X6_chooseDay (h : zH) : Option (zH) := zlt (zwI h 47 9 (-1 : Int32)) fun h1 => zlt (zwI h1 47 10 (0 : Int32)) fun h2 => s_X6_chooseDay_L8 zfu (1 : Int32) h2
set_option maxRecDepth 100000 in
theorem s_X6_chooseDay_ok (d : Nat) (ρ : Nat → Nat → Option zF) (hρ : zSh ρ) (h : zH) (res : zH) (hR : zRq h ρ) (e : s_X6_chooseDay  h = some res) : zcl (d + 1) 276 [zr ((47, 6, 0) : zF)] h (zQv ρ res) := by
  rw [s_X6_chooseDay] at e
  refine ⟨zm_X6_chooseDay, rfl, ?_⟩
  show zwp (d + 1) zm_X6_chooseDay 0 [some (zr ((47, 6, 0) : zF)), none, none, none] [] h _
  refine zwp.go (m := 2) (j := 2) (ls' := [some (zr ((47, 6, 0) : zF)), none, none, none]) (st' := [zi (-1 : Int32), zr ((47, 6, 0) : zF)]) (h' := h) rfl ?_
  refine zc_w e rfl hR (fun h1 hR1 e => ?_)
  refine zwp.go (m := 2) (j := 5) (ls' := [some (zr ((47, 6, 0) : zF)), none, none, none]) (st' := [zi (0 : Int32), zr ((47, 6, 0) : zF)]) (h' := h1) rfl ?_
  refine zc_w e rfl hR1 (fun h2 hR2 e => ?_)
  refine zwp.go (m := 2) (j := 8) (ls' := [some (zr ((47, 6, 0) : zF)), some (zi (1 : Int32)), none, none]) (st' := []) (h' := h2) rfl ?_
  exact s_X6_chooseDay_L8_ok d ρ hρ zfu (1 : Int32) h2 _ hR2 e
def s_X6_compareDays_L14 (a1 : Nat) (a2 : Nat) (k8 : (Int32 → zH → Option (zH))) : Nat → Int32 → Int32 → zH → Option (zH)
  | 0, _, _, _ => none
  | n + 1, l3, l4, h => if (99 : Int32) < l4 then (k8 (l3 + (1 : Int32)) h) else (zix l3 12 fun i1 => if l4 = (zI h (a2 + 2) i1) then (s_X6_compareDays_L14 a1 a2 k8 n l3 (l4 + (1 : Int32)) h) else (zbd (s_X6_fits a1 a2 l3 l4 (20 : Int32) h) fun v3 h2 => if v3 = 0 then (s_X6_compareDays_L14 a1 a2 k8 n l3 (l4 + (1 : Int32)) h2) else ((s_X6_meet h2).bind fun h4 => s_X6_compareDays_L14 a1 a2 k8 n l3 (l4 + (1 : Int32)) h4)))
set_option maxRecDepth 100000 in
theorem s_X6_compareDays_L14_ok (d : Nat) (ρ : Nat → Nat → Option zF) (hρ : zSh ρ) (a1 : Nat) (a2 : Nat) (ha1 : zPlS ρ a1) (ha2 : zLdS ρ a2) (k8 : (Int32 → zH → Option (zH))) (hk8 : ∀ l3 h res, zRq h ρ → k8 l3 h = some res → zwp (d + 6) zm_X6_compareDays 8 [some (zr ((47, 6, 0) : zF)), some (zr ((a1, 3, 0) : zF)), some (zr ((a2, 2, 0) : zF)), some (zi l3), none] [] h (zQv ρ res)) : ∀ (n : Nat) (l3 : Int32) (l4 : Int32) (h : zH) (res : zH) (hR : zRq h ρ) (e : s_X6_compareDays_L14 a1 a2 k8 n l3 l4 h = some res), zwp (d + 6) zm_X6_compareDays 14 [some (zr ((47, 6, 0) : zF)), some (zr ((a1, 3, 0) : zF)), some (zr ((a2, 2, 0) : zF)), some (zi l3), some (zi l4)] [] h (zQv ρ res) := by
  intro n
  induction n with
  | zero => intro l3 l4 h res hR e; cases e
  | succ n ih =>
    intro l3 l4 h res hR e
    rw [s_X6_compareDays_L14] at e
    refine zwp.go (m := 2) (j := 16) (ls' := [some (zr ((47, 6, 0) : zF)), some (zr ((a1, 3, 0) : zF)), some (zr ((a2, 2, 0) : zF)), some (zi l3), some (zi l4)]) (st' := [zi (99 : Int32), zi l4]) (h' := h) rfl ?_
    refine zb_if (j := 36) (j2 := 17) e rfl (fun e => ?_) (fun e => ?_)
    · refine zwp.go (m := 2) (j := 8) (ls' := [some (zr ((47, 6, 0) : zF)), some (zr ((a1, 3, 0) : zF)), some (zr ((a2, 2, 0) : zF)), some (zi (l3 + (1 : Int32))), some (zi l4)]) (st' := []) (h' := h) rfl ?_
      refine zwp.fg (a := [some (zr ((47, 6, 0) : zF)), some (zr ((a1, 3, 0) : zF)), some (zr ((a2, 2, 0) : zF)), some (zi (l3 + (1 : Int32))), none]) (And.intro rfl (And.intro rfl (And.intro rfl (And.intro rfl trivial)))) ?_
      exact hk8 (l3 + (1 : Int32)) h _ hR e
    · refine zwp.go (m := 2) (j := 19) (ls' := [some (zr ((47, 6, 0) : zF)), some (zr ((a1, 3, 0) : zF)), some (zr ((a2, 2, 0) : zF)), some (zi l3), some (zi l4)]) (st' := [zr ((a2, 2, 0) : zF), zi l4]) (h' := h) rfl ?_
      refine zc_sr (r := (((a2 + 1), 8, 0) : zF)) (zrf (a := a2) (y := 0) hR rfl ha2.2.1) rfl ?_
      refine zc_sr (r := (((a2 + 2), 20, 12) : zF)) (zrf (a := (a2 + 1)) (y := 0) hR rfl ha2.2.2.2.2.2.2.2.2.1) rfl ?_
      refine zwp.go (m := 1) (j := 22) (ls' := [some (zr ((47, 6, 0) : zF)), some (zr ((a1, 3, 0) : zF)), some (zr ((a2, 2, 0) : zF)), some (zi l3), some (zi l4)]) (st' := [zi l3, zr (((a2 + 2), 20, 12) : zF), zi l4]) (h' := h) rfl ?_
      refine zc_ai e (fun _ => rfl) (fun i1 e => ?_)
      refine zb_if (j := 34) (j2 := 24) e rfl (fun e => ?_) (fun e => ?_)
      · refine zwp.go (m := 2) (j := 14) (ls' := [some (zr ((47, 6, 0) : zF)), some (zr ((a1, 3, 0) : zF)), some (zr ((a2, 2, 0) : zF)), some (zi l3), some (zi (l4 + (1 : Int32)))]) (st' := []) (h' := h) rfl ?_
        exact ih l3 (l4 + (1 : Int32)) h _ hR e
      · refine zwp.go (m := 6) (j := 30) (ls' := [some (zr ((47, 6, 0) : zF)), some (zr ((a1, 3, 0) : zF)), some (zr ((a2, 2, 0) : zF)), some (zi l3), some (zi l4)]) (st' := [zi (20 : Int32), zi l4, zi l3, zr ((a2, 2, 0) : zF), zr ((a1, 3, 0) : zF), zr ((47, 6, 0) : zF)]) (h' := h) rfl ?_
        refine zc_ci (d := d + 5) e (fun q e => s_X6_fits_ok (d + 0) ρ hρ a1 a2 l3 l4 (20 : Int32) ha1 ha2 h q hR e) rfl rfl (fun v3 h2 hR2 e => ?_)
        refine zb_if (j := 34) (j2 := 32) e rfl (fun e => ?_) (fun e => ?_)
        · refine zwp.go (m := 2) (j := 14) (ls' := [some (zr ((47, 6, 0) : zF)), some (zr ((a1, 3, 0) : zF)), some (zr ((a2, 2, 0) : zF)), some (zi l3), some (zi (l4 + (1 : Int32)))]) (st' := []) (h' := h2) rfl ?_
          exact ih l3 (l4 + (1 : Int32)) h2 _ hR2 e
        · refine zwp.go (m := 1) (j := 33) (ls' := [some (zr ((47, 6, 0) : zF)), some (zr ((a1, 3, 0) : zF)), some (zr ((a2, 2, 0) : zF)), some (zi l3), some (zi l4)]) (st' := [zr ((47, 6, 0) : zF)]) (h' := h2) rfl ?_
          refine zc_cv (d := d + 5) e (fun q e => s_X6_meet_ok (d + 5) ρ hρ h2 q hR2 e) rfl rfl (fun h4 hR4 e => ?_)
          refine zwp.go (m := 2) (j := 14) (ls' := [some (zr ((47, 6, 0) : zF)), some (zr ((a1, 3, 0) : zF)), some (zr ((a2, 2, 0) : zF)), some (zi l3), some (zi (l4 + (1 : Int32)))]) (st' := []) (h' := h4) rfl ?_
          exact ih l3 (l4 + (1 : Int32)) h4 _ hR4 e
def s_X6_compareDays_L8 (a1 : Nat) (a2 : Nat) : Nat → Int32 → zH → Option (zH)
  | 0, _, _ => none
  | n + 1, l3, h => if (zI h a1 6) ≤ l3 then ((s_X6_chooseDay h).bind fun h1 => zlt (zwI h1 47 8 (1 : Int32)) fun h2 => some h2) else (s_X6_compareDays_L14 a1 a2 (s_X6_compareDays_L8 a1 a2 n) zfu l3 (1 : Int32) h)
set_option maxRecDepth 100000 in
theorem s_X6_compareDays_L8_ok (d : Nat) (ρ : Nat → Nat → Option zF) (hρ : zSh ρ) (a1 : Nat) (a2 : Nat) (ha1 : zPlS ρ a1) (ha2 : zLdS ρ a2) : ∀ (n : Nat) (l3 : Int32) (h : zH) (res : zH) (hR : zRq h ρ) (e : s_X6_compareDays_L8 a1 a2 n l3 h = some res), zwp (d + 6) zm_X6_compareDays 8 [some (zr ((47, 6, 0) : zF)), some (zr ((a1, 3, 0) : zF)), some (zr ((a2, 2, 0) : zF)), some (zi l3), none] [] h (zQv ρ res) := by
  intro n
  induction n with
  | zero => intro l3 h res hR e; cases e
  | succ n ih =>
    intro l3 h res hR e
    rw [s_X6_compareDays_L8] at e
    refine zwp.go (m := 3) (j := 11) (ls' := [some (zr ((47, 6, 0) : zF)), some (zr ((a1, 3, 0) : zF)), some (zr ((a2, 2, 0) : zF)), some (zi l3), none]) (st' := [zi (zI h a1 6), zi l3]) (h' := h) rfl ?_
    refine zb_if (j := 38) (j2 := 12) e rfl (fun e => ?_) (fun e => ?_)
    · refine zwp.go (m := 1) (j := 39) (ls' := [some (zr ((47, 6, 0) : zF)), some (zr ((a1, 3, 0) : zF)), some (zr ((a2, 2, 0) : zF)), some (zi l3), none]) (st' := [zr ((47, 6, 0) : zF)]) (h' := h) rfl ?_
      refine zc_cv (d := d + 5) e (fun q e => s_X6_chooseDay_ok (d + 4) ρ hρ h q hR e) rfl rfl (fun h1 hR1 e => ?_)
      refine zwp.go (m := 2) (j := 42) (ls' := [some (zr ((47, 6, 0) : zF)), some (zr ((a1, 3, 0) : zF)), some (zr ((a2, 2, 0) : zF)), some (zi l3), none]) (st' := [zi (1 : Int32), zr ((47, 6, 0) : zF)]) (h' := h1) rfl ?_
      refine zc_w e rfl hR1 (fun h2 hR2 e => ?_)
      cases e
      exact zwp.rv rfl ⟨⟨rfl, rfl⟩, hR2⟩
    · refine zwp.go (m := 2) (j := 14) (ls' := [some (zr ((47, 6, 0) : zF)), some (zr ((a1, 3, 0) : zF)), some (zr ((a2, 2, 0) : zF)), some (zi l3), some (zi (1 : Int32))]) (st' := []) (h' := h) rfl ?_
      exact s_X6_compareDays_L14_ok d ρ hρ a1 a2 ha1 ha2 (s_X6_compareDays_L8 a1 a2 n) ih zfu l3 (1 : Int32) h _ hR e
def s_X6_compareDays (a1 : Nat) (a2 : Nat) (h : zH) : Option (zH) := if (zI h 47 8) = 0 then ((s_X6_forgetMet h).bind fun h1 => s_X6_compareDays_L8 a1 a2 zfu (0 : Int32) h1) else (some h)
set_option maxRecDepth 100000 in
theorem s_X6_compareDays_ok (d : Nat) (ρ : Nat → Nat → Option zF) (hρ : zSh ρ) (a1 : Nat) (a2 : Nat) (ha1 : zPlS ρ a1) (ha2 : zLdS ρ a2) (h : zH) (res : zH) (hR : zRq h ρ) (e : s_X6_compareDays a1 a2 h = some res) : zcl (d + 6) 277 [zr ((47, 6, 0) : zF), zr ((a1, 3, 0) : zF), zr ((a2, 2, 0) : zF)] h (zQv ρ res) := by
  rw [s_X6_compareDays] at e
  refine ⟨zm_X6_compareDays, rfl, ?_⟩
  show zwp (d + 6) zm_X6_compareDays 0 [some (zr ((47, 6, 0) : zF)), some (zr ((a1, 3, 0) : zF)), some (zr ((a2, 2, 0) : zF)), none, none] [] h _
  refine zwp.go (m := 2) (j := 2) (ls' := [some (zr ((47, 6, 0) : zF)), some (zr ((a1, 3, 0) : zF)), some (zr ((a2, 2, 0) : zF)), none, none]) (st' := [zi (zI h 47 8)]) (h' := h) rfl ?_
  refine zb_if (j := 4) (j2 := 3) e rfl (fun e => ?_) (fun e => ?_)
  · refine zwp.go (m := 1) (j := 5) (ls' := [some (zr ((47, 6, 0) : zF)), some (zr ((a1, 3, 0) : zF)), some (zr ((a2, 2, 0) : zF)), none, none]) (st' := [zr ((47, 6, 0) : zF)]) (h' := h) rfl ?_
    refine zc_cv (d := d + 5) e (fun q e => s_X6_forgetMet_ok (d + 5) ρ hρ h q hR e) rfl rfl (fun h1 hR1 e => ?_)
    refine zwp.go (m := 2) (j := 8) (ls' := [some (zr ((47, 6, 0) : zF)), some (zr ((a1, 3, 0) : zF)), some (zr ((a2, 2, 0) : zF)), some (zi (0 : Int32)), none]) (st' := []) (h' := h1) rfl ?_
    exact s_X6_compareDays_L8_ok d ρ hρ a1 a2 ha1 ha2 zfu (0 : Int32) h1 _ hR1 e
  · cases e
    exact zwp.rv rfl ⟨⟨rfl, rfl⟩, hR⟩
def s_X10_look (pp : Nat) (a1 : Int32) (h : zH) : Option ((Int32 ⊕ Nat) × zH) := zbx (s_X10_needWhat pp a1 (2 : Int32) h) (fun _ h2 => (s_X6_compareDays pp 18 h2).bind fun h3 => if ¬ a1 = 0 then (some (Sum.inl (zI h3 47 10), h3)) else (some (Sum.inl (zI h3 47 9), h3))) (fun x h1 => some (Sum.inr x, h1))
set_option maxRecDepth 100000 in
theorem s_X10_look_ok (d : Nat) (ρ : Nat → Nat → Option zF) (hρ : zSh ρ) (pp : Nat) (a1 : Int32) (hpp : ρ 0 3 = some (pp, 3, 0) ∧ zPlS ρ pp) (h : zH) (res : (Int32 ⊕ Nat) × zH) (hR : zRq h ρ) (e : s_X10_look pp a1 h = some res) : zcl (d + 7) 278 [zr ((0, 10, 0) : zF), zi a1] h (zQx ρ res) := by
  rw [s_X10_look] at e
  refine ⟨zm_X10_look, rfl, ?_⟩
  show zwp (d + 7) zm_X10_look 0 [some (zr ((0, 10, 0) : zF)), some (zi a1)] [] h _
  refine zwp.go (m := 3) (j := 3) (ls' := [some (zr ((0, 10, 0) : zF)), some (zi a1)]) (st' := [zi (2 : Int32), zi a1, zr ((0, 10, 0) : zF)]) (h' := h) rfl ?_
  refine zc_cu (d := d + 6) e (fun q e => s_X10_needWhat_ok (d + 6) ρ hρ pp a1 (2 : Int32) hpp h q hR e) rfl rfl (fun h2 hR2 e => ?_) (fun x h1 hR1 e => ?_)
  · refine zwp.go (m := 1) (j := 5) (ls' := [some (zr ((0, 10, 0) : zF)), some (zi a1)]) (st' := [zr ((0, 10, 0) : zF)]) (h' := h2) rfl ?_
    refine zc_sr (r := ((47, 6, 0) : zF)) (zrf (a := 0) (y := 13) hR2 rfl (hρ 0 13 rfl)) rfl ?_
    refine zwp.go (m := 1) (j := 7) (ls' := [some (zr ((0, 10, 0) : zF)), some (zi a1)]) (st' := [zr ((0, 10, 0) : zF), zr ((47, 6, 0) : zF)]) (h' := h2) rfl ?_
    refine zc_sr (r := ((pp, 3, 0) : zF)) (zrf (a := 0) (y := 3) hR2 rfl hpp.1) rfl ?_
    refine zwp.go (m := 1) (j := 9) (ls' := [some (zr ((0, 10, 0) : zF)), some (zi a1)]) (st' := [zr ((0, 10, 0) : zF), zr ((pp, 3, 0) : zF), zr ((47, 6, 0) : zF)]) (h' := h2) rfl ?_
    refine zc_sr (r := ((18, 2, 0) : zF)) (zrf (a := 0) (y := 6) hR2 rfl (hρ 0 6 rfl)) rfl ?_
    refine zc_cv (d := d + 6) e (fun q e => s_X6_compareDays_ok (d + 0) ρ hρ pp 18 hpp.2 (zSh_ld18 hρ) h2 q hR2 e) rfl rfl (fun h3 hR3 e => ?_)
    refine zwp.go (m := 1) (j := 12) (ls' := [some (zr ((0, 10, 0) : zF)), some (zi a1)]) (st' := [zi a1]) (h' := h3) rfl ?_
    refine zb_if (j := 17) (j2 := 13) e rfl (fun e => ?_) (fun e => ?_)
    · refine zwp.go (m := 1) (j := 18) (ls' := [some (zr ((0, 10, 0) : zF)), some (zi a1)]) (st' := [zr ((0, 10, 0) : zF)]) (h' := h3) rfl ?_
      refine zc_sr (r := ((47, 6, 0) : zF)) (zrf (a := 0) (y := 13) hR3 rfl (hρ 0 13 rfl)) rfl ?_
      refine zwp.go (m := 1) (j := 20) (ls' := [some (zr ((0, 10, 0) : zF)), some (zi a1)]) (st' := [zi (zI h3 47 10)]) (h' := h3) rfl ?_
      cases e
      exact zwp.ret rfl rfl ⟨⟨rfl, rfl⟩, hR3⟩
    · refine zwp.go (m := 1) (j := 14) (ls' := [some (zr ((0, 10, 0) : zF)), some (zi a1)]) (st' := [zr ((0, 10, 0) : zF)]) (h' := h3) rfl ?_
      refine zc_sr (r := ((47, 6, 0) : zF)) (zrf (a := 0) (y := 13) hR3 rfl (hρ 0 13 rfl)) rfl ?_
      refine zwp.go (m := 2) (j := 20) (ls' := [some (zr ((0, 10, 0) : zF)), some (zi a1)]) (st' := [zi (zI h3 47 9)]) (h' := h3) rfl ?_
      cases e
      exact zwp.ret rfl rfl ⟨⟨rfl, rfl⟩, hR3⟩
  · cases e
    exact ⟨rfl, ⟨⟨rfl, rfl⟩, hR1⟩⟩
def s_L_look (pp : Nat) (a1 : Int32) (a2 n2 : Nat) (h : zH) : Option (Int32 × zH) := zbx (s_X10_look pp a1 h) (fun v3 h2 => zix (0 : Int32) n2 fun i5 => zlt (zwL h2 a2 i5 v3.toInt64) fun h4 => some ((0 : Int32), h4)) (fun x h1 => if x = 1 then (some ((1 : Int32), h1)) else none)
set_option maxRecDepth 100000 in
theorem s_L_look_ok (d : Nat) (ρ : Nat → Nat → Option zF) (hρ : zSh ρ) (pp : Nat) (a1 : Int32) (a2 n2 : Nat) (hpp : ρ 0 3 = some (pp, 3, 0) ∧ zPlS ρ pp) (h : zH) (res : Int32 × zH) (hR : zRq h ρ) (e : s_L_look pp a1 a2 n2 h = some res) : zcl (d + 8) 279 [zr ((0, 10, 0) : zF), zi a1, zr ((a2, 23, n2) : zF)] h (zQi ρ res) := by
  rw [s_L_look] at e
  refine ⟨zm_L_look, rfl, ?_⟩
  show zwp (d + 8) zm_L_look 0 [some (zr ((0, 10, 0) : zF)), some (zi a1), some (zr ((a2, 23, n2) : zF)), none] [] h _
  refine zwp.go (m := 4) (j := 4) (ls' := [some (zr ((0, 10, 0) : zF)), some (zi a1), some (zr ((a2, 23, n2) : zF)), none]) (st' := [zi a1, zr ((0, 10, 0) : zF), zi (0 : Int32), zr ((a2, 23, n2) : zF)]) (h' := h) rfl ?_
  refine zc_cx (d := d + 7) e (fun q e => s_X10_look_ok (d + 0) ρ hρ pp a1 hpp h q hR e) rfl rfl (fun v3 h2 hR2 e => ?_) (fun x h1 hR1 e => ?_)
  · refine zwp.go (m := 1) (j := 6) (ls' := [some (zr ((0, 10, 0) : zF)), some (zi a1), some (zr ((a2, 23, n2) : zF)), none]) (st' := [zl v3.toInt64, zi (0 : Int32), zr ((a2, 23, n2) : zF)]) (h' := h2) rfl ?_
    refine zc_sl e (fun _ => rfl) hR2 (fun h4 hR4 e => ?_)
    refine zwp.go (m := 2) (j := 12) (ls' := [some (zr ((0, 10, 0) : zF)), some (zi a1), some (zr ((a2, 23, n2) : zF)), none]) (st' := [zi (0 : Int32)]) (h' := h4) rfl ?_
    cases e
    exact zwp.ret rfl rfl ⟨⟨rfl, rfl⟩, hR4⟩
  · by_cases q1 : x = 1
    · subst q1
      replace e : (some ((1 : Int32), h1)) = some res := by simpa using e
      show zwp _ _ 9 [some (zr ((0, 10, 0) : zF)), some (zi a1), some (zr ((a2, 23, n2) : zF)), none] [] _ _
      refine zwp.go (m := 1) (j := 10) (ls' := [some (zr ((0, 10, 0) : zF)), some (zi a1), some (zr ((a2, 23, n2) : zF)), none]) (st' := [zi (1 : Int32)]) (h' := h1) rfl ?_
      cases e
      exact zwp.ret rfl rfl ⟨⟨rfl, rfl⟩, hR1⟩
    · skip
      simp [q1] at e
def s_X11_unlike_J34 (k10 : (Int32 → Int32 → Int32 → zH → Option (Int32 × zH))) (l1 : Int32) (l3 : Int32) (l4 : Int32) (s0 : Int32) (s1 : Int32) (h : zH) : Option (Int32 × zH) := zix l4 4096 fun i2 => zlt (zwI h 82 i2 (zI h 52 56)) fun h1 => k10 l1 (s0 + s1) (l3 + (1 : Int32)) h1
set_option maxRecDepth 100000 in
theorem s_X11_unlike_J34_ok (d : Nat) (ρ : Nat → Nat → Option zF) (hρ : zSh ρ) (k10 : (Int32 → Int32 → Int32 → zH → Option (Int32 × zH))) (hk10 : ∀ l1 l2 l3 h res, zRq h ρ → k10 l1 l2 l3 h = some res → zwp d zm_X11_unlike 10 [some (zr ((52, 11, 0) : zF)), some (zi l1), some (zi l2), some (zi l3), none] [] h (zQi ρ res)) (l1 : Int32) (l3 : Int32) (l4 : Int32) (s0 : Int32) (s1 : Int32) (h : zH) (res : Int32 × zH) (hR : zRq h ρ) (e : s_X11_unlike_J34 k10 l1 l3 l4 s0 s1 h = some res) : zwp d zm_X11_unlike 34 [some (zr ((52, 11, 0) : zF)), some (zi l1), none, some (zi l3), some (zi l4)] [zi s1, zi s0] h (zQi ρ res) := by
  rw [s_X11_unlike_J34] at e
  refine zwp.go (m := 3) (j := 37) (ls' := [some (zr ((52, 11, 0) : zF)), some (zi l1), some (zi (s0 + s1)), some (zi l3), some (zi l4)]) (st' := [zr ((52, 11, 0) : zF)]) (h' := h) rfl ?_
  refine zc_sr (r := ((82, 20, 4096) : zF)) (zrf (a := 52) (y := 55) hR rfl (hρ 52 55 rfl)) rfl ?_
  refine zwp.go (m := 3) (j := 41) (ls' := [some (zr ((52, 11, 0) : zF)), some (zi l1), some (zi (s0 + s1)), some (zi l3), some (zi l4)]) (st' := [zi (zI h 52 56), zi l4, zr ((82, 20, 4096) : zF)]) (h' := h) rfl ?_
  refine zc_si e (fun _ => rfl) hR (fun h1 hR1 e => ?_)
  refine zwp.go (m := 2) (j := 10) (ls' := [some (zr ((52, 11, 0) : zF)), some (zi l1), some (zi (s0 + s1)), some (zi (l3 + (1 : Int32))), some (zi l4)]) (st' := []) (h' := h1) rfl ?_
  refine zwp.fg (a := [some (zr ((52, 11, 0) : zF)), some (zi l1), some (zi (s0 + s1)), some (zi (l3 + (1 : Int32))), none]) (And.intro rfl (And.intro rfl (And.intro rfl (And.intro rfl trivial)))) ?_
  exact hk10 l1 (s0 + s1) (l3 + (1 : Int32)) h1 _ hR1 e
def s_X11_unlike_L10 : Nat → Int32 → Int32 → Int32 → zH → Option (Int32 × zH)
  | 0, _, _, _, _ => none
  | n + 1, l1, l2, l3, h => if (zI h 52 54) ≤ l3 then (some (l2, h)) else (zix (((20 : Int32) * l3) + l1) 23760 fun i1 => zix (zI h 81 i1) 4096 fun i2 => if ¬ (zI h 82 i2) = (zI h 52 56) then (s_X11_unlike_J34 (s_X11_unlike_L10 n) l1 l3 (zI h 81 i1) l2 (1 : Int32) h) else (s_X11_unlike_J34 (s_X11_unlike_L10 n) l1 l3 (zI h 81 i1) l2 (0 : Int32) h))
set_option maxRecDepth 100000 in
theorem s_X11_unlike_L10_ok (d : Nat) (ρ : Nat → Nat → Option zF) (hρ : zSh ρ) : ∀ (n : Nat) (l1 : Int32) (l2 : Int32) (l3 : Int32) (h : zH) (res : Int32 × zH) (hR : zRq h ρ) (e : s_X11_unlike_L10  n l1 l2 l3 h = some res), zwp d zm_X11_unlike 10 [some (zr ((52, 11, 0) : zF)), some (zi l1), some (zi l2), some (zi l3), none] [] h (zQi ρ res) := by
  intro n
  induction n with
  | zero => intro l1 l2 l3 h res hR e; cases e
  | succ n ih =>
    intro l1 l2 l3 h res hR e
    rw [s_X11_unlike_L10] at e
    refine zwp.go (m := 3) (j := 13) (ls' := [some (zr ((52, 11, 0) : zF)), some (zi l1), some (zi l2), some (zi l3), none]) (st' := [zi (zI h 52 54), zi l3]) (h' := h) rfl ?_
    refine zb_if (j := 44) (j2 := 14) e rfl (fun e => ?_) (fun e => ?_)
    · refine zwp.go (m := 1) (j := 45) (ls' := [some (zr ((52, 11, 0) : zF)), some (zi l1), some (zi l2), some (zi l3), none]) (st' := [zi l2]) (h' := h) rfl ?_
      cases e
      exact zwp.ret rfl rfl ⟨⟨rfl, rfl⟩, hR⟩
    · refine zwp.go (m := 1) (j := 15) (ls' := [some (zr ((52, 11, 0) : zF)), some (zi l1), some (zi l2), some (zi l3), none]) (st' := [zr ((52, 11, 0) : zF)]) (h' := h) rfl ?_
      refine zc_sr (r := ((81, 20, 23760) : zF)) (zrf (a := 52) (y := 53) hR rfl (hρ 52 53 rfl)) rfl ?_
      refine zwp.go (m := 5) (j := 21) (ls' := [some (zr ((52, 11, 0) : zF)), some (zi l1), some (zi l2), some (zi l3), none]) (st' := [zi (((20 : Int32) * l3) + l1), zr ((81, 20, 23760) : zF)]) (h' := h) rfl ?_
      refine zc_ai e (fun _ => rfl) (fun i1 e => ?_)
      refine zwp.go (m := 3) (j := 25) (ls' := [some (zr ((52, 11, 0) : zF)), some (zi l1), some (zi l2), some (zi l3), some (zi (zI h 81 i1))]) (st' := [zr ((52, 11, 0) : zF), zi l2]) (h' := h) rfl ?_
      refine zc_sr (r := ((82, 20, 4096) : zF)) (zrf (a := 52) (y := 55) hR rfl (hρ 52 55 rfl)) rfl ?_
      refine zwp.go (m := 1) (j := 27) (ls' := [some (zr ((52, 11, 0) : zF)), some (zi l1), some (zi l2), some (zi l3), some (zi (zI h 81 i1))]) (st' := [zi (zI h 81 i1), zr ((82, 20, 4096) : zF), zi l2]) (h' := h) rfl ?_
      refine zc_ai e (fun _ => rfl) (fun i2 e => ?_)
      refine zwp.go (m := 2) (j := 30) (ls' := [some (zr ((52, 11, 0) : zF)), some (zi l1), some (zi l2), some (zi l3), some (zi (zI h 81 i1))]) (st' := [zi (zI h 52 56), zi (zI h 82 i2), zi l2]) (h' := h) rfl ?_
      refine zb_if (j := 33) (j2 := 31) e rfl (fun e => ?_) (fun e => ?_)
      · refine zwp.go (m := 1) (j := 34) (ls' := [some (zr ((52, 11, 0) : zF)), some (zi l1), some (zi l2), some (zi l3), some (zi (zI h 81 i1))]) (st' := [zi (1 : Int32), zi l2]) (h' := h) rfl ?_
        refine zwp.fg (a := [some (zr ((52, 11, 0) : zF)), some (zi l1), none, some (zi l3), some (zi (zI h 81 i1))]) (And.intro rfl (And.intro rfl (And.intro rfl (And.intro rfl trivial)))) ?_
        exact s_X11_unlike_J34_ok d ρ hρ (s_X11_unlike_L10 n) ih l1 l3 (zI h 81 i1) l2 (1 : Int32) h _ hR e
      · refine zwp.go (m := 2) (j := 34) (ls' := [some (zr ((52, 11, 0) : zF)), some (zi l1), some (zi l2), some (zi l3), some (zi (zI h 81 i1))]) (st' := [zi (0 : Int32), zi l2]) (h' := h) rfl ?_
        refine zwp.fg (a := [some (zr ((52, 11, 0) : zF)), some (zi l1), none, some (zi l3), some (zi (zI h 81 i1))]) (And.intro rfl (And.intro rfl (And.intro rfl (And.intro rfl trivial)))) ?_
        exact s_X11_unlike_J34_ok d ρ hρ (s_X11_unlike_L10 n) ih l1 l3 (zI h 81 i1) l2 (0 : Int32) h _ hR e
def s_X11_unlike (a1 : Int32) (h : zH) : Option (Int32 × zH) := zlt (zwI h 52 56 ((zI h 52 56) + (1 : Int32))) fun h1 => s_X11_unlike_L10 zfu a1 (0 : Int32) (0 : Int32) h1
set_option maxRecDepth 100000 in
theorem s_X11_unlike_ok (d : Nat) (ρ : Nat → Nat → Option zF) (hρ : zSh ρ) (a1 : Int32) (h : zH) (res : Int32 × zH) (hR : zRq h ρ) (e : s_X11_unlike a1 h = some res) : zcl d 280 [zr ((52, 11, 0) : zF), zi a1] h (zQi ρ res) := by
  rw [s_X11_unlike] at e
  refine ⟨zm_X11_unlike, rfl, ?_⟩
  show zwp d zm_X11_unlike 0 [some (zr ((52, 11, 0) : zF)), some (zi a1), none, none, none] [] h _
  refine zwp.go (m := 7) (j := 7) (ls' := [some (zr ((52, 11, 0) : zF)), some (zi a1), some (zi (0 : Int32)), none, none]) (st' := [zi ((zI h 52 56) + (1 : Int32)), zr ((52, 11, 0) : zF)]) (h' := h) rfl ?_
  refine zc_w e rfl hR (fun h1 hR1 e => ?_)
  refine zwp.go (m := 2) (j := 10) (ls' := [some (zr ((52, 11, 0) : zF)), some (zi a1), some (zi (0 : Int32)), some (zi (0 : Int32)), none]) (st' := []) (h' := h1) rfl ?_
  exact s_X11_unlike_L10_ok d ρ hρ zfu a1 (0 : Int32) (0 : Int32) h1 _ hR1 e
def s_X11_look_L73 : Nat → Int32 → Int32 → Int32 → Int32 → zH → Option (Int32 × zH)
  | 0, _, _, _, _, _ => none
  | n + 1, l1, l2, l3, l4, h => if (20 : Int32) ≤ l4 then (if ¬ l1 = 0 then (some (l3, h)) else (some (l2, h))) else (zbd (s_X11_unlike l4 h) fun v2 h1 => if l3 < v2 then (s_X11_look_L73 n l1 (l4 + (1 : Int32)) v2 (l4 + (1 : Int32)) h1) else (s_X11_look_L73 n l1 l2 l3 (l4 + (1 : Int32)) h1))
set_option maxRecDepth 100000 in
theorem s_X11_look_L73_ok (d : Nat) (ρ : Nat → Nat → Option zF) (hρ : zSh ρ) : ∀ (n : Nat) (l1 : Int32) (l2 : Int32) (l3 : Int32) (l4 : Int32) (h : zH) (res : Int32 × zH) (hR : zRq h ρ) (e : s_X11_look_L73  n l1 l2 l3 l4 h = some res), zwp (d + 7) zm_X11_look 73 [some (zr ((52, 11, 0) : zF)), some (zi l1), some (zi l2), some (zi l3), some (zi l4), none] [] h (zQi ρ res) := by
  intro n
  induction n with
  | zero => intro l1 l2 l3 l4 h res hR e; cases e
  | succ n ih =>
    intro l1 l2 l3 l4 h res hR e
    rw [s_X11_look_L73] at e
    refine zwp.go (m := 2) (j := 75) (ls' := [some (zr ((52, 11, 0) : zF)), some (zi l1), some (zi l2), some (zi l3), some (zi l4), none]) (st' := [zi (20 : Int32), zi l4]) (h' := h) rfl ?_
    refine zb_if (j := 92) (j2 := 76) e rfl (fun e => ?_) (fun e => ?_)
    · refine zwp.go (m := 1) (j := 93) (ls' := [some (zr ((52, 11, 0) : zF)), some (zi l1), some (zi l2), some (zi l3), some (zi l4), none]) (st' := [zi l1]) (h' := h) rfl ?_
      refine zb_if (j := 96) (j2 := 94) e rfl (fun e => ?_) (fun e => ?_)
      · refine zwp.go (m := 1) (j := 97) (ls' := [some (zr ((52, 11, 0) : zF)), some (zi l1), some (zi l2), some (zi l3), some (zi l4), none]) (st' := [zi l3]) (h' := h) rfl ?_
        cases e
        exact zwp.ret rfl rfl ⟨⟨rfl, rfl⟩, hR⟩
      · refine zwp.go (m := 2) (j := 97) (ls' := [some (zr ((52, 11, 0) : zF)), some (zi l1), some (zi l2), some (zi l3), some (zi l4), none]) (st' := [zi l2]) (h' := h) rfl ?_
        cases e
        exact zwp.ret rfl rfl ⟨⟨rfl, rfl⟩, hR⟩
    · refine zwp.go (m := 2) (j := 78) (ls' := [some (zr ((52, 11, 0) : zF)), some (zi l1), some (zi l2), some (zi l3), some (zi l4), none]) (st' := [zi l4, zr ((52, 11, 0) : zF)]) (h' := h) rfl ?_
      refine zc_ci (d := d + 6) e (fun q e => s_X11_unlike_ok (d + 6) ρ hρ l4 h q hR e) rfl rfl (fun v2 h1 hR1 e => ?_)
      refine zwp.go (m := 3) (j := 82) (ls' := [some (zr ((52, 11, 0) : zF)), some (zi l1), some (zi l2), some (zi l3), some (zi l4), some (zi v2)]) (st' := [zi l3, zi v2]) (h' := h1) rfl ?_
      refine zb_if (j := 84) (j2 := 83) e rfl (fun e => ?_) (fun e => ?_)
      · refine zwp.go (m := 8) (j := 73) (ls' := [some (zr ((52, 11, 0) : zF)), some (zi l1), some (zi (l4 + (1 : Int32))), some (zi v2), some (zi (l4 + (1 : Int32))), some (zi v2)]) (st' := []) (h' := h1) rfl ?_
        refine zwp.fg (a := [some (zr ((52, 11, 0) : zF)), some (zi l1), some (zi (l4 + (1 : Int32))), some (zi v2), some (zi (l4 + (1 : Int32))), none]) (And.intro rfl (And.intro rfl (And.intro rfl (And.intro rfl (And.intro rfl trivial))))) ?_
        exact ih l1 (l4 + (1 : Int32)) v2 (l4 + (1 : Int32)) h1 _ hR1 e
      · refine zwp.go (m := 3) (j := 73) (ls' := [some (zr ((52, 11, 0) : zF)), some (zi l1), some (zi l2), some (zi l3), some (zi (l4 + (1 : Int32))), some (zi v2)]) (st' := []) (h' := h1) rfl ?_
        refine zwp.fg (a := [some (zr ((52, 11, 0) : zF)), some (zi l1), some (zi l2), some (zi l3), some (zi (l4 + (1 : Int32))), none]) (And.intro rfl (And.intro rfl (And.intro rfl (And.intro rfl (And.intro rfl trivial))))) ?_
        exact ih l1 l2 l3 (l4 + (1 : Int32)) h1 _ hR1 e
def s_X11_look_L43 (k22 : (Int32 → Int32 → zH → Option (Int32 × zH))) : Nat → Int32 → Int32 → Int32 → zH → Option (Int32 × zH)
  | 0, _, _, _, _ => none
  | n + 1, l1, l2, l3, h => if (20 : Int32) ≤ l3 then ((s_X11_unpack 71 38 (0 : Int32) h).bind fun h1 => k22 l1 (l2 + (1 : Int32)) h1) else ((s_X11_aDay h).bind fun h2 => (s_X11_goneNow h2).bind fun v3 => zix (((20 : Int32) * l2) + l3) 23760 fun i5 => zlt (zwI h2 81 i5 v3) fun h4 => s_X11_look_L43 k22 n l1 l2 (l3 + (1 : Int32)) h4)
set_option maxRecDepth 100000 in
theorem s_X11_look_L43_ok (d : Nat) (ρ : Nat → Nat → Option zF) (hρ : zSh ρ) (k22 : (Int32 → Int32 → zH → Option (Int32 × zH))) (hk22 : ∀ l1 l2 h res, zRq h ρ → k22 l1 l2 h = some res → zwp (d + 7) zm_X11_look 22 [some (zr ((52, 11, 0) : zF)), some (zi l1), some (zi l2), none, none, none] [] h (zQi ρ res)) : ∀ (n : Nat) (l1 : Int32) (l2 : Int32) (l3 : Int32) (h : zH) (res : Int32 × zH) (hR : zRq h ρ) (e : s_X11_look_L43 k22 n l1 l2 l3 h = some res), zwp (d + 7) zm_X11_look 43 [some (zr ((52, 11, 0) : zF)), some (zi l1), some (zi l2), some (zi l3), none, none] [] h (zQi ρ res) := by
  intro n
  induction n with
  | zero => intro l1 l2 l3 h res hR e; cases e
  | succ n ih =>
    intro l1 l2 l3 h res hR e
    rw [s_X11_look_L43] at e
    refine zwp.go (m := 2) (j := 45) (ls' := [some (zr ((52, 11, 0) : zF)), some (zi l1), some (zi l2), some (zi l3), none, none]) (st' := [zi (20 : Int32), zi l3]) (h' := h) rfl ?_
    refine zb_if (j := 60) (j2 := 46) e rfl (fun e => ?_) (fun e => ?_)
    · refine zwp.go (m := 2) (j := 62) (ls' := [some (zr ((52, 11, 0) : zF)), some (zi l1), some (zi l2), some (zi l3), none, none]) (st' := [zr ((52, 11, 0) : zF), zr ((52, 11, 0) : zF)]) (h' := h) rfl ?_
      refine zc_sr (r := ((71, 20, 38) : zF)) (zrf (a := 52) (y := 42) hR rfl (hρ 52 42 rfl)) rfl ?_
      refine zwp.go (m := 1) (j := 64) (ls' := [some (zr ((52, 11, 0) : zF)), some (zi l1), some (zi l2), some (zi l3), none, none]) (st' := [zi (0 : Int32), zr ((71, 20, 38) : zF), zr ((52, 11, 0) : zF)]) (h' := h) rfl ?_
      refine zc_cv (d := d + 6) e (fun q e => s_X11_unpack_ok (d + 6) ρ hρ 71 38 (0 : Int32) h q hR e) rfl rfl (fun h1 hR1 e => ?_)
      refine zwp.go (m := 2) (j := 22) (ls' := [some (zr ((52, 11, 0) : zF)), some (zi l1), some (zi (l2 + (1 : Int32))), some (zi l3), none, none]) (st' := []) (h' := h1) rfl ?_
      refine zwp.fg (a := [some (zr ((52, 11, 0) : zF)), some (zi l1), some (zi (l2 + (1 : Int32))), none, none, none]) (And.intro rfl (And.intro rfl (And.intro rfl trivial))) ?_
      exact hk22 l1 (l2 + (1 : Int32)) h1 _ hR1 e
    · refine zwp.go (m := 1) (j := 47) (ls' := [some (zr ((52, 11, 0) : zF)), some (zi l1), some (zi l2), some (zi l3), none, none]) (st' := [zr ((52, 11, 0) : zF)]) (h' := h) rfl ?_
      refine zc_cv (d := d + 6) e (fun q e => s_X11_aDay_ok (d + 2) ρ hρ h q hR e) rfl rfl (fun h2 hR2 e => ?_)
      refine zwp.go (m := 1) (j := 49) (ls' := [some (zr ((52, 11, 0) : zF)), some (zi l1), some (zi l2), some (zi l3), none, none]) (st' := [zr ((52, 11, 0) : zF)]) (h' := h2) rfl ?_
      refine zc_sr (r := ((81, 20, 23760) : zF)) (zrf (a := 52) (y := 53) hR2 rfl (hρ 52 53 rfl)) rfl ?_
      refine zwp.go (m := 6) (j := 56) (ls' := [some (zr ((52, 11, 0) : zF)), some (zi l1), some (zi l2), some (zi l3), none, none]) (st' := [zr ((52, 11, 0) : zF), zi (((20 : Int32) * l2) + l3), zr ((81, 20, 23760) : zF)]) (h' := h2) rfl ?_
      refine zc_cp (d := d + 6) e (fun q e => s_X11_goneNow_ok (d + 6) ρ hρ h2 q hR2 e) rfl rfl (fun v3 e => ?_)
      refine zc_si e (fun _ => rfl) hR2 (fun h4 hR4 e => ?_)
      refine zwp.go (m := 2) (j := 43) (ls' := [some (zr ((52, 11, 0) : zF)), some (zi l1), some (zi l2), some (zi (l3 + (1 : Int32))), none, none]) (st' := []) (h' := h4) rfl ?_
      exact ih l1 l2 (l3 + (1 : Int32)) h4 _ hR4 e
def s_X11_look_L22 : Nat → Int32 → Int32 → zH → Option (Int32 × zH)
  | 0, _, _, _ => none
  | n + 1, l1, l2, h => if (zI h 52 54) ≤ l2 then (s_X11_look_L73 zfu l1 (-1 : Int32) (0 : Int32) (0 : Int32) h) else (zix l2 1188 fun i1 => (zdv (zI h 80 i1) (100 : Int32)).bind fun v2 => zix l2 1188 fun i3 => (zre (zI h 80 i3) (100 : Int32)).bind fun v4 => zix v2 12 fun i6 => zlt (zwI h 64 i6 v4) fun h5 => s_X11_look_L43 (s_X11_look_L22 n) zfu l1 l2 (0 : Int32) h5)
set_option maxRecDepth 100000 in
theorem s_X11_look_L22_ok (d : Nat) (ρ : Nat → Nat → Option zF) (hρ : zSh ρ) : ∀ (n : Nat) (l1 : Int32) (l2 : Int32) (h : zH) (res : Int32 × zH) (hR : zRq h ρ) (e : s_X11_look_L22  n l1 l2 h = some res), zwp (d + 7) zm_X11_look 22 [some (zr ((52, 11, 0) : zF)), some (zi l1), some (zi l2), none, none, none] [] h (zQi ρ res) := by
  intro n
  induction n with
  | zero => intro l1 l2 h res hR e; cases e
  | succ n ih =>
    intro l1 l2 h res hR e
    rw [s_X11_look_L22] at e
    refine zwp.go (m := 3) (j := 25) (ls' := [some (zr ((52, 11, 0) : zF)), some (zi l1), some (zi l2), none, none, none]) (st' := [zi (zI h 52 54), zi l2]) (h' := h) rfl ?_
    refine zb_if (j := 67) (j2 := 26) e rfl (fun e => ?_) (fun e => ?_)
    · refine zwp.go (m := 6) (j := 73) (ls' := [some (zr ((52, 11, 0) : zF)), some (zi l1), some (zi (-1 : Int32)), some (zi (0 : Int32)), some (zi (0 : Int32)), none]) (st' := []) (h' := h) rfl ?_
      exact s_X11_look_L73_ok d ρ hρ zfu l1 (-1 : Int32) (0 : Int32) (0 : Int32) h _ hR e
    · refine zwp.go (m := 1) (j := 27) (ls' := [some (zr ((52, 11, 0) : zF)), some (zi l1), some (zi l2), none, none, none]) (st' := [zr ((52, 11, 0) : zF)]) (h' := h) rfl ?_
      refine zc_sr (r := ((64, 20, 12) : zF)) (zrf (a := 52) (y := 24) hR rfl (hρ 52 24 rfl)) rfl ?_
      refine zwp.go (m := 1) (j := 29) (ls' := [some (zr ((52, 11, 0) : zF)), some (zi l1), some (zi l2), none, none, none]) (st' := [zr ((52, 11, 0) : zF), zr ((64, 20, 12) : zF)]) (h' := h) rfl ?_
      refine zc_sr (r := ((80, 20, 1188) : zF)) (zrf (a := 52) (y := 52) hR rfl (hρ 52 52 rfl)) rfl ?_
      refine zwp.go (m := 1) (j := 31) (ls' := [some (zr ((52, 11, 0) : zF)), some (zi l1), some (zi l2), none, none, none]) (st' := [zi l2, zr ((80, 20, 1188) : zF), zr ((64, 20, 12) : zF)]) (h' := h) rfl ?_
      refine zc_ai e (fun _ => rfl) (fun i1 e => ?_)
      refine zwp.go (m := 1) (j := 33) (ls' := [some (zr ((52, 11, 0) : zF)), some (zi l1), some (zi l2), none, none, none]) (st' := [zi (100 : Int32), zi (zI h 80 i1), zr ((64, 20, 12) : zF)]) (h' := h) rfl ?_
      refine zb_dv e rfl (fun v2 e => ?_)
      refine zwp.go (m := 1) (j := 35) (ls' := [some (zr ((52, 11, 0) : zF)), some (zi l1), some (zi l2), none, none, none]) (st' := [zr ((52, 11, 0) : zF), zi v2, zr ((64, 20, 12) : zF)]) (h' := h) rfl ?_
      refine zc_sr (r := ((80, 20, 1188) : zF)) (zrf (a := 52) (y := 52) hR rfl (hρ 52 52 rfl)) rfl ?_
      refine zwp.go (m := 1) (j := 37) (ls' := [some (zr ((52, 11, 0) : zF)), some (zi l1), some (zi l2), none, none, none]) (st' := [zi l2, zr ((80, 20, 1188) : zF), zi v2, zr ((64, 20, 12) : zF)]) (h' := h) rfl ?_
      refine zc_ai e (fun _ => rfl) (fun i3 e => ?_)
      refine zwp.go (m := 1) (j := 39) (ls' := [some (zr ((52, 11, 0) : zF)), some (zi l1), some (zi l2), none, none, none]) (st' := [zi (100 : Int32), zi (zI h 80 i3), zi v2, zr ((64, 20, 12) : zF)]) (h' := h) rfl ?_
      refine zb_re e rfl (fun v4 e => ?_)
      refine zc_si e (fun _ => rfl) hR (fun h5 hR5 e => ?_)
      refine zwp.go (m := 2) (j := 43) (ls' := [some (zr ((52, 11, 0) : zF)), some (zi l1), some (zi l2), some (zi (0 : Int32)), none, none]) (st' := []) (h' := h5) rfl ?_
      exact s_X11_look_L43_ok d ρ hρ (s_X11_look_L22 n) ih zfu l1 l2 (0 : Int32) h5 _ hR5 e
def s_X11_look (a1 : Int32) (h : zH) : Option (Int32 × zH) := zlt (zwI h 52 4 (0 : Int32)) fun h1 => (s_X11_isIn a1.toInt64 (0 : Int64) (1 : Int64) h1).bind fun v2 => if ¬ v2 = 0 then ((s_X11_tellFits h1).bind fun h3 => (s_X11_pack 71 38 (0 : Int32) h3).bind fun h4 => s_X11_look_L22 zfu a1 (0 : Int32) h4) else (zbd (s_X11_fail (1 : Int32) h1) fun v6 h5 => some (v6, h5))
set_option maxRecDepth 100000 in
theorem s_X11_look_ok (d : Nat) (ρ : Nat → Nat → Option zF) (hρ : zSh ρ) (a1 : Int32) (h : zH) (res : Int32 × zH) (hR : zRq h ρ) (e : s_X11_look a1 h = some res) : zcl (d + 7) 281 [zr ((52, 11, 0) : zF), zi a1] h (zQi ρ res) := by
  rw [s_X11_look] at e
  refine ⟨zm_X11_look, rfl, ?_⟩
  show zwp (d + 7) zm_X11_look 0 [some (zr ((52, 11, 0) : zF)), some (zi a1), none, none, none, none] [] h _
  refine zwp.go (m := 2) (j := 2) (ls' := [some (zr ((52, 11, 0) : zF)), some (zi a1), none, none, none, none]) (st' := [zi (0 : Int32), zr ((52, 11, 0) : zF)]) (h' := h) rfl ?_
  refine zc_w e rfl hR (fun h1 hR1 e => ?_)
  refine zwp.go (m := 4) (j := 7) (ls' := [some (zr ((52, 11, 0) : zF)), some (zi a1), none, none, none, none]) (st' := [zl (1 : Int64), zl (0 : Int64), zl a1.toInt64]) (h' := h1) rfl ?_
  refine zc_cp (d := d + 6) e (fun q e => s_X11_isIn_ok (d + 6) ρ hρ a1.toInt64 (0 : Int64) (1 : Int64) h1 q hR1 e) rfl rfl (fun v2 e => ?_)
  refine zb_if (j := 13) (j2 := 9) e rfl (fun e => ?_) (fun e => ?_)
  · refine zwp.go (m := 1) (j := 14) (ls' := [some (zr ((52, 11, 0) : zF)), some (zi a1), none, none, none, none]) (st' := [zr ((52, 11, 0) : zF)]) (h' := h1) rfl ?_
    refine zc_cv (d := d + 6) e (fun q e => s_X11_tellFits_ok (d + 0) ρ hρ h1 q hR1 e) rfl rfl (fun h3 hR3 e => ?_)
    refine zwp.go (m := 2) (j := 17) (ls' := [some (zr ((52, 11, 0) : zF)), some (zi a1), none, none, none, none]) (st' := [zr ((52, 11, 0) : zF), zr ((52, 11, 0) : zF)]) (h' := h3) rfl ?_
    refine zc_sr (r := ((71, 20, 38) : zF)) (zrf (a := 52) (y := 42) hR3 rfl (hρ 52 42 rfl)) rfl ?_
    refine zwp.go (m := 1) (j := 19) (ls' := [some (zr ((52, 11, 0) : zF)), some (zi a1), none, none, none, none]) (st' := [zi (0 : Int32), zr ((71, 20, 38) : zF), zr ((52, 11, 0) : zF)]) (h' := h3) rfl ?_
    refine zc_cv (d := d + 6) e (fun q e => s_X11_pack_ok (d + 6) ρ hρ 71 38 (0 : Int32) h3 q hR3 e) rfl rfl (fun h4 hR4 e => ?_)
    refine zwp.go (m := 2) (j := 22) (ls' := [some (zr ((52, 11, 0) : zF)), some (zi a1), some (zi (0 : Int32)), none, none, none]) (st' := []) (h' := h4) rfl ?_
    exact s_X11_look_L22_ok d ρ hρ zfu a1 (0 : Int32) h4 _ hR4 e
  · refine zwp.go (m := 2) (j := 11) (ls' := [some (zr ((52, 11, 0) : zF)), some (zi a1), none, none, none, none]) (st' := [zi (1 : Int32), zr ((52, 11, 0) : zF)]) (h' := h1) rfl ?_
    refine zc_ci (d := d + 6) e (fun q e => s_X11_fail_ok (d + 6) ρ hρ (1 : Int32) h1 q hR1 e) rfl rfl (fun v6 h5 hR5 e => ?_)
    cases e
    exact zwp.ret rfl rfl ⟨⟨rfl, rfl⟩, hR5⟩
def s_X10_forget (pp : Nat) (h : zH) : Option (zH) := zlt (zwI h 18 7 (0 : Int32)) fun h1 => (s_X10_noteChange pp h1).bind fun h2 => some h2
set_option maxRecDepth 100000 in
theorem s_X10_forget_ok (d : Nat) (ρ : Nat → Nat → Option zF) (hρ : zSh ρ) (pp : Nat) (hpp : ρ 0 3 = some (pp, 3, 0) ∧ zPlS ρ pp) (h : zH) (res : zH) (hR : zRq h ρ) (e : s_X10_forget pp h = some res) : zcl (d + 1) 282 [zr ((0, 10, 0) : zF)] h (zQv ρ res) := by
  rw [s_X10_forget] at e
  refine ⟨zm_X10_forget, rfl, ?_⟩
  show zwp (d + 1) zm_X10_forget 0 [some (zr ((0, 10, 0) : zF))] [] h _
  refine zwp.go (m := 1) (j := 1) (ls' := [some (zr ((0, 10, 0) : zF))]) (st' := [zr ((0, 10, 0) : zF)]) (h' := h) rfl ?_
  refine zc_sr (r := ((18, 2, 0) : zF)) (zrf (a := 0) (y := 6) hR rfl (hρ 0 6 rfl)) rfl ?_
  refine zwp.go (m := 1) (j := 3) (ls' := [some (zr ((0, 10, 0) : zF))]) (st' := [zi (0 : Int32), zr ((18, 2, 0) : zF)]) (h' := h) rfl ?_
  refine zc_w e rfl hR (fun h1 hR1 e => ?_)
  refine zwp.go (m := 1) (j := 5) (ls' := [some (zr ((0, 10, 0) : zF))]) (st' := [zr ((0, 10, 0) : zF)]) (h' := h1) rfl ?_
  refine zc_cv (d := d + 0) e (fun q e => s_X10_noteChange_ok (d + 0) ρ hρ pp hpp h1 q hR1 e) rfl rfl (fun h2 hR2 e => ?_)
  cases e
  exact zwp.rv rfl ⟨⟨rfl, rfl⟩, hR2⟩
def s_X11_forget (h : zH) : Option (zH) := zlt (zwI h 52 4 (0 : Int32)) fun h1 => zlt (zwI h1 52 36 (0 : Int32)) fun h2 => some h2
set_option maxRecDepth 100000 in
theorem s_X11_forget_ok (d : Nat) (ρ : Nat → Nat → Option zF) (hρ : zSh ρ) (h : zH) (res : zH) (hR : zRq h ρ) (e : s_X11_forget  h = some res) : zcl d 283 [zr ((52, 11, 0) : zF)] h (zQv ρ res) := by
  rw [s_X11_forget] at e
  refine ⟨zm_X11_forget, rfl, ?_⟩
  show zwp d zm_X11_forget 0 [some (zr ((52, 11, 0) : zF))] [] h _
  refine zwp.go (m := 2) (j := 2) (ls' := [some (zr ((52, 11, 0) : zF))]) (st' := [zi (0 : Int32), zr ((52, 11, 0) : zF)]) (h' := h) rfl ?_
  refine zc_w e rfl hR (fun h1 hR1 e => ?_)
  refine zwp.go (m := 2) (j := 5) (ls' := [some (zr ((52, 11, 0) : zF))]) (st' := [zi (0 : Int32), zr ((52, 11, 0) : zF)]) (h' := h1) rfl ?_
  refine zc_w e rfl hR1 (fun h2 hR2 e => ?_)
  cases e
  exact zwp.rv rfl ⟨⟨rfl, rfl⟩, hR2⟩
def s_X8_weaken_L2 (a0 : Nat) : Nat → Int32 → Int32 → Int32 → zH → Option (zH)
  | 0, _, _, _, _ => none
  | n + 1, l1, l2, l3, h => if l1 ≤ l3 then (some h) else (zix l3 12 fun i1 => (s_J9_max_7cf53 (0 : Int32) ((zI h (a0 + 1) i1) - l2) h).bind fun v2 => zix l3 12 fun i4 => zlt (zwI h (a0 + 1) i4 v2) fun h3 => s_X8_weaken_L2 a0 n l1 l2 (l3 + (1 : Int32)) h3)
set_option maxRecDepth 100000 in
theorem s_X8_weaken_L2_ok (d : Nat) (ρ : Nat → Nat → Option zF) (hρ : zSh ρ) (a0 : Nat) (ha0 : zStS ρ a0) : ∀ (n : Nat) (l1 : Int32) (l2 : Int32) (l3 : Int32) (h : zH) (res : zH) (hR : zRq h ρ) (e : s_X8_weaken_L2 a0 n l1 l2 l3 h = some res), zwp (d + 1) zm_X8_weaken 2 [some (zr ((a0, 8, 0) : zF)), some (zi l1), some (zi l2), some (zi l3)] [] h (zQv ρ res) := by
  intro n
  induction n with
  | zero => intro l1 l2 l3 h res hR e; cases e
  | succ n ih =>
    intro l1 l2 l3 h res hR e
    rw [s_X8_weaken_L2] at e
    refine zwp.go (m := 2) (j := 4) (ls' := [some (zr ((a0, 8, 0) : zF)), some (zi l1), some (zi l2), some (zi l3)]) (st' := [zi l1, zi l3]) (h' := h) rfl ?_
    refine zb_if (j := 19) (j2 := 5) e rfl (fun e => ?_) (fun e => ?_)
    · cases e
      exact zwp.rv rfl ⟨⟨rfl, rfl⟩, hR⟩
    · refine zwp.go (m := 1) (j := 6) (ls' := [some (zr ((a0, 8, 0) : zF)), some (zi l1), some (zi l2), some (zi l3)]) (st' := [zr ((a0, 8, 0) : zF)]) (h' := h) rfl ?_
      refine zc_sr (r := (((a0 + 1), 20, 12) : zF)) (zrf (a := a0) (y := 0) hR rfl ha0.2.1) rfl ?_
      refine zwp.go (m := 3) (j := 10) (ls' := [some (zr ((a0, 8, 0) : zF)), some (zi l1), some (zi l2), some (zi l3)]) (st' := [zr ((a0, 8, 0) : zF), zi (0 : Int32), zi l3, zr (((a0 + 1), 20, 12) : zF)]) (h' := h) rfl ?_
      refine zc_sr (r := (((a0 + 1), 20, 12) : zF)) (zrf (a := a0) (y := 0) hR rfl ha0.2.1) rfl ?_
      refine zwp.go (m := 1) (j := 12) (ls' := [some (zr ((a0, 8, 0) : zF)), some (zi l1), some (zi l2), some (zi l3)]) (st' := [zi l3, zr (((a0 + 1), 20, 12) : zF), zi (0 : Int32), zi l3, zr (((a0 + 1), 20, 12) : zF)]) (h' := h) rfl ?_
      refine zc_ai e (fun _ => rfl) (fun i1 e => ?_)
      refine zwp.go (m := 2) (j := 15) (ls' := [some (zr ((a0, 8, 0) : zF)), some (zi l1), some (zi l2), some (zi l3)]) (st' := [zi ((zI h (a0 + 1) i1) - l2), zi (0 : Int32), zi l3, zr (((a0 + 1), 20, 12) : zF)]) (h' := h) rfl ?_
      refine zc_cp (d := d + 0) e (fun q e => s_J9_max_7cf53_ok (d + 0) ρ hρ (0 : Int32) ((zI h (a0 + 1) i1) - l2) h q hR e) rfl rfl (fun v2 e => ?_)
      refine zc_si e (fun _ => rfl) hR (fun h3 hR3 e => ?_)
      refine zwp.go (m := 2) (j := 2) (ls' := [some (zr ((a0, 8, 0) : zF)), some (zi l1), some (zi l2), some (zi (l3 + (1 : Int32)))]) (st' := []) (h' := h3) rfl ?_
      exact ih l1 l2 (l3 + (1 : Int32)) h3 _ hR3 e
def s_X8_weaken (a0 : Nat) (a1 : Int32) (a2 : Int32) (h : zH) : Option (zH) := s_X8_weaken_L2 a0 zfu a1 a2 (0 : Int32) h
set_option maxRecDepth 100000 in
theorem s_X8_weaken_ok (d : Nat) (ρ : Nat → Nat → Option zF) (hρ : zSh ρ) (a0 : Nat) (a1 : Int32) (a2 : Int32) (ha0 : zStS ρ a0) (h : zH) (res : zH) (hR : zRq h ρ) (e : s_X8_weaken a0 a1 a2 h = some res) : zcl (d + 1) 284 [zr ((a0, 8, 0) : zF), zi a1, zi a2] h (zQv ρ res) := by
  rw [s_X8_weaken] at e
  refine ⟨zm_X8_weaken, rfl, ?_⟩
  show zwp (d + 1) zm_X8_weaken 0 [some (zr ((a0, 8, 0) : zF)), some (zi a1), some (zi a2), none] [] h _
  refine zwp.go (m := 2) (j := 2) (ls' := [some (zr ((a0, 8, 0) : zF)), some (zi a1), some (zi a2), some (zi (0 : Int32))]) (st' := []) (h' := h) rfl ?_
  exact s_X8_weaken_L2_ok d ρ hρ a0 ha0 zfu a1 a2 (0 : Int32) h _ hR e
def s_X10_isGoneAfter_J25 (pp : Nat) (k8 : (Int32 → Int32 → Int32 → Int32 → zH → Option (Int32 × zH))) (l1 : Int32) (l2 : Int32) (l3 : Int32) (l4 : Int32) (h : zH) : Option (Int32 × zH) := zbd (s_X9_pass pp 30 h) fun v2 h1 => k8 l1 l2 l3 (l4 + (1 : Int32)) h1
set_option maxRecDepth 100000 in
theorem s_X10_isGoneAfter_J25_ok (d : Nat) (ρ : Nat → Nat → Option zF) (hρ : zSh ρ) (pp : Nat) (hpp : ρ 0 3 = some (pp, 3, 0) ∧ zPlS ρ pp) (k8 : (Int32 → Int32 → Int32 → Int32 → zH → Option (Int32 × zH))) (hk8 : ∀ l1 l2 l3 l4 h res, zRq h ρ → k8 l1 l2 l3 l4 h = some res → zwp (d + 5) zm_X10_isGoneAfter 8 [some (zr ((0, 10, 0) : zF)), some (zi l1), some (zi l2), some (zi l3), some (zi l4)] [] h (zQi ρ res)) (l1 : Int32) (l2 : Int32) (l3 : Int32) (l4 : Int32) (h : zH) (res : Int32 × zH) (hR : zRq h ρ) (e : s_X10_isGoneAfter_J25 pp k8 l1 l2 l3 l4 h = some res) : zwp (d + 5) zm_X10_isGoneAfter 25 [some (zr ((0, 10, 0) : zF)), some (zi l1), some (zi l2), some (zi l3), some (zi l4)] [] h (zQi ρ res) := by
  rw [s_X10_isGoneAfter_J25] at e
  refine zwp.go (m := 1) (j := 26) (ls' := [some (zr ((0, 10, 0) : zF)), some (zi l1), some (zi l2), some (zi l3), some (zi l4)]) (st' := [zr ((0, 10, 0) : zF)]) (h' := h) rfl ?_
  refine zc_sr (r := ((36, 9, 0) : zF)) (zrf (a := 0) (y := 10) hR rfl (hρ 0 10 rfl)) rfl ?_
  refine zwp.go (m := 1) (j := 28) (ls' := [some (zr ((0, 10, 0) : zF)), some (zi l1), some (zi l2), some (zi l3), some (zi l4)]) (st' := [zr ((0, 10, 0) : zF), zr ((36, 9, 0) : zF)]) (h' := h) rfl ?_
  refine zc_sr (r := ((pp, 3, 0) : zF)) (zrf (a := 0) (y := 3) hR rfl hpp.1) rfl ?_
  refine zwp.go (m := 1) (j := 30) (ls' := [some (zr ((0, 10, 0) : zF)), some (zi l1), some (zi l2), some (zi l3), some (zi l4)]) (st' := [zr ((0, 10, 0) : zF), zr ((pp, 3, 0) : zF), zr ((36, 9, 0) : zF)]) (h' := h) rfl ?_
  refine zc_sr (r := ((30, 8, 0) : zF)) (zrf (a := 0) (y := 9) hR rfl (hρ 0 9 rfl)) rfl ?_
  refine zc_ci (d := d + 4) e (fun q e => s_X9_pass_ok (d + 0) ρ hρ pp 30 hpp.2 (zSh_st30 hρ) h q hR e) rfl rfl (fun v2 h1 hR1 e => ?_)
  refine zwp.go (m := 3) (j := 8) (ls' := [some (zr ((0, 10, 0) : zF)), some (zi l1), some (zi l2), some (zi l3), some (zi (l4 + (1 : Int32)))]) (st' := []) (h' := h1) rfl ?_
  exact hk8 l1 l2 l3 (l4 + (1 : Int32)) h1 _ hR1 e
def s_X10_isGoneAfter_L8 (pp : Nat) : Nat → Int32 → Int32 → Int32 → Int32 → zH → Option (Int32 × zH)
  | 0, _, _, _, _, _ => none
  | n + 1, l1, l2, l3, l4, h => if l2 ≤ l4 then (zix l1 12 fun i1 => if ¬ (zI h 31 i1) = 0 then (some ((0 : Int32), h)) else (some ((1 : Int32), h))) else (if ¬ ((l3 >>> (l4 &&& 31)) &&& (1 : Int32)) = (1 : Int32) then (s_X10_isGoneAfter_J25 pp (s_X10_isGoneAfter_L8 pp n) l1 l2 l3 l4 h) else ((s_X8_weaken 30 (zI h pp 6) (9 : Int32) h).bind fun h2 => s_X10_isGoneAfter_J25 pp (s_X10_isGoneAfter_L8 pp n) l1 l2 l3 l4 h2))
set_option maxRecDepth 100000 in
theorem s_X10_isGoneAfter_L8_ok (d : Nat) (ρ : Nat → Nat → Option zF) (hρ : zSh ρ) (pp : Nat) (hpp : ρ 0 3 = some (pp, 3, 0) ∧ zPlS ρ pp) : ∀ (n : Nat) (l1 : Int32) (l2 : Int32) (l3 : Int32) (l4 : Int32) (h : zH) (res : Int32 × zH) (hR : zRq h ρ) (e : s_X10_isGoneAfter_L8 pp n l1 l2 l3 l4 h = some res), zwp (d + 5) zm_X10_isGoneAfter 8 [some (zr ((0, 10, 0) : zF)), some (zi l1), some (zi l2), some (zi l3), some (zi l4)] [] h (zQi ρ res) := by
  intro n
  induction n with
  | zero => intro l1 l2 l3 l4 h res hR e; cases e
  | succ n ih =>
    intro l1 l2 l3 l4 h res hR e
    rw [s_X10_isGoneAfter_L8] at e
    refine zwp.go (m := 2) (j := 10) (ls' := [some (zr ((0, 10, 0) : zF)), some (zi l1), some (zi l2), some (zi l3), some (zi l4)]) (st' := [zi l2, zi l4]) (h' := h) rfl ?_
    refine zb_if (j := 35) (j2 := 11) e rfl (fun e => ?_) (fun e => ?_)
    · refine zwp.go (m := 1) (j := 36) (ls' := [some (zr ((0, 10, 0) : zF)), some (zi l1), some (zi l2), some (zi l3), some (zi l4)]) (st' := [zr ((0, 10, 0) : zF)]) (h' := h) rfl ?_
      refine zc_sr (r := ((30, 8, 0) : zF)) (zrf (a := 0) (y := 9) hR rfl (hρ 0 9 rfl)) rfl ?_
      refine zc_sr (r := ((31, 20, 12) : zF)) (zrf (a := 30) (y := 0) hR rfl (zSh_st30 hρ).2.1) rfl ?_
      refine zwp.go (m := 1) (j := 39) (ls' := [some (zr ((0, 10, 0) : zF)), some (zi l1), some (zi l2), some (zi l3), some (zi l4)]) (st' := [zi l1, zr ((31, 20, 12) : zF)]) (h' := h) rfl ?_
      refine zc_ai e (fun _ => rfl) (fun i1 e => ?_)
      refine zb_if (j := 43) (j2 := 41) e rfl (fun e => ?_) (fun e => ?_)
      · refine zwp.go (m := 1) (j := 44) (ls' := [some (zr ((0, 10, 0) : zF)), some (zi l1), some (zi l2), some (zi l3), some (zi l4)]) (st' := [zi (0 : Int32)]) (h' := h) rfl ?_
        cases e
        exact zwp.ret rfl rfl ⟨⟨rfl, rfl⟩, hR⟩
      · refine zwp.go (m := 2) (j := 44) (ls' := [some (zr ((0, 10, 0) : zF)), some (zi l1), some (zi l2), some (zi l3), some (zi l4)]) (st' := [zi (1 : Int32)]) (h' := h) rfl ?_
        cases e
        exact zwp.ret rfl rfl ⟨⟨rfl, rfl⟩, hR⟩
    · refine zwp.go (m := 6) (j := 17) (ls' := [some (zr ((0, 10, 0) : zF)), some (zi l1), some (zi l2), some (zi l3), some (zi l4)]) (st' := [zi (1 : Int32), zi ((l3 >>> (l4 &&& 31)) &&& (1 : Int32))]) (h' := h) rfl ?_
      refine zb_if (j := 25) (j2 := 18) e rfl (fun e => ?_) (fun e => ?_)
      · exact s_X10_isGoneAfter_J25_ok d ρ hρ pp hpp (s_X10_isGoneAfter_L8 pp n) ih l1 l2 l3 l4 h _ hR e
      · refine zwp.go (m := 1) (j := 19) (ls' := [some (zr ((0, 10, 0) : zF)), some (zi l1), some (zi l2), some (zi l3), some (zi l4)]) (st' := [zr ((0, 10, 0) : zF)]) (h' := h) rfl ?_
        refine zc_sr (r := ((30, 8, 0) : zF)) (zrf (a := 0) (y := 9) hR rfl (hρ 0 9 rfl)) rfl ?_
        refine zwp.go (m := 1) (j := 21) (ls' := [some (zr ((0, 10, 0) : zF)), some (zi l1), some (zi l2), some (zi l3), some (zi l4)]) (st' := [zr ((0, 10, 0) : zF), zr ((30, 8, 0) : zF)]) (h' := h) rfl ?_
        refine zc_sr (r := ((pp, 3, 0) : zF)) (zrf (a := 0) (y := 3) hR rfl hpp.1) rfl ?_
        refine zwp.go (m := 2) (j := 24) (ls' := [some (zr ((0, 10, 0) : zF)), some (zi l1), some (zi l2), some (zi l3), some (zi l4)]) (st' := [zi (9 : Int32), zi (zI h pp 6), zr ((30, 8, 0) : zF)]) (h' := h) rfl ?_
        refine zc_cv (d := d + 4) e (fun q e => s_X8_weaken_ok (d + 3) ρ hρ 30 (zI h pp 6) (9 : Int32) (zSh_st30 hρ) h q hR e) rfl rfl (fun h2 hR2 e => ?_)
        exact s_X10_isGoneAfter_J25_ok d ρ hρ pp hpp (s_X10_isGoneAfter_L8 pp n) ih l1 l2 l3 l4 h2 _ hR2 e
def s_X10_isGoneAfter (pp : Nat) (a1 : Int32) (a2 : Int32) (a3 : Int32) (h : zH) : Option (Int32 × zH) := (s_X8_copyFrom 30 19 h).bind fun h1 => s_X10_isGoneAfter_L8 pp zfu a1 a2 a3 (0 : Int32) h1
set_option maxRecDepth 100000 in
theorem s_X10_isGoneAfter_ok (d : Nat) (ρ : Nat → Nat → Option zF) (hρ : zSh ρ) (pp : Nat) (a1 : Int32) (a2 : Int32) (a3 : Int32) (hpp : ρ 0 3 = some (pp, 3, 0) ∧ zPlS ρ pp) (h : zH) (res : Int32 × zH) (hR : zRq h ρ) (e : s_X10_isGoneAfter pp a1 a2 a3 h = some res) : zcl (d + 5) 285 [zr ((0, 10, 0) : zF), zi a1, zi a2, zi a3] h (zQi ρ res) := by
  rw [s_X10_isGoneAfter] at e
  refine ⟨zm_X10_isGoneAfter, rfl, ?_⟩
  show zwp (d + 5) zm_X10_isGoneAfter 0 [some (zr ((0, 10, 0) : zF)), some (zi a1), some (zi a2), some (zi a3), none] [] h _
  refine zwp.go (m := 1) (j := 1) (ls' := [some (zr ((0, 10, 0) : zF)), some (zi a1), some (zi a2), some (zi a3), none]) (st' := [zr ((0, 10, 0) : zF)]) (h' := h) rfl ?_
  refine zc_sr (r := ((30, 8, 0) : zF)) (zrf (a := 0) (y := 9) hR rfl (hρ 0 9 rfl)) rfl ?_
  refine zwp.go (m := 1) (j := 3) (ls' := [some (zr ((0, 10, 0) : zF)), some (zi a1), some (zi a2), some (zi a3), none]) (st' := [zr ((0, 10, 0) : zF), zr ((30, 8, 0) : zF)]) (h' := h) rfl ?_
  refine zc_sr (r := ((18, 2, 0) : zF)) (zrf (a := 0) (y := 6) hR rfl (hρ 0 6 rfl)) rfl ?_
  refine zc_sr (r := ((19, 8, 0) : zF)) (zrf (a := 18) (y := 0) hR rfl (zSh_ld18 hρ).2.1) rfl ?_
  refine zc_cv (d := d + 4) e (fun q e => s_X8_copyFrom_ok (d + 4) ρ hρ 30 19 (zSh_st30 hρ) (zSh_st19 hρ) h q hR e) rfl rfl (fun h1 hR1 e => ?_)
  refine zwp.go (m := 2) (j := 8) (ls' := [some (zr ((0, 10, 0) : zF)), some (zi a1), some (zi a2), some (zi a3), some (zi (0 : Int32))]) (st' := []) (h' := h1) rfl ?_
  exact s_X10_isGoneAfter_L8_ok d ρ hρ pp hpp zfu a1 a2 a3 (0 : Int32) h1 _ hR1 e
def s_X10_storms_L26 (pp : Nat) (k17 : (Int32 → Int32 → Int32 → Int32 → Int32 → zH → Option ((Int32 ⊕ Nat) × zH))) : Nat → Int32 → Int32 → Int32 → Int32 → Int32 → Int32 → Int32 → zH → Option ((Int32 ⊕ Nat) × zH)
  | 0, _, _, _, _, _, _, _, _ => none
  | n + 1, l1, l2, l3, l4, l5, l6, l7, h => if l2 ≤ l7 then (if l6 = 0 then (k17 l1 l2 l3 l4 (l5 + (1 : Int32)) h) else (zbd (s_X10_isGoneAfter pp l1 l2 l5 h) fun v2 h1 => if v2 = 0 then (k17 l1 l2 l3 l4 (l5 + (1 : Int32)) h1) else (k17 l1 l2 l3 (l4 + l6) (l5 + (1 : Int32)) h1))) else (if ¬ ((l5 >>> (l7 &&& 31)) &&& (1 : Int32)) = (1 : Int32) then (s_X10_storms_L26 pp k17 n l1 l2 l3 l4 l5 (l6 * ((10 : Int32) - l3)) (l7 + (1 : Int32)) h) else (s_X10_storms_L26 pp k17 n l1 l2 l3 l4 l5 (l6 * l3) (l7 + (1 : Int32)) h))
set_option maxRecDepth 100000 in
theorem s_X10_storms_L26_ok (d : Nat) (ρ : Nat → Nat → Option zF) (hρ : zSh ρ) (pp : Nat) (hpp : ρ 0 3 = some (pp, 3, 0) ∧ zPlS ρ pp) (k17 : (Int32 → Int32 → Int32 → Int32 → Int32 → zH → Option ((Int32 ⊕ Nat) × zH))) (hk17 : ∀ l1 l2 l3 l4 l5 h res, zRq h ρ → k17 l1 l2 l3 l4 l5 h = some res → zwp (d + 6) zm_X10_storms 17 [some (zr ((0, 10, 0) : zF)), some (zi l1), some (zi l2), some (zi l3), some (zi l4), some (zi l5), none, none] [] h (zQx ρ res)) : ∀ (n : Nat) (l1 : Int32) (l2 : Int32) (l3 : Int32) (l4 : Int32) (l5 : Int32) (l6 : Int32) (l7 : Int32) (h : zH) (res : (Int32 ⊕ Nat) × zH) (hR : zRq h ρ) (e : s_X10_storms_L26 pp k17 n l1 l2 l3 l4 l5 l6 l7 h = some res), zwp (d + 6) zm_X10_storms 26 [some (zr ((0, 10, 0) : zF)), some (zi l1), some (zi l2), some (zi l3), some (zi l4), some (zi l5), some (zi l6), some (zi l7)] [] h (zQx ρ res) := by
  intro n
  induction n with
  | zero => intro l1 l2 l3 l4 l5 l6 l7 h res hR e; cases e
  | succ n ih =>
    intro l1 l2 l3 l4 l5 l6 l7 h res hR e
    rw [s_X10_storms_L26] at e
    refine zwp.go (m := 2) (j := 28) (ls' := [some (zr ((0, 10, 0) : zF)), some (zi l1), some (zi l2), some (zi l3), some (zi l4), some (zi l5), some (zi l6), some (zi l7)]) (st' := [zi l2, zi l7]) (h' := h) rfl ?_
    refine zb_if (j := 46) (j2 := 29) e rfl (fun e => ?_) (fun e => ?_)
    · refine zwp.go (m := 1) (j := 47) (ls' := [some (zr ((0, 10, 0) : zF)), some (zi l1), some (zi l2), some (zi l3), some (zi l4), some (zi l5), some (zi l6), some (zi l7)]) (st' := [zi l6]) (h' := h) rfl ?_
      refine zb_if (j := 58) (j2 := 48) e rfl (fun e => ?_) (fun e => ?_)
      · refine zwp.go (m := 2) (j := 17) (ls' := [some (zr ((0, 10, 0) : zF)), some (zi l1), some (zi l2), some (zi l3), some (zi l4), some (zi (l5 + (1 : Int32))), some (zi l6), some (zi l7)]) (st' := []) (h' := h) rfl ?_
        refine zwp.fg (a := [some (zr ((0, 10, 0) : zF)), some (zi l1), some (zi l2), some (zi l3), some (zi l4), some (zi (l5 + (1 : Int32))), none, none]) (And.intro rfl (And.intro rfl (And.intro rfl (And.intro rfl (And.intro rfl (And.intro rfl trivial)))))) ?_
        exact hk17 l1 l2 l3 l4 (l5 + (1 : Int32)) h _ hR e
      · refine zwp.go (m := 4) (j := 52) (ls' := [some (zr ((0, 10, 0) : zF)), some (zi l1), some (zi l2), some (zi l3), some (zi l4), some (zi l5), some (zi l6), some (zi l7)]) (st' := [zi l5, zi l2, zi l1, zr ((0, 10, 0) : zF)]) (h' := h) rfl ?_
        refine zc_ci (d := d + 5) e (fun q e => s_X10_isGoneAfter_ok (d + 0) ρ hρ pp l1 l2 l5 hpp h q hR e) rfl rfl (fun v2 h1 hR1 e => ?_)
        refine zb_if (j := 58) (j2 := 54) e rfl (fun e => ?_) (fun e => ?_)
        · refine zwp.go (m := 2) (j := 17) (ls' := [some (zr ((0, 10, 0) : zF)), some (zi l1), some (zi l2), some (zi l3), some (zi l4), some (zi (l5 + (1 : Int32))), some (zi l6), some (zi l7)]) (st' := []) (h' := h1) rfl ?_
          refine zwp.fg (a := [some (zr ((0, 10, 0) : zF)), some (zi l1), some (zi l2), some (zi l3), some (zi l4), some (zi (l5 + (1 : Int32))), none, none]) (And.intro rfl (And.intro rfl (And.intro rfl (And.intro rfl (And.intro rfl (And.intro rfl trivial)))))) ?_
          exact hk17 l1 l2 l3 l4 (l5 + (1 : Int32)) h1 _ hR1 e
        · refine zwp.go (m := 6) (j := 17) (ls' := [some (zr ((0, 10, 0) : zF)), some (zi l1), some (zi l2), some (zi l3), some (zi (l4 + l6)), some (zi (l5 + (1 : Int32))), some (zi l6), some (zi l7)]) (st' := []) (h' := h1) rfl ?_
          refine zwp.fg (a := [some (zr ((0, 10, 0) : zF)), some (zi l1), some (zi l2), some (zi l3), some (zi (l4 + l6)), some (zi (l5 + (1 : Int32))), none, none]) (And.intro rfl (And.intro rfl (And.intro rfl (And.intro rfl (And.intro rfl (And.intro rfl trivial)))))) ?_
          exact hk17 l1 l2 l3 (l4 + l6) (l5 + (1 : Int32)) h1 _ hR1 e
    · refine zwp.go (m := 7) (j := 36) (ls' := [some (zr ((0, 10, 0) : zF)), some (zi l1), some (zi l2), some (zi l3), some (zi l4), some (zi l5), some (zi l6), some (zi l7)]) (st' := [zi (1 : Int32), zi ((l5 >>> (l7 &&& 31)) &&& (1 : Int32)), zi l6]) (h' := h) rfl ?_
      refine zb_if (j := 39) (j2 := 37) e rfl (fun e => ?_) (fun e => ?_)
      · refine zwp.go (m := 7) (j := 26) (ls' := [some (zr ((0, 10, 0) : zF)), some (zi l1), some (zi l2), some (zi l3), some (zi l4), some (zi l5), some (zi (l6 * ((10 : Int32) - l3))), some (zi (l7 + (1 : Int32)))]) (st' := []) (h' := h) rfl ?_
        exact ih l1 l2 l3 l4 l5 (l6 * ((10 : Int32) - l3)) (l7 + (1 : Int32)) h _ hR e
      · refine zwp.go (m := 6) (j := 26) (ls' := [some (zr ((0, 10, 0) : zF)), some (zi l1), some (zi l2), some (zi l3), some (zi l4), some (zi l5), some (zi (l6 * l3)), some (zi (l7 + (1 : Int32)))]) (st' := []) (h' := h) rfl ?_
        exact ih l1 l2 l3 l4 l5 (l6 * l3) (l7 + (1 : Int32)) h _ hR e
def s_X10_storms_L17 (pp : Nat) : Nat → Int32 → Int32 → Int32 → Int32 → Int32 → zH → Option ((Int32 ⊕ Nat) × zH)
  | 0, _, _, _, _, _, _ => none
  | n + 1, l1, l2, l3, l4, l5, h => if ((1 : Int32) <<< (l2 &&& 31)) ≤ l5 then (some (Sum.inl l4, h)) else (s_X10_storms_L26 pp (s_X10_storms_L17 pp n) zfu l1 l2 l3 l4 l5 (1 : Int32) (0 : Int32) h)
set_option maxRecDepth 100000 in
theorem s_X10_storms_L17_ok (d : Nat) (ρ : Nat → Nat → Option zF) (hρ : zSh ρ) (pp : Nat) (hpp : ρ 0 3 = some (pp, 3, 0) ∧ zPlS ρ pp) : ∀ (n : Nat) (l1 : Int32) (l2 : Int32) (l3 : Int32) (l4 : Int32) (l5 : Int32) (h : zH) (res : (Int32 ⊕ Nat) × zH) (hR : zRq h ρ) (e : s_X10_storms_L17 pp n l1 l2 l3 l4 l5 h = some res), zwp (d + 6) zm_X10_storms 17 [some (zr ((0, 10, 0) : zF)), some (zi l1), some (zi l2), some (zi l3), some (zi l4), some (zi l5), none, none] [] h (zQx ρ res) := by
  intro n
  induction n with
  | zero => intro l1 l2 l3 l4 l5 h res hR e; cases e
  | succ n ih =>
    intro l1 l2 l3 l4 l5 h res hR e
    rw [s_X10_storms_L17] at e
    refine zwp.go (m := 4) (j := 21) (ls' := [some (zr ((0, 10, 0) : zF)), some (zi l1), some (zi l2), some (zi l3), some (zi l4), some (zi l5), none, none]) (st' := [zi ((1 : Int32) <<< (l2 &&& 31)), zi l5]) (h' := h) rfl ?_
    refine zb_if (j := 60) (j2 := 22) e rfl (fun e => ?_) (fun e => ?_)
    · refine zwp.go (m := 1) (j := 61) (ls' := [some (zr ((0, 10, 0) : zF)), some (zi l1), some (zi l2), some (zi l3), some (zi l4), some (zi l5), none, none]) (st' := [zi l4]) (h' := h) rfl ?_
      cases e
      exact zwp.ret rfl rfl ⟨⟨rfl, rfl⟩, hR⟩
    · refine zwp.go (m := 4) (j := 26) (ls' := [some (zr ((0, 10, 0) : zF)), some (zi l1), some (zi l2), some (zi l3), some (zi l4), some (zi l5), some (zi (1 : Int32)), some (zi (0 : Int32))]) (st' := []) (h' := h) rfl ?_
      exact s_X10_storms_L26_ok d ρ hρ pp hpp (s_X10_storms_L17 pp n) ih zfu l1 l2 l3 l4 l5 (1 : Int32) (0 : Int32) h _ hR e
def s_X10_storms (pp : Nat) (a1 : Int32) (a2 : Int32) (a3 : Int32) (h : zH) : Option ((Int32 ⊕ Nat) × zH) := zbx (s_X10_needRib pp a1 h) (fun _ h2 => zbx (s_X10_needWithin pp a2 (1 : Int32) (5 : Int32) h2) (fun _ h4 => zbx (s_X10_needWithin pp a3 (0 : Int32) (10 : Int32) h4) (fun _ h6 => s_X10_storms_L17 pp zfu a1 a2 a3 (0 : Int32) (0 : Int32) h6) (fun x h5 => some (Sum.inr x, h5))) (fun x h3 => some (Sum.inr x, h3))) (fun x h1 => some (Sum.inr x, h1))
set_option maxRecDepth 100000 in
theorem s_X10_storms_ok (d : Nat) (ρ : Nat → Nat → Option zF) (hρ : zSh ρ) (pp : Nat) (a1 : Int32) (a2 : Int32) (a3 : Int32) (hpp : ρ 0 3 = some (pp, 3, 0) ∧ zPlS ρ pp) (h : zH) (res : (Int32 ⊕ Nat) × zH) (hR : zRq h ρ) (e : s_X10_storms pp a1 a2 a3 h = some res) : zcl (d + 6) 286 [zr ((0, 10, 0) : zF), zi a1, zi a2, zi a3] h (zQx ρ res) := by
  rw [s_X10_storms] at e
  refine ⟨zm_X10_storms, rfl, ?_⟩
  show zwp (d + 6) zm_X10_storms 0 [some (zr ((0, 10, 0) : zF)), some (zi a1), some (zi a2), some (zi a3), none, none, none, none] [] h _
  refine zwp.go (m := 2) (j := 2) (ls' := [some (zr ((0, 10, 0) : zF)), some (zi a1), some (zi a2), some (zi a3), none, none, none, none]) (st' := [zi a1, zr ((0, 10, 0) : zF)]) (h' := h) rfl ?_
  refine zc_cu (d := d + 5) e (fun q e => s_X10_needRib_ok (d + 5) ρ hρ pp a1 hpp h q hR e) rfl rfl (fun h2 hR2 e => ?_) (fun x h1 hR1 e => ?_)
  · refine zwp.go (m := 4) (j := 7) (ls' := [some (zr ((0, 10, 0) : zF)), some (zi a1), some (zi a2), some (zi a3), none, none, none, none]) (st' := [zi (5 : Int32), zi (1 : Int32), zi a2, zr ((0, 10, 0) : zF)]) (h' := h2) rfl ?_
    refine zc_cu (d := d + 5) e (fun q e => s_X10_needWithin_ok (d + 5) ρ hρ pp a2 (1 : Int32) (5 : Int32) hpp h2 q hR2 e) rfl rfl (fun h4 hR4 e => ?_) (fun x h3 hR3 e => ?_)
    · refine zwp.go (m := 4) (j := 12) (ls' := [some (zr ((0, 10, 0) : zF)), some (zi a1), some (zi a2), some (zi a3), none, none, none, none]) (st' := [zi (10 : Int32), zi (0 : Int32), zi a3, zr ((0, 10, 0) : zF)]) (h' := h4) rfl ?_
      refine zc_cu (d := d + 5) e (fun q e => s_X10_needWithin_ok (d + 5) ρ hρ pp a3 (0 : Int32) (10 : Int32) hpp h4 q hR4 e) rfl rfl (fun h6 hR6 e => ?_) (fun x h5 hR5 e => ?_)
      · refine zwp.go (m := 4) (j := 17) (ls' := [some (zr ((0, 10, 0) : zF)), some (zi a1), some (zi a2), some (zi a3), some (zi (0 : Int32)), some (zi (0 : Int32)), none, none]) (st' := []) (h' := h6) rfl ?_
        exact s_X10_storms_L17_ok d ρ hρ pp hpp zfu a1 a2 a3 (0 : Int32) (0 : Int32) h6 _ hR6 e
      · cases e
        exact ⟨rfl, ⟨⟨rfl, rfl⟩, hR5⟩⟩
    · cases e
      exact ⟨rfl, ⟨⟨rfl, rfl⟩, hR3⟩⟩
  · cases e
    exact ⟨rfl, ⟨⟨rfl, rfl⟩, hR1⟩⟩
def s_L_storms (pp : Nat) (a1 : Int32) (a2 : Int32) (a3 : Int32) (a4 n4 : Nat) (h : zH) : Option (Int32 × zH) := zbx (s_X10_storms pp a1 a2 a3 h) (fun v3 h2 => zix (0 : Int32) n4 fun i5 => zlt (zwL h2 a4 i5 v3.toInt64) fun h4 => some ((0 : Int32), h4)) (fun x h1 => if x = 1 then (some ((1 : Int32), h1)) else if x = 0 then (some ((2 : Int32), h1)) else none)
set_option maxRecDepth 100000 in
theorem s_L_storms_ok (d : Nat) (ρ : Nat → Nat → Option zF) (hρ : zSh ρ) (pp : Nat) (a1 : Int32) (a2 : Int32) (a3 : Int32) (a4 n4 : Nat) (hpp : ρ 0 3 = some (pp, 3, 0) ∧ zPlS ρ pp) (h : zH) (res : Int32 × zH) (hR : zRq h ρ) (e : s_L_storms pp a1 a2 a3 a4 n4 h = some res) : zcl (d + 7) 287 [zr ((0, 10, 0) : zF), zi a1, zi a2, zi a3, zr ((a4, 23, n4) : zF)] h (zQi ρ res) := by
  rw [s_L_storms] at e
  refine ⟨zm_L_storms, rfl, ?_⟩
  show zwp (d + 7) zm_L_storms 0 [some (zr ((0, 10, 0) : zF)), some (zi a1), some (zi a2), some (zi a3), some (zr ((a4, 23, n4) : zF)), none] [] h _
  refine zwp.go (m := 6) (j := 6) (ls' := [some (zr ((0, 10, 0) : zF)), some (zi a1), some (zi a2), some (zi a3), some (zr ((a4, 23, n4) : zF)), none]) (st' := [zi a3, zi a2, zi a1, zr ((0, 10, 0) : zF), zi (0 : Int32), zr ((a4, 23, n4) : zF)]) (h' := h) rfl ?_
  refine zc_cx (d := d + 6) e (fun q e => s_X10_storms_ok (d + 0) ρ hρ pp a1 a2 a3 hpp h q hR e) rfl rfl (fun v3 h2 hR2 e => ?_) (fun x h1 hR1 e => ?_)
  · refine zwp.go (m := 1) (j := 8) (ls' := [some (zr ((0, 10, 0) : zF)), some (zi a1), some (zi a2), some (zi a3), some (zr ((a4, 23, n4) : zF)), none]) (st' := [zl v3.toInt64, zi (0 : Int32), zr ((a4, 23, n4) : zF)]) (h' := h2) rfl ?_
    refine zc_sl e (fun _ => rfl) hR2 (fun h4 hR4 e => ?_)
    refine zwp.go (m := 2) (j := 17) (ls' := [some (zr ((0, 10, 0) : zF)), some (zi a1), some (zi a2), some (zi a3), some (zr ((a4, 23, n4) : zF)), none]) (st' := [zi (0 : Int32)]) (h' := h4) rfl ?_
    cases e
    exact zwp.ret rfl rfl ⟨⟨rfl, rfl⟩, hR4⟩
  · by_cases q1 : x = 1
    · subst q1
      replace e : (some ((1 : Int32), h1)) = some res := by simpa using e
      show zwp _ _ 11 [some (zr ((0, 10, 0) : zF)), some (zi a1), some (zi a2), some (zi a3), some (zr ((a4, 23, n4) : zF)), none] [] _ _
      refine zwp.go (m := 1) (j := 12) (ls' := [some (zr ((0, 10, 0) : zF)), some (zi a1), some (zi a2), some (zi a3), some (zr ((a4, 23, n4) : zF)), none]) (st' := [zi (1 : Int32)]) (h' := h1) rfl ?_
      cases e
      exact zwp.ret rfl rfl ⟨⟨rfl, rfl⟩, hR1⟩
    · skip
      by_cases q0 : x = 0
      · subst q0
        replace e : (some ((2 : Int32), h1)) = some res := by simpa using e
        show zwp _ _ 14 [some (zr ((0, 10, 0) : zF)), some (zi a1), some (zi a2), some (zi a3), some (zr ((a4, 23, n4) : zF)), none] [] _ _
        refine zwp.go (m := 1) (j := 15) (ls' := [some (zr ((0, 10, 0) : zF)), some (zi a1), some (zi a2), some (zi a3), some (zr ((a4, 23, n4) : zF)), none]) (st' := [zi (2 : Int32)]) (h' := h1) rfl ?_
        cases e
        exact zwp.ret rfl rfl ⟨⟨rfl, rfl⟩, hR1⟩
      · skip
        simp [q1, q0] at e
def s_X11_storms_J23 (h : zH) : Option (Int32 × zH) := zbd (s_X11_fail (2 : Int32) h) fun v2 h1 => some (v2, h1)
set_option maxRecDepth 100000 in
theorem s_X11_storms_J23_ok (d : Nat) (ρ : Nat → Nat → Option zF) (hρ : zSh ρ) (h : zH) (res : Int32 × zH) (hR : zRq h ρ) (e : s_X11_storms_J23   h = some res) : zwp (d + 5) zm_X11_storms 23 [some (zr ((52, 11, 0) : zF)), none, none, none, none, none, none, none, none, none] [] h (zQi ρ res) := by
  rw [s_X11_storms_J23] at e
  refine zwp.go (m := 2) (j := 25) (ls' := [some (zr ((52, 11, 0) : zF)), none, none, none, none, none, none, none, none, none]) (st' := [zi (2 : Int32), zr ((52, 11, 0) : zF)]) (h' := h) rfl ?_
  refine zc_ci (d := d + 4) e (fun q e => s_X11_fail_ok (d + 4) ρ hρ (2 : Int32) h q hR e) rfl rfl (fun v2 h1 hR1 e => ?_)
  cases e
  exact zwp.ret rfl rfl ⟨⟨rfl, rfl⟩, hR1⟩
def s_X11_storms_J98 (k36 : (Int32 → Int32 → Int32 → Int32 → Int32 → zH → Option (Int32 × zH))) (l1 : Int32) (l2 : Int32) (l3 : Int32) (l5 : Int32) (s0 : Int32) (s1 : Int32) (h : zH) : Option (Int32 × zH) := (s_X11_unpack 71 38 (0 : Int32) h).bind fun h1 => k36 l1 l2 l3 (s0 + s1) (l5 + (1 : Int32)) h1
set_option maxRecDepth 100000 in
theorem s_X11_storms_J98_ok (d : Nat) (ρ : Nat → Nat → Option zF) (hρ : zSh ρ) (k36 : (Int32 → Int32 → Int32 → Int32 → Int32 → zH → Option (Int32 × zH))) (hk36 : ∀ l1 l2 l3 l4 l5 h res, zRq h ρ → k36 l1 l2 l3 l4 l5 h = some res → zwp (d + 5) zm_X11_storms 36 [some (zr ((52, 11, 0) : zF)), some (zi l1), some (zi l2), some (zi l3), some (zi l4), some (zi l5), none, none, none, none] [] h (zQi ρ res)) (l1 : Int32) (l2 : Int32) (l3 : Int32) (l5 : Int32) (s0 : Int32) (s1 : Int32) (h : zH) (res : Int32 × zH) (hR : zRq h ρ) (e : s_X11_storms_J98 k36 l1 l2 l3 l5 s0 s1 h = some res) : zwp (d + 5) zm_X11_storms 98 [some (zr ((52, 11, 0) : zF)), some (zi l1), some (zi l2), some (zi l3), none, some (zi l5), none, none, none, none] [zi s1, zi s0] h (zQi ρ res) := by
  rw [s_X11_storms_J98] at e
  refine zwp.go (m := 4) (j := 102) (ls' := [some (zr ((52, 11, 0) : zF)), some (zi l1), some (zi l2), some (zi l3), some (zi (s0 + s1)), some (zi l5), none, none, none, none]) (st' := [zr ((52, 11, 0) : zF), zr ((52, 11, 0) : zF)]) (h' := h) rfl ?_
  refine zc_sr (r := ((71, 20, 38) : zF)) (zrf (a := 52) (y := 42) hR rfl (hρ 52 42 rfl)) rfl ?_
  refine zwp.go (m := 1) (j := 104) (ls' := [some (zr ((52, 11, 0) : zF)), some (zi l1), some (zi l2), some (zi l3), some (zi (s0 + s1)), some (zi l5), none, none, none, none]) (st' := [zi (0 : Int32), zr ((71, 20, 38) : zF), zr ((52, 11, 0) : zF)]) (h' := h) rfl ?_
  refine zc_cv (d := d + 4) e (fun q e => s_X11_unpack_ok (d + 4) ρ hρ 71 38 (0 : Int32) h q hR e) rfl rfl (fun h1 hR1 e => ?_)
  refine zwp.go (m := 2) (j := 36) (ls' := [some (zr ((52, 11, 0) : zF)), some (zi l1), some (zi l2), some (zi l3), some (zi (s0 + s1)), some (zi (l5 + (1 : Int32))), none, none, none, none]) (st' := []) (h' := h1) rfl ?_
  exact hk36 l1 l2 l3 (s0 + s1) (l5 + (1 : Int32)) h1 _ hR1 e
def s_X11_storms_J86 (k45 : (Int32 → Int32 → Int32 → Int32 → Int32 → Int32 → Int32 → zH → Option (Int32 × zH))) (l1 : Int32) (l2 : Int32) (l3 : Int32) (l4 : Int32) (l5 : Int32) (l6 : Int32) (l7 : Int32) (h : zH) : Option (Int32 × zH) := (s_X11_aDay h).bind fun h1 => k45 l1 l2 l3 l4 l5 l6 (l7 + (1 : Int32)) h1
set_option maxRecDepth 100000 in
theorem s_X11_storms_J86_ok (d : Nat) (ρ : Nat → Nat → Option zF) (hρ : zSh ρ) (k45 : (Int32 → Int32 → Int32 → Int32 → Int32 → Int32 → Int32 → zH → Option (Int32 × zH))) (hk45 : ∀ l1 l2 l3 l4 l5 l6 l7 h res, zRq h ρ → k45 l1 l2 l3 l4 l5 l6 l7 h = some res → zwp (d + 5) zm_X11_storms 45 [some (zr ((52, 11, 0) : zF)), some (zi l1), some (zi l2), some (zi l3), some (zi l4), some (zi l5), some (zi l6), some (zi l7), none, none] [] h (zQi ρ res)) (l1 : Int32) (l2 : Int32) (l3 : Int32) (l4 : Int32) (l5 : Int32) (l6 : Int32) (l7 : Int32) (h : zH) (res : Int32 × zH) (hR : zRq h ρ) (e : s_X11_storms_J86 k45 l1 l2 l3 l4 l5 l6 l7 h = some res) : zwp (d + 5) zm_X11_storms 86 [some (zr ((52, 11, 0) : zF)), some (zi l1), some (zi l2), some (zi l3), some (zi l4), some (zi l5), some (zi l6), some (zi l7), none, none] [] h (zQi ρ res) := by
  rw [s_X11_storms_J86] at e
  refine zwp.go (m := 1) (j := 87) (ls' := [some (zr ((52, 11, 0) : zF)), some (zi l1), some (zi l2), some (zi l3), some (zi l4), some (zi l5), some (zi l6), some (zi l7), none, none]) (st' := [zr ((52, 11, 0) : zF)]) (h' := h) rfl ?_
  refine zc_cv (d := d + 4) e (fun q e => s_X11_aDay_ok (d + 0) ρ hρ h q hR e) rfl rfl (fun h1 hR1 e => ?_)
  refine zwp.go (m := 2) (j := 45) (ls' := [some (zr ((52, 11, 0) : zF)), some (zi l1), some (zi l2), some (zi l3), some (zi l4), some (zi l5), some (zi l6), some (zi (l7 + (1 : Int32))), none, none]) (st' := []) (h' := h1) rfl ?_
  exact hk45 l1 l2 l3 l4 l5 l6 (l7 + (1 : Int32)) h1 _ hR1 e
def s_X11_storms_L64 (k45 : (Int32 → Int32 → Int32 → Int32 → Int32 → Int32 → Int32 → zH → Option (Int32 × zH))) : Nat → Int32 → Int32 → Int32 → Int32 → Int32 → Int32 → Int32 → Int32 → Int32 → zH → Option (Int32 × zH)
  | 0, _, _, _, _, _, _, _, _, _, _ => none
  | n + 1, l1, l2, l3, l4, l5, l6, l7, l8, l9, h => if (zI h 56 0) ≤ l9 then (s_X11_storms_J86 k45 l1 l2 l3 l4 l5 l6 l7 h) else (if l8 = 0 then (s_X11_storms_J86 k45 l1 l2 l3 l4 l5 l6 l7 h) else (zix l9 12 fun i1 => (s_J9_max_7cf53 (0 : Int32) ((zI h 64 i1) - (9 : Int32)) h).bind fun v2 => zix l9 12 fun i4 => zlt (zwI h 64 i4 v2) fun h3 => s_X11_storms_L64 k45 n l1 l2 l3 l4 l5 l6 l7 l8 (l9 + (1 : Int32)) h3))
set_option maxRecDepth 100000 in
theorem s_X11_storms_L64_ok (d : Nat) (ρ : Nat → Nat → Option zF) (hρ : zSh ρ) (k45 : (Int32 → Int32 → Int32 → Int32 → Int32 → Int32 → Int32 → zH → Option (Int32 × zH))) (hk45 : ∀ l1 l2 l3 l4 l5 l6 l7 h res, zRq h ρ → k45 l1 l2 l3 l4 l5 l6 l7 h = some res → zwp (d + 5) zm_X11_storms 45 [some (zr ((52, 11, 0) : zF)), some (zi l1), some (zi l2), some (zi l3), some (zi l4), some (zi l5), some (zi l6), some (zi l7), none, none] [] h (zQi ρ res)) : ∀ (n : Nat) (l1 : Int32) (l2 : Int32) (l3 : Int32) (l4 : Int32) (l5 : Int32) (l6 : Int32) (l7 : Int32) (l8 : Int32) (l9 : Int32) (h : zH) (res : Int32 × zH) (hR : zRq h ρ) (e : s_X11_storms_L64 k45 n l1 l2 l3 l4 l5 l6 l7 l8 l9 h = some res), zwp (d + 5) zm_X11_storms 64 [some (zr ((52, 11, 0) : zF)), some (zi l1), some (zi l2), some (zi l3), some (zi l4), some (zi l5), some (zi l6), some (zi l7), some (zi l8), some (zi l9)] [] h (zQi ρ res) := by
  intro n
  induction n with
  | zero => intro l1 l2 l3 l4 l5 l6 l7 l8 l9 h res hR e; cases e
  | succ n ih =>
    intro l1 l2 l3 l4 l5 l6 l7 l8 l9 h res hR e
    rw [s_X11_storms_L64] at e
    refine zwp.go (m := 2) (j := 66) (ls' := [some (zr ((52, 11, 0) : zF)), some (zi l1), some (zi l2), some (zi l3), some (zi l4), some (zi l5), some (zi l6), some (zi l7), some (zi l8), some (zi l9)]) (st' := [zr ((52, 11, 0) : zF), zi l9]) (h' := h) rfl ?_
    refine zc_sr (r := ((56, 20, 12) : zF)) (zrf (a := 52) (y := 5) hR rfl (hρ 52 5 rfl)) rfl ?_
    refine zwp.go (m := 2) (j := 69) (ls' := [some (zr ((52, 11, 0) : zF)), some (zi l1), some (zi l2), some (zi l3), some (zi l4), some (zi l5), some (zi l6), some (zi l7), some (zi l8), some (zi l9)]) (st' := [zi (zI h 56 0), zi l9]) (h' := h) rfl ?_
    refine zb_if (j := 86) (j2 := 70) e rfl (fun e => ?_) (fun e => ?_)
    · refine zwp.fg (a := [some (zr ((52, 11, 0) : zF)), some (zi l1), some (zi l2), some (zi l3), some (zi l4), some (zi l5), some (zi l6), some (zi l7), none, none]) (And.intro rfl (And.intro rfl (And.intro rfl (And.intro rfl (And.intro rfl (And.intro rfl (And.intro rfl (And.intro rfl trivial)))))))) ?_
      exact s_X11_storms_J86_ok d ρ hρ k45 hk45 l1 l2 l3 l4 l5 l6 l7 h _ hR e
    · refine zwp.go (m := 1) (j := 71) (ls' := [some (zr ((52, 11, 0) : zF)), some (zi l1), some (zi l2), some (zi l3), some (zi l4), some (zi l5), some (zi l6), some (zi l7), some (zi l8), some (zi l9)]) (st' := [zi l8]) (h' := h) rfl ?_
      refine zb_if (j := 86) (j2 := 72) e rfl (fun e => ?_) (fun e => ?_)
      · refine zwp.fg (a := [some (zr ((52, 11, 0) : zF)), some (zi l1), some (zi l2), some (zi l3), some (zi l4), some (zi l5), some (zi l6), some (zi l7), none, none]) (And.intro rfl (And.intro rfl (And.intro rfl (And.intro rfl (And.intro rfl (And.intro rfl (And.intro rfl (And.intro rfl trivial)))))))) ?_
        exact s_X11_storms_J86_ok d ρ hρ k45 hk45 l1 l2 l3 l4 l5 l6 l7 h _ hR e
      · refine zwp.go (m := 1) (j := 73) (ls' := [some (zr ((52, 11, 0) : zF)), some (zi l1), some (zi l2), some (zi l3), some (zi l4), some (zi l5), some (zi l6), some (zi l7), some (zi l8), some (zi l9)]) (st' := [zr ((52, 11, 0) : zF)]) (h' := h) rfl ?_
        refine zc_sr (r := ((64, 20, 12) : zF)) (zrf (a := 52) (y := 24) hR rfl (hρ 52 24 rfl)) rfl ?_
        refine zwp.go (m := 3) (j := 77) (ls' := [some (zr ((52, 11, 0) : zF)), some (zi l1), some (zi l2), some (zi l3), some (zi l4), some (zi l5), some (zi l6), some (zi l7), some (zi l8), some (zi l9)]) (st' := [zr ((52, 11, 0) : zF), zi (0 : Int32), zi l9, zr ((64, 20, 12) : zF)]) (h' := h) rfl ?_
        refine zc_sr (r := ((64, 20, 12) : zF)) (zrf (a := 52) (y := 24) hR rfl (hρ 52 24 rfl)) rfl ?_
        refine zwp.go (m := 1) (j := 79) (ls' := [some (zr ((52, 11, 0) : zF)), some (zi l1), some (zi l2), some (zi l3), some (zi l4), some (zi l5), some (zi l6), some (zi l7), some (zi l8), some (zi l9)]) (st' := [zi l9, zr ((64, 20, 12) : zF), zi (0 : Int32), zi l9, zr ((64, 20, 12) : zF)]) (h' := h) rfl ?_
        refine zc_ai e (fun _ => rfl) (fun i1 e => ?_)
        refine zwp.go (m := 2) (j := 82) (ls' := [some (zr ((52, 11, 0) : zF)), some (zi l1), some (zi l2), some (zi l3), some (zi l4), some (zi l5), some (zi l6), some (zi l7), some (zi l8), some (zi l9)]) (st' := [zi ((zI h 64 i1) - (9 : Int32)), zi (0 : Int32), zi l9, zr ((64, 20, 12) : zF)]) (h' := h) rfl ?_
        refine zc_cp (d := d + 4) e (fun q e => s_J9_max_7cf53_ok (d + 4) ρ hρ (0 : Int32) ((zI h 64 i1) - (9 : Int32)) h q hR e) rfl rfl (fun v2 e => ?_)
        refine zc_si e (fun _ => rfl) hR (fun h3 hR3 e => ?_)
        refine zwp.go (m := 2) (j := 64) (ls' := [some (zr ((52, 11, 0) : zF)), some (zi l1), some (zi l2), some (zi l3), some (zi l4), some (zi l5), some (zi l6), some (zi l7), some (zi l8), some (zi (l9 + (1 : Int32)))]) (st' := []) (h' := h3) rfl ?_
        exact ih l1 l2 l3 l4 l5 l6 l7 l8 (l9 + (1 : Int32)) h3 _ hR3 e
def s_X11_storms_L45 (k36 : (Int32 → Int32 → Int32 → Int32 → Int32 → zH → Option (Int32 × zH))) : Nat → Int32 → Int32 → Int32 → Int32 → Int32 → Int32 → Int32 → zH → Option (Int32 × zH)
  | 0, _, _, _, _, _, _, _, _ => none
  | n + 1, l1, l2, l3, l4, l5, l6, l7, h => if l2 ≤ l7 then ((s_X11_isGone l1 h).bind fun v1 => if v1 = 0 then (s_X11_storms_J98 k36 l1 l2 l3 l5 l4 (0 : Int32) h) else (s_X11_storms_J98 k36 l1 l2 l3 l5 l4 l6 h)) else ((s_X11_isOf l5 l7 h).bind fun v2 => if v2 = 0 then (s_X11_storms_L64 (s_X11_storms_L45 k36 n) zfu l1 l2 l3 l4 l5 (l6 * ((10 : Int32) - l3)) l7 v2 (0 : Int32) h) else (s_X11_storms_L64 (s_X11_storms_L45 k36 n) zfu l1 l2 l3 l4 l5 (l6 * l3) l7 v2 (0 : Int32) h))
set_option maxRecDepth 100000 in
theorem s_X11_storms_L45_ok (d : Nat) (ρ : Nat → Nat → Option zF) (hρ : zSh ρ) (k36 : (Int32 → Int32 → Int32 → Int32 → Int32 → zH → Option (Int32 × zH))) (hk36 : ∀ l1 l2 l3 l4 l5 h res, zRq h ρ → k36 l1 l2 l3 l4 l5 h = some res → zwp (d + 5) zm_X11_storms 36 [some (zr ((52, 11, 0) : zF)), some (zi l1), some (zi l2), some (zi l3), some (zi l4), some (zi l5), none, none, none, none] [] h (zQi ρ res)) : ∀ (n : Nat) (l1 : Int32) (l2 : Int32) (l3 : Int32) (l4 : Int32) (l5 : Int32) (l6 : Int32) (l7 : Int32) (h : zH) (res : Int32 × zH) (hR : zRq h ρ) (e : s_X11_storms_L45 k36 n l1 l2 l3 l4 l5 l6 l7 h = some res), zwp (d + 5) zm_X11_storms 45 [some (zr ((52, 11, 0) : zF)), some (zi l1), some (zi l2), some (zi l3), some (zi l4), some (zi l5), some (zi l6), some (zi l7), none, none] [] h (zQi ρ res) := by
  intro n
  induction n with
  | zero => intro l1 l2 l3 l4 l5 l6 l7 h res hR e; cases e
  | succ n ih =>
    intro l1 l2 l3 l4 l5 l6 l7 h res hR e
    rw [s_X11_storms_L45] at e
    refine zwp.go (m := 2) (j := 47) (ls' := [some (zr ((52, 11, 0) : zF)), some (zi l1), some (zi l2), some (zi l3), some (zi l4), some (zi l5), some (zi l6), some (zi l7), none, none]) (st' := [zi l2, zi l7]) (h' := h) rfl ?_
    refine zb_if (j := 90) (j2 := 48) e rfl (fun e => ?_) (fun e => ?_)
    · refine zwp.go (m := 3) (j := 93) (ls' := [some (zr ((52, 11, 0) : zF)), some (zi l1), some (zi l2), some (zi l3), some (zi l4), some (zi l5), some (zi l6), some (zi l7), none, none]) (st' := [zi l1, zr ((52, 11, 0) : zF), zi l4]) (h' := h) rfl ?_
      refine zc_cp (d := d + 4) e (fun q e => s_X11_isGone_ok (d + 4) ρ hρ l1 h q hR e) rfl rfl (fun v1 e => ?_)
      refine zb_if (j := 97) (j2 := 95) e rfl (fun e => ?_) (fun e => ?_)
      · refine zwp.go (m := 1) (j := 98) (ls' := [some (zr ((52, 11, 0) : zF)), some (zi l1), some (zi l2), some (zi l3), some (zi l4), some (zi l5), some (zi l6), some (zi l7), none, none]) (st' := [zi (0 : Int32), zi l4]) (h' := h) rfl ?_
        refine zwp.fg (a := [some (zr ((52, 11, 0) : zF)), some (zi l1), some (zi l2), some (zi l3), none, some (zi l5), none, none, none, none]) (And.intro rfl (And.intro rfl (And.intro rfl (And.intro rfl (And.intro rfl trivial))))) ?_
        exact s_X11_storms_J98_ok d ρ hρ k36 hk36 l1 l2 l3 l5 l4 (0 : Int32) h _ hR e
      · refine zwp.go (m := 2) (j := 98) (ls' := [some (zr ((52, 11, 0) : zF)), some (zi l1), some (zi l2), some (zi l3), some (zi l4), some (zi l5), some (zi l6), some (zi l7), none, none]) (st' := [zi l6, zi l4]) (h' := h) rfl ?_
        refine zwp.fg (a := [some (zr ((52, 11, 0) : zF)), some (zi l1), some (zi l2), some (zi l3), none, some (zi l5), none, none, none, none]) (And.intro rfl (And.intro rfl (And.intro rfl (And.intro rfl (And.intro rfl trivial))))) ?_
        exact s_X11_storms_J98_ok d ρ hρ k36 hk36 l1 l2 l3 l5 l4 l6 h _ hR e
    · refine zwp.go (m := 2) (j := 50) (ls' := [some (zr ((52, 11, 0) : zF)), some (zi l1), some (zi l2), some (zi l3), some (zi l4), some (zi l5), some (zi l6), some (zi l7), none, none]) (st' := [zi l7, zi l5]) (h' := h) rfl ?_
      refine zc_cp (d := d + 4) e (fun q e => s_X11_isOf_ok (d + 4) ρ hρ l5 l7 h q hR e) rfl rfl (fun v2 e => ?_)
      refine zwp.go (m := 3) (j := 54) (ls' := [some (zr ((52, 11, 0) : zF)), some (zi l1), some (zi l2), some (zi l3), some (zi l4), some (zi l5), some (zi l6), some (zi l7), some (zi v2), none]) (st' := [zi v2, zi l6]) (h' := h) rfl ?_
      refine zb_if (j := 57) (j2 := 55) e rfl (fun e => ?_) (fun e => ?_)
      · refine zwp.go (m := 7) (j := 64) (ls' := [some (zr ((52, 11, 0) : zF)), some (zi l1), some (zi l2), some (zi l3), some (zi l4), some (zi l5), some (zi (l6 * ((10 : Int32) - l3))), some (zi l7), some (zi v2), some (zi (0 : Int32))]) (st' := []) (h' := h) rfl ?_
        exact s_X11_storms_L64_ok d ρ hρ (s_X11_storms_L45 k36 n) ih zfu l1 l2 l3 l4 l5 (l6 * ((10 : Int32) - l3)) l7 v2 (0 : Int32) h _ hR e
      · refine zwp.go (m := 6) (j := 64) (ls' := [some (zr ((52, 11, 0) : zF)), some (zi l1), some (zi l2), some (zi l3), some (zi l4), some (zi l5), some (zi (l6 * l3)), some (zi l7), some (zi v2), some (zi (0 : Int32))]) (st' := []) (h' := h) rfl ?_
        exact s_X11_storms_L64_ok d ρ hρ (s_X11_storms_L45 k36 n) ih zfu l1 l2 l3 l4 l5 (l6 * l3) l7 v2 (0 : Int32) h _ hR e
def s_X11_storms_L36 : Nat → Int32 → Int32 → Int32 → Int32 → Int32 → zH → Option (Int32 × zH)
  | 0, _, _, _, _, _, _ => none
  | n + 1, l1, l2, l3, l4, l5, h => if ((1 : Int32) <<< (l2 &&& 31)) ≤ l5 then (some (l4, h)) else (s_X11_storms_L45 (s_X11_storms_L36 n) zfu l1 l2 l3 l4 l5 (1 : Int32) (0 : Int32) h)
set_option maxRecDepth 100000 in
theorem s_X11_storms_L36_ok (d : Nat) (ρ : Nat → Nat → Option zF) (hρ : zSh ρ) : ∀ (n : Nat) (l1 : Int32) (l2 : Int32) (l3 : Int32) (l4 : Int32) (l5 : Int32) (h : zH) (res : Int32 × zH) (hR : zRq h ρ) (e : s_X11_storms_L36  n l1 l2 l3 l4 l5 h = some res), zwp (d + 5) zm_X11_storms 36 [some (zr ((52, 11, 0) : zF)), some (zi l1), some (zi l2), some (zi l3), some (zi l4), some (zi l5), none, none, none, none] [] h (zQi ρ res) := by
  intro n
  induction n with
  | zero => intro l1 l2 l3 l4 l5 h res hR e; cases e
  | succ n ih =>
    intro l1 l2 l3 l4 l5 h res hR e
    rw [s_X11_storms_L36] at e
    refine zwp.go (m := 4) (j := 40) (ls' := [some (zr ((52, 11, 0) : zF)), some (zi l1), some (zi l2), some (zi l3), some (zi l4), some (zi l5), none, none, none, none]) (st' := [zi ((1 : Int32) <<< (l2 &&& 31)), zi l5]) (h' := h) rfl ?_
    refine zb_if (j := 107) (j2 := 41) e rfl (fun e => ?_) (fun e => ?_)
    · refine zwp.go (m := 1) (j := 108) (ls' := [some (zr ((52, 11, 0) : zF)), some (zi l1), some (zi l2), some (zi l3), some (zi l4), some (zi l5), none, none, none, none]) (st' := [zi l4]) (h' := h) rfl ?_
      cases e
      exact zwp.ret rfl rfl ⟨⟨rfl, rfl⟩, hR⟩
    · refine zwp.go (m := 4) (j := 45) (ls' := [some (zr ((52, 11, 0) : zF)), some (zi l1), some (zi l2), some (zi l3), some (zi l4), some (zi l5), some (zi (1 : Int32)), some (zi (0 : Int32)), none, none]) (st' := []) (h' := h) rfl ?_
      exact s_X11_storms_L45_ok d ρ hρ (s_X11_storms_L36 n) ih zfu l1 l2 l3 l4 l5 (1 : Int32) (0 : Int32) h _ hR e
def s_X11_storms (a1 : Int32) (a2 : Int32) (a3 : Int32) (h : zH) : Option (Int32 × zH) := zlt (zwI h 52 4 (0 : Int32)) fun h1 => (s_X11_isRib a1 h1).bind fun v2 => if ¬ v2 = 0 then ((s_X11_isIn a2.toInt64 (1 : Int64) (5 : Int64) h1).bind fun v3 => if v3 = 0 then (s_X11_storms_J23 h1) else ((s_X11_isIn a3.toInt64 (0 : Int64) (10 : Int64) h1).bind fun v4 => if ¬ v4 = 0 then ((s_X11_pack 71 38 (0 : Int32) h1).bind fun h5 => s_X11_storms_L36 zfu a1 a2 a3 (0 : Int32) (0 : Int32) h5) else (s_X11_storms_J23 h1))) else (zbd (s_X11_fail (1 : Int32) h1) fun v7 h6 => some (v7, h6))
set_option maxRecDepth 100000 in
theorem s_X11_storms_ok (d : Nat) (ρ : Nat → Nat → Option zF) (hρ : zSh ρ) (a1 : Int32) (a2 : Int32) (a3 : Int32) (h : zH) (res : Int32 × zH) (hR : zRq h ρ) (e : s_X11_storms a1 a2 a3 h = some res) : zcl (d + 5) 288 [zr ((52, 11, 0) : zF), zi a1, zi a2, zi a3] h (zQi ρ res) := by
  rw [s_X11_storms] at e
  refine ⟨zm_X11_storms, rfl, ?_⟩
  show zwp (d + 5) zm_X11_storms 0 [some (zr ((52, 11, 0) : zF)), some (zi a1), some (zi a2), some (zi a3), none, none, none, none, none, none] [] h _
  refine zwp.go (m := 2) (j := 2) (ls' := [some (zr ((52, 11, 0) : zF)), some (zi a1), some (zi a2), some (zi a3), none, none, none, none, none, none]) (st' := [zi (0 : Int32), zr ((52, 11, 0) : zF)]) (h' := h) rfl ?_
  refine zc_w e rfl hR (fun h1 hR1 e => ?_)
  refine zwp.go (m := 2) (j := 5) (ls' := [some (zr ((52, 11, 0) : zF)), some (zi a1), some (zi a2), some (zi a3), none, none, none, none, none, none]) (st' := [zi a1, zr ((52, 11, 0) : zF)]) (h' := h1) rfl ?_
  refine zc_cp (d := d + 4) e (fun q e => s_X11_isRib_ok (d + 3) ρ hρ a1 h1 q hR1 e) rfl rfl (fun v2 e => ?_)
  refine zb_if (j := 11) (j2 := 7) e rfl (fun e => ?_) (fun e => ?_)
  · refine zwp.go (m := 4) (j := 15) (ls' := [some (zr ((52, 11, 0) : zF)), some (zi a1), some (zi a2), some (zi a3), none, none, none, none, none, none]) (st' := [zl (5 : Int64), zl (1 : Int64), zl a2.toInt64]) (h' := h1) rfl ?_
    refine zc_cp (d := d + 4) e (fun q e => s_X11_isIn_ok (d + 4) ρ hρ a2.toInt64 (1 : Int64) (5 : Int64) h1 q hR1 e) rfl rfl (fun v3 e => ?_)
    refine zb_if (j := 23) (j2 := 17) e rfl (fun e => ?_) (fun e => ?_)
    · refine zwp.fg (a := [some (zr ((52, 11, 0) : zF)), none, none, none, none, none, none, none, none, none]) (And.intro rfl trivial) ?_
      exact s_X11_storms_J23_ok d ρ hρ h1 _ hR1 e
    · refine zwp.go (m := 4) (j := 21) (ls' := [some (zr ((52, 11, 0) : zF)), some (zi a1), some (zi a2), some (zi a3), none, none, none, none, none, none]) (st' := [zl (10 : Int64), zl (0 : Int64), zl a3.toInt64]) (h' := h1) rfl ?_
      refine zc_cp (d := d + 4) e (fun q e => s_X11_isIn_ok (d + 4) ρ hρ a3.toInt64 (0 : Int64) (10 : Int64) h1 q hR1 e) rfl rfl (fun v4 e => ?_)
      refine zb_if (j := 27) (j2 := 23) e rfl (fun e => ?_) (fun e => ?_)
      · refine zwp.go (m := 4) (j := 31) (ls' := [some (zr ((52, 11, 0) : zF)), some (zi a1), some (zi a2), some (zi a3), some (zi (0 : Int32)), none, none, none, none, none]) (st' := [zr ((52, 11, 0) : zF), zr ((52, 11, 0) : zF)]) (h' := h1) rfl ?_
        refine zc_sr (r := ((71, 20, 38) : zF)) (zrf (a := 52) (y := 42) hR1 rfl (hρ 52 42 rfl)) rfl ?_
        refine zwp.go (m := 1) (j := 33) (ls' := [some (zr ((52, 11, 0) : zF)), some (zi a1), some (zi a2), some (zi a3), some (zi (0 : Int32)), none, none, none, none, none]) (st' := [zi (0 : Int32), zr ((71, 20, 38) : zF), zr ((52, 11, 0) : zF)]) (h' := h1) rfl ?_
        refine zc_cv (d := d + 4) e (fun q e => s_X11_pack_ok (d + 4) ρ hρ 71 38 (0 : Int32) h1 q hR1 e) rfl rfl (fun h5 hR5 e => ?_)
        refine zwp.go (m := 2) (j := 36) (ls' := [some (zr ((52, 11, 0) : zF)), some (zi a1), some (zi a2), some (zi a3), some (zi (0 : Int32)), some (zi (0 : Int32)), none, none, none, none]) (st' := []) (h' := h5) rfl ?_
        exact s_X11_storms_L36_ok d ρ hρ zfu a1 a2 a3 (0 : Int32) (0 : Int32) h5 _ hR5 e
      · refine zwp.fg (a := [some (zr ((52, 11, 0) : zF)), none, none, none, none, none, none, none, none, none]) (And.intro rfl trivial) ?_
        exact s_X11_storms_J23_ok d ρ hρ h1 _ hR1 e
  · refine zwp.go (m := 2) (j := 9) (ls' := [some (zr ((52, 11, 0) : zF)), some (zi a1), some (zi a2), some (zi a3), none, none, none, none, none, none]) (st' := [zi (1 : Int32), zr ((52, 11, 0) : zF)]) (h' := h1) rfl ?_
    refine zc_ci (d := d + 4) e (fun q e => s_X11_fail_ok (d + 4) ρ hρ (1 : Int32) h1 q hR1 e) rfl rfl (fun v7 h6 hR6 e => ?_)
    cases e
    exact zwp.ret rfl rfl ⟨⟨rfl, rfl⟩, hR6⟩
def s_X10_playCouple_J65 (pp : Nat) (l1 : Int32) (l2 : Int32) (s0 : Int32) (h : zH) : Option (zH) := zix (((2 : Int32) * (((2 : Int32) * l1) + l2)) + (0 : Int32)) 8 fun i4 => zlt (zwI h 51 i4 ((((2 : Int32) * (zI h 33 0)) + s0) - ((3 : Int32) * l1))) fun h1 => zix (((2 : Int32) * (((2 : Int32) * l1) + l2)) + (1 : Int32)) 8 fun i3 => zlt (zwI h1 51 i3 ((((2 : Int32) * (zI h1 33 1)) + s0) - ((3 : Int32) * l2))) fun h2 => some h2
set_option maxRecDepth 100000 in
theorem s_X10_playCouple_J65_ok (d : Nat) (ρ : Nat → Nat → Option zF) (hρ : zSh ρ) (pp : Nat) (hpp : ρ 0 3 = some (pp, 3, 0) ∧ zPlS ρ pp) (l1 : Int32) (l2 : Int32) (s0 : Int32) (h : zH) (res : zH) (hR : zRq h ρ) (e : s_X10_playCouple_J65 pp l1 l2 s0 h = some res) : zwp (d + 5) zm_X10_playCouple 65 [some (zr ((0, 10, 0) : zF)), some (zi l1), some (zi l2), none, none, none] [zi s0] h (zQv ρ res) := by
  rw [s_X10_playCouple_J65] at e
  refine zwp.go (m := 8) (j := 73) (ls' := [some (zr ((0, 10, 0) : zF)), some (zi l1), some (zi l2), none, some (zi s0), some (zi (((2 : Int32) * l1) + l2))]) (st' := [zr ((0, 10, 0) : zF)]) (h' := h) rfl ?_
  refine zc_sr (r := ((51, 20, 8) : zF)) (zrf (a := 0) (y := 15) hR rfl (hρ 0 15 rfl)) rfl ?_
  refine zwp.go (m := 7) (j := 81) (ls' := [some (zr ((0, 10, 0) : zF)), some (zi l1), some (zi l2), none, some (zi s0), some (zi (((2 : Int32) * l1) + l2))]) (st' := [zr ((0, 10, 0) : zF), zi (2 : Int32), zi (((2 : Int32) * (((2 : Int32) * l1) + l2)) + (0 : Int32)), zr ((51, 20, 8) : zF)]) (h' := h) rfl ?_
  refine zc_sr (r := ((30, 8, 0) : zF)) (zrf (a := 0) (y := 9) hR rfl (hρ 0 9 rfl)) rfl ?_
  refine zc_sr (r := ((33, 20, 2) : zF)) (zrf (a := 30) (y := 2) hR rfl (zSh_st30 hρ).2.2.2.1) rfl ?_
  refine zwp.go (m := 9) (j := 92) (ls' := [some (zr ((0, 10, 0) : zF)), some (zi l1), some (zi l2), none, some (zi s0), some (zi (((2 : Int32) * l1) + l2))]) (st' := [zi ((((2 : Int32) * (zI h 33 0)) + s0) - ((3 : Int32) * l1)), zi (((2 : Int32) * (((2 : Int32) * l1) + l2)) + (0 : Int32)), zr ((51, 20, 8) : zF)]) (h' := h) rfl ?_
  refine zc_si e (fun _ => rfl) hR (fun h1 hR1 e => ?_)
  refine zwp.go (m := 1) (j := 94) (ls' := [some (zr ((0, 10, 0) : zF)), some (zi l1), some (zi l2), none, some (zi s0), some (zi (((2 : Int32) * l1) + l2))]) (st' := [zr ((0, 10, 0) : zF)]) (h' := h1) rfl ?_
  refine zc_sr (r := ((51, 20, 8) : zF)) (zrf (a := 0) (y := 15) hR1 rfl (hρ 0 15 rfl)) rfl ?_
  refine zwp.go (m := 7) (j := 102) (ls' := [some (zr ((0, 10, 0) : zF)), some (zi l1), some (zi l2), none, some (zi s0), some (zi (((2 : Int32) * l1) + l2))]) (st' := [zr ((0, 10, 0) : zF), zi (2 : Int32), zi (((2 : Int32) * (((2 : Int32) * l1) + l2)) + (1 : Int32)), zr ((51, 20, 8) : zF)]) (h' := h1) rfl ?_
  refine zc_sr (r := ((30, 8, 0) : zF)) (zrf (a := 0) (y := 9) hR1 rfl (hρ 0 9 rfl)) rfl ?_
  refine zc_sr (r := ((33, 20, 2) : zF)) (zrf (a := 30) (y := 2) hR1 rfl (zSh_st30 hρ).2.2.2.1) rfl ?_
  refine zwp.go (m := 9) (j := 113) (ls' := [some (zr ((0, 10, 0) : zF)), some (zi l1), some (zi l2), none, some (zi s0), some (zi (((2 : Int32) * l1) + l2))]) (st' := [zi ((((2 : Int32) * (zI h1 33 1)) + s0) - ((3 : Int32) * l2)), zi (((2 : Int32) * (((2 : Int32) * l1) + l2)) + (1 : Int32)), zr ((51, 20, 8) : zF)]) (h' := h1) rfl ?_
  refine zc_si e (fun _ => rfl) hR1 (fun h2 hR2 e => ?_)
  cases e
  exact zwp.rv rfl ⟨⟨rfl, rfl⟩, hR2⟩
def s_X10_playCouple_J59 (pp : Nat) (l1 : Int32) (l2 : Int32) (s0 : Int32) (h : zH) : Option (zH) := if s0 = 0 then (s_X10_playCouple_J65 pp l1 l2 (0 : Int32) h) else (s_X10_playCouple_J65 pp l1 l2 (6 : Int32) h)
set_option maxRecDepth 100000 in
theorem s_X10_playCouple_J59_ok (d : Nat) (ρ : Nat → Nat → Option zF) (hρ : zSh ρ) (pp : Nat) (hpp : ρ 0 3 = some (pp, 3, 0) ∧ zPlS ρ pp) (l1 : Int32) (l2 : Int32) (s0 : Int32) (h : zH) (res : zH) (hR : zRq h ρ) (e : s_X10_playCouple_J59 pp l1 l2 s0 h = some res) : zwp (d + 5) zm_X10_playCouple 59 [some (zr ((0, 10, 0) : zF)), some (zi l1), some (zi l2), none, none, none] [zi s0] h (zQv ρ res) := by
  rw [s_X10_playCouple_J59] at e
  refine zwp.go (m := 2) (j := 61) (ls' := [some (zr ((0, 10, 0) : zF)), some (zi l1), some (zi l2), some (zi s0), none, none]) (st' := [zi s0]) (h' := h) rfl ?_
  refine zb_if (j := 64) (j2 := 62) e rfl (fun e => ?_) (fun e => ?_)
  · refine zwp.go (m := 1) (j := 65) (ls' := [some (zr ((0, 10, 0) : zF)), some (zi l1), some (zi l2), some (zi s0), none, none]) (st' := [zi (0 : Int32)]) (h' := h) rfl ?_
    refine zwp.fg (a := [some (zr ((0, 10, 0) : zF)), some (zi l1), some (zi l2), none, none, none]) (And.intro rfl (And.intro rfl (And.intro rfl trivial))) ?_
    exact s_X10_playCouple_J65_ok d ρ hρ pp hpp l1 l2 (0 : Int32) h _ hR e
  · refine zwp.go (m := 2) (j := 65) (ls' := [some (zr ((0, 10, 0) : zF)), some (zi l1), some (zi l2), some (zi s0), none, none]) (st' := [zi (6 : Int32)]) (h' := h) rfl ?_
    refine zwp.fg (a := [some (zr ((0, 10, 0) : zF)), some (zi l1), some (zi l2), none, none, none]) (And.intro rfl (And.intro rfl (And.intro rfl trivial))) ?_
    exact s_X10_playCouple_J65_ok d ρ hρ pp hpp l1 l2 (6 : Int32) h _ hR e
def s_X10_playCouple (pp : Nat) (a1 : Int32) (a2 : Int32) (h : zH) : Option (zH) := (s_X8_copyFrom 30 19 h).bind fun h1 => (s_J9_min_7cf53 (9 : Int32) ((zI h1 32 0) + ((3 : Int32) * a1)) h1).bind fun v2 => zlt (zwI h1 32 0 v2) fun h3 => (s_J9_min_7cf53 (9 : Int32) ((zI h3 32 1) + ((3 : Int32) * a2)) h3).bind fun v4 => zlt (zwI h3 32 1 v4) fun h5 => zbd (s_X9_pass pp 30 h5) fun v7 h6 => zbd (s_X9_pass pp 30 h6) fun v9 h8 => if ¬ v9 = 0 then (s_X10_playCouple_J59 pp a1 a2 (1 : Int32) h8) else (if v7 = 0 then (s_X10_playCouple_J59 pp a1 a2 (0 : Int32) h8) else (s_X10_playCouple_J59 pp a1 a2 (1 : Int32) h8))
set_option maxRecDepth 100000 in
theorem s_X10_playCouple_ok (d : Nat) (ρ : Nat → Nat → Option zF) (hρ : zSh ρ) (pp : Nat) (a1 : Int32) (a2 : Int32) (hpp : ρ 0 3 = some (pp, 3, 0) ∧ zPlS ρ pp) (h : zH) (res : zH) (hR : zRq h ρ) (e : s_X10_playCouple pp a1 a2 h = some res) : zcl (d + 5) 289 [zr ((0, 10, 0) : zF), zi a1, zi a2] h (zQv ρ res) := by
  rw [s_X10_playCouple] at e
  refine ⟨zm_X10_playCouple, rfl, ?_⟩
  show zwp (d + 5) zm_X10_playCouple 0 [some (zr ((0, 10, 0) : zF)), some (zi a1), some (zi a2), none, none, none] [] h _
  refine zwp.go (m := 1) (j := 1) (ls' := [some (zr ((0, 10, 0) : zF)), some (zi a1), some (zi a2), none, none, none]) (st' := [zr ((0, 10, 0) : zF)]) (h' := h) rfl ?_
  refine zc_sr (r := ((30, 8, 0) : zF)) (zrf (a := 0) (y := 9) hR rfl (hρ 0 9 rfl)) rfl ?_
  refine zwp.go (m := 1) (j := 3) (ls' := [some (zr ((0, 10, 0) : zF)), some (zi a1), some (zi a2), none, none, none]) (st' := [zr ((0, 10, 0) : zF), zr ((30, 8, 0) : zF)]) (h' := h) rfl ?_
  refine zc_sr (r := ((18, 2, 0) : zF)) (zrf (a := 0) (y := 6) hR rfl (hρ 0 6 rfl)) rfl ?_
  refine zc_sr (r := ((19, 8, 0) : zF)) (zrf (a := 18) (y := 0) hR rfl (zSh_ld18 hρ).2.1) rfl ?_
  refine zc_cv (d := d + 4) e (fun q e => s_X8_copyFrom_ok (d + 4) ρ hρ 30 19 (zSh_st30 hρ) (zSh_st19 hρ) h q hR e) rfl rfl (fun h1 hR1 e => ?_)
  refine zwp.go (m := 1) (j := 7) (ls' := [some (zr ((0, 10, 0) : zF)), some (zi a1), some (zi a2), none, none, none]) (st' := [zr ((0, 10, 0) : zF)]) (h' := h1) rfl ?_
  refine zc_sr (r := ((30, 8, 0) : zF)) (zrf (a := 0) (y := 9) hR1 rfl (hρ 0 9 rfl)) rfl ?_
  refine zc_sr (r := ((32, 20, 2) : zF)) (zrf (a := 30) (y := 1) hR1 rfl (zSh_st30 hρ).2.2.1) rfl ?_
  refine zwp.go (m := 3) (j := 12) (ls' := [some (zr ((0, 10, 0) : zF)), some (zi a1), some (zi a2), none, none, none]) (st' := [zr ((0, 10, 0) : zF), zi (9 : Int32), zi (0 : Int32), zr ((32, 20, 2) : zF)]) (h' := h1) rfl ?_
  refine zc_sr (r := ((30, 8, 0) : zF)) (zrf (a := 0) (y := 9) hR1 rfl (hρ 0 9 rfl)) rfl ?_
  refine zc_sr (r := ((32, 20, 2) : zF)) (zrf (a := 30) (y := 1) hR1 rfl (zSh_st30 hρ).2.2.1) rfl ?_
  refine zwp.go (m := 6) (j := 20) (ls' := [some (zr ((0, 10, 0) : zF)), some (zi a1), some (zi a2), none, none, none]) (st' := [zi ((zI h1 32 0) + ((3 : Int32) * a1)), zi (9 : Int32), zi (0 : Int32), zr ((32, 20, 2) : zF)]) (h' := h1) rfl ?_
  refine zc_cp (d := d + 4) e (fun q e => s_J9_min_7cf53_ok (d + 4) ρ hρ (9 : Int32) ((zI h1 32 0) + ((3 : Int32) * a1)) h1 q hR1 e) rfl rfl (fun v2 e => ?_)
  refine zc_w e rfl hR1 (fun h3 hR3 e => ?_)
  refine zwp.go (m := 1) (j := 23) (ls' := [some (zr ((0, 10, 0) : zF)), some (zi a1), some (zi a2), none, none, none]) (st' := [zr ((0, 10, 0) : zF)]) (h' := h3) rfl ?_
  refine zc_sr (r := ((30, 8, 0) : zF)) (zrf (a := 0) (y := 9) hR3 rfl (hρ 0 9 rfl)) rfl ?_
  refine zc_sr (r := ((32, 20, 2) : zF)) (zrf (a := 30) (y := 1) hR3 rfl (zSh_st30 hρ).2.2.1) rfl ?_
  refine zwp.go (m := 3) (j := 28) (ls' := [some (zr ((0, 10, 0) : zF)), some (zi a1), some (zi a2), none, none, none]) (st' := [zr ((0, 10, 0) : zF), zi (9 : Int32), zi (1 : Int32), zr ((32, 20, 2) : zF)]) (h' := h3) rfl ?_
  refine zc_sr (r := ((30, 8, 0) : zF)) (zrf (a := 0) (y := 9) hR3 rfl (hρ 0 9 rfl)) rfl ?_
  refine zc_sr (r := ((32, 20, 2) : zF)) (zrf (a := 30) (y := 1) hR3 rfl (zSh_st30 hρ).2.2.1) rfl ?_
  refine zwp.go (m := 6) (j := 36) (ls' := [some (zr ((0, 10, 0) : zF)), some (zi a1), some (zi a2), none, none, none]) (st' := [zi ((zI h3 32 1) + ((3 : Int32) * a2)), zi (9 : Int32), zi (1 : Int32), zr ((32, 20, 2) : zF)]) (h' := h3) rfl ?_
  refine zc_cp (d := d + 4) e (fun q e => s_J9_min_7cf53_ok (d + 4) ρ hρ (9 : Int32) ((zI h3 32 1) + ((3 : Int32) * a2)) h3 q hR3 e) rfl rfl (fun v4 e => ?_)
  refine zc_w e rfl hR3 (fun h5 hR5 e => ?_)
  refine zwp.go (m := 1) (j := 39) (ls' := [some (zr ((0, 10, 0) : zF)), some (zi a1), some (zi a2), none, none, none]) (st' := [zr ((0, 10, 0) : zF)]) (h' := h5) rfl ?_
  refine zc_sr (r := ((36, 9, 0) : zF)) (zrf (a := 0) (y := 10) hR5 rfl (hρ 0 10 rfl)) rfl ?_
  refine zwp.go (m := 1) (j := 41) (ls' := [some (zr ((0, 10, 0) : zF)), some (zi a1), some (zi a2), none, none, none]) (st' := [zr ((0, 10, 0) : zF), zr ((36, 9, 0) : zF)]) (h' := h5) rfl ?_
  refine zc_sr (r := ((pp, 3, 0) : zF)) (zrf (a := 0) (y := 3) hR5 rfl hpp.1) rfl ?_
  refine zwp.go (m := 1) (j := 43) (ls' := [some (zr ((0, 10, 0) : zF)), some (zi a1), some (zi a2), none, none, none]) (st' := [zr ((0, 10, 0) : zF), zr ((pp, 3, 0) : zF), zr ((36, 9, 0) : zF)]) (h' := h5) rfl ?_
  refine zc_sr (r := ((30, 8, 0) : zF)) (zrf (a := 0) (y := 9) hR5 rfl (hρ 0 9 rfl)) rfl ?_
  refine zc_ci (d := d + 4) e (fun q e => s_X9_pass_ok (d + 0) ρ hρ pp 30 hpp.2 (zSh_st30 hρ) h5 q hR5 e) rfl rfl (fun v7 h6 hR6 e => ?_)
  refine zwp.go (m := 2) (j := 47) (ls' := [some (zr ((0, 10, 0) : zF)), some (zi a1), some (zi a2), some (zi v7), none, none]) (st' := [zr ((0, 10, 0) : zF)]) (h' := h6) rfl ?_
  refine zc_sr (r := ((36, 9, 0) : zF)) (zrf (a := 0) (y := 10) hR6 rfl (hρ 0 10 rfl)) rfl ?_
  refine zwp.go (m := 1) (j := 49) (ls' := [some (zr ((0, 10, 0) : zF)), some (zi a1), some (zi a2), some (zi v7), none, none]) (st' := [zr ((0, 10, 0) : zF), zr ((36, 9, 0) : zF)]) (h' := h6) rfl ?_
  refine zc_sr (r := ((pp, 3, 0) : zF)) (zrf (a := 0) (y := 3) hR6 rfl hpp.1) rfl ?_
  refine zwp.go (m := 1) (j := 51) (ls' := [some (zr ((0, 10, 0) : zF)), some (zi a1), some (zi a2), some (zi v7), none, none]) (st' := [zr ((0, 10, 0) : zF), zr ((pp, 3, 0) : zF), zr ((36, 9, 0) : zF)]) (h' := h6) rfl ?_
  refine zc_sr (r := ((30, 8, 0) : zF)) (zrf (a := 0) (y := 9) hR6 rfl (hρ 0 9 rfl)) rfl ?_
  refine zc_ci (d := d + 4) e (fun q e => s_X9_pass_ok (d + 0) ρ hρ pp 30 hpp.2 (zSh_st30 hρ) h6 q hR6 e) rfl rfl (fun v9 h8 hR8 e => ?_)
  refine zb_if (j := 56) (j2 := 54) e rfl (fun e => ?_) (fun e => ?_)
  · refine zwp.go (m := 2) (j := 59) (ls' := [some (zr ((0, 10, 0) : zF)), some (zi a1), some (zi a2), some (zi v7), none, none]) (st' := [zi (1 : Int32)]) (h' := h8) rfl ?_
    refine zwp.fg (a := [some (zr ((0, 10, 0) : zF)), some (zi a1), some (zi a2), none, none, none]) (And.intro rfl (And.intro rfl (And.intro rfl trivial))) ?_
    exact s_X10_playCouple_J59_ok d ρ hρ pp hpp a1 a2 (1 : Int32) h8 _ hR8 e
  · refine zwp.go (m := 1) (j := 55) (ls' := [some (zr ((0, 10, 0) : zF)), some (zi a1), some (zi a2), some (zi v7), none, none]) (st' := [zi v7]) (h' := h8) rfl ?_
    refine zb_if (j := 58) (j2 := 56) e rfl (fun e => ?_) (fun e => ?_)
    · refine zwp.go (m := 1) (j := 59) (ls' := [some (zr ((0, 10, 0) : zF)), some (zi a1), some (zi a2), some (zi v7), none, none]) (st' := [zi (0 : Int32)]) (h' := h8) rfl ?_
      refine zwp.fg (a := [some (zr ((0, 10, 0) : zF)), some (zi a1), some (zi a2), none, none, none]) (And.intro rfl (And.intro rfl (And.intro rfl trivial))) ?_
      exact s_X10_playCouple_J59_ok d ρ hρ pp hpp a1 a2 (0 : Int32) h8 _ hR8 e
    · refine zwp.go (m := 2) (j := 59) (ls' := [some (zr ((0, 10, 0) : zF)), some (zi a1), some (zi a2), some (zi v7), none, none]) (st' := [zi (1 : Int32)]) (h' := h8) rfl ?_
      refine zwp.fg (a := [some (zr ((0, 10, 0) : zF)), some (zi a1), some (zi a2), none, none, none]) (And.intro rfl (And.intro rfl (And.intro rfl trivial))) ?_
      exact s_X10_playCouple_J59_ok d ρ hρ pp hpp a1 a2 (1 : Int32) h8 _ hR8 e
def s_X10_rests (pp : Nat) (a1 : Int32) (h : zH) : Option (Int32) := zix (((2 : Int32) * a1) + (0 : Int32)) 8 fun i1 => zix (((2 : Int32) * (a1 ^^^ (2 : Int32))) + (0 : Int32)) 8 fun i2 => if (zI h 51 i1) < (zI h 51 i2) then (some (0 : Int32)) else (zix (((2 : Int32) * a1) + (1 : Int32)) 8 fun i3 => zix (((2 : Int32) * (a1 ^^^ (1 : Int32))) + (1 : Int32)) 8 fun i4 => if (zI h 51 i3) < (zI h 51 i4) then (some (0 : Int32)) else (some (1 : Int32)))
set_option maxRecDepth 100000 in
theorem s_X10_rests_ok (d : Nat) (ρ : Nat → Nat → Option zF) (hρ : zSh ρ) (pp : Nat) (a1 : Int32) (hpp : ρ 0 3 = some (pp, 3, 0) ∧ zPlS ρ pp) (h : zH) (res : Int32) (hR : zRq h ρ) (e : s_X10_rests pp a1 h = some res) : zcl d 290 [zr ((0, 10, 0) : zF), zi a1] h (zQp h res) := by
  rw [s_X10_rests] at e
  refine ⟨zm_X10_rests, rfl, ?_⟩
  show zwp d zm_X10_rests 0 [some (zr ((0, 10, 0) : zF)), some (zi a1), none, none] [] h _
  refine zwp.go (m := 9) (j := 9) (ls' := [some (zr ((0, 10, 0) : zF)), some (zi a1), some (zi (a1 ^^^ (2 : Int32))), some (zi (a1 ^^^ (1 : Int32)))]) (st' := [zr ((0, 10, 0) : zF)]) (h' := h) rfl ?_
  refine zc_sr (r := ((51, 20, 8) : zF)) (zrf (a := 0) (y := 15) hR rfl (hρ 0 15 rfl)) rfl ?_
  refine zwp.go (m := 5) (j := 15) (ls' := [some (zr ((0, 10, 0) : zF)), some (zi a1), some (zi (a1 ^^^ (2 : Int32))), some (zi (a1 ^^^ (1 : Int32)))]) (st' := [zi (((2 : Int32) * a1) + (0 : Int32)), zr ((51, 20, 8) : zF)]) (h' := h) rfl ?_
  refine zc_ai e (fun _ => rfl) (fun i1 e => ?_)
  refine zwp.go (m := 1) (j := 17) (ls' := [some (zr ((0, 10, 0) : zF)), some (zi a1), some (zi (a1 ^^^ (2 : Int32))), some (zi (a1 ^^^ (1 : Int32)))]) (st' := [zr ((0, 10, 0) : zF), zi (zI h 51 i1)]) (h' := h) rfl ?_
  refine zc_sr (r := ((51, 20, 8) : zF)) (zrf (a := 0) (y := 15) hR rfl (hρ 0 15 rfl)) rfl ?_
  refine zwp.go (m := 5) (j := 23) (ls' := [some (zr ((0, 10, 0) : zF)), some (zi a1), some (zi (a1 ^^^ (2 : Int32))), some (zi (a1 ^^^ (1 : Int32)))]) (st' := [zi (((2 : Int32) * (a1 ^^^ (2 : Int32))) + (0 : Int32)), zr ((51, 20, 8) : zF), zi (zI h 51 i1)]) (h' := h) rfl ?_
  refine zc_ai e (fun _ => rfl) (fun i2 e => ?_)
  refine zb_if (j := 44) (j2 := 25) e rfl (fun e => ?_) (fun e => ?_)
  · refine zwp.go (m := 1) (j := 45) (ls' := [some (zr ((0, 10, 0) : zF)), some (zi a1), some (zi (a1 ^^^ (2 : Int32))), some (zi (a1 ^^^ (1 : Int32)))]) (st' := [zi (0 : Int32)]) (h' := h) rfl ?_
    cases e
    exact zwp.ret rfl rfl ⟨rfl, rfl⟩
  · refine zwp.go (m := 1) (j := 26) (ls' := [some (zr ((0, 10, 0) : zF)), some (zi a1), some (zi (a1 ^^^ (2 : Int32))), some (zi (a1 ^^^ (1 : Int32)))]) (st' := [zr ((0, 10, 0) : zF)]) (h' := h) rfl ?_
    refine zc_sr (r := ((51, 20, 8) : zF)) (zrf (a := 0) (y := 15) hR rfl (hρ 0 15 rfl)) rfl ?_
    refine zwp.go (m := 5) (j := 32) (ls' := [some (zr ((0, 10, 0) : zF)), some (zi a1), some (zi (a1 ^^^ (2 : Int32))), some (zi (a1 ^^^ (1 : Int32)))]) (st' := [zi (((2 : Int32) * a1) + (1 : Int32)), zr ((51, 20, 8) : zF)]) (h' := h) rfl ?_
    refine zc_ai e (fun _ => rfl) (fun i3 e => ?_)
    refine zwp.go (m := 1) (j := 34) (ls' := [some (zr ((0, 10, 0) : zF)), some (zi a1), some (zi (a1 ^^^ (2 : Int32))), some (zi (a1 ^^^ (1 : Int32)))]) (st' := [zr ((0, 10, 0) : zF), zi (zI h 51 i3)]) (h' := h) rfl ?_
    refine zc_sr (r := ((51, 20, 8) : zF)) (zrf (a := 0) (y := 15) hR rfl (hρ 0 15 rfl)) rfl ?_
    refine zwp.go (m := 5) (j := 40) (ls' := [some (zr ((0, 10, 0) : zF)), some (zi a1), some (zi (a1 ^^^ (2 : Int32))), some (zi (a1 ^^^ (1 : Int32)))]) (st' := [zi (((2 : Int32) * (a1 ^^^ (1 : Int32))) + (1 : Int32)), zr ((51, 20, 8) : zF), zi (zI h 51 i3)]) (h' := h) rfl ?_
    refine zc_ai e (fun _ => rfl) (fun i4 e => ?_)
    refine zb_if (j := 44) (j2 := 42) e rfl (fun e => ?_) (fun e => ?_)
    · refine zwp.go (m := 1) (j := 45) (ls' := [some (zr ((0, 10, 0) : zF)), some (zi a1), some (zi (a1 ^^^ (2 : Int32))), some (zi (a1 ^^^ (1 : Int32)))]) (st' := [zi (0 : Int32)]) (h' := h) rfl ?_
      cases e
      exact zwp.ret rfl rfl ⟨rfl, rfl⟩
    · refine zwp.go (m := 2) (j := 45) (ls' := [some (zr ((0, 10, 0) : zF)), some (zi a1), some (zi (a1 ^^^ (2 : Int32))), some (zi (a1 ^^^ (1 : Int32)))]) (st' := [zi (1 : Int32)]) (h' := h) rfl ?_
      cases e
      exact zwp.ret rfl rfl ⟨rfl, rfl⟩
def s_X10_game_L25 (pp : Nat) : Nat → Int32 → Int32 → Int32 → Int32 → zH → Option ((Int32 ⊕ Nat) × zH)
  | 0, _, _, _, _, _ => none
  | n + 1, l1, l2, l3, l4, h => if (4 : Int32) ≤ l4 then (if ¬ l1 = 0 then (some (Sum.inl l3, h)) else (some (Sum.inl l2, h))) else ((s_X10_rests pp l4 h).bind fun v1 => if v1 = 0 then (s_X10_game_L25 pp n l1 l2 l3 (l4 + (1 : Int32)) h) else (if ¬ l2 = 0 then (s_X10_game_L25 pp n l1 (l2 + (1 : Int32)) l3 (l4 + (1 : Int32)) h) else (s_X10_game_L25 pp n l1 (l2 + (1 : Int32)) (((10 : Int32) * (l4 >>> ((1 : Int32) &&& 31))) + (l4 &&& (1 : Int32))) (l4 + (1 : Int32)) h)))
set_option maxRecDepth 100000 in
theorem s_X10_game_L25_ok (d : Nat) (ρ : Nat → Nat → Option zF) (hρ : zSh ρ) (pp : Nat) (hpp : ρ 0 3 = some (pp, 3, 0) ∧ zPlS ρ pp) : ∀ (n : Nat) (l1 : Int32) (l2 : Int32) (l3 : Int32) (l4 : Int32) (h : zH) (res : (Int32 ⊕ Nat) × zH) (hR : zRq h ρ) (e : s_X10_game_L25 pp n l1 l2 l3 l4 h = some res), zwp (d + 6) zm_X10_game 25 [some (zr ((0, 10, 0) : zF)), some (zi l1), some (zi l2), some (zi l3), some (zi l4)] [] h (zQx ρ res) := by
  intro n
  induction n with
  | zero => intro l1 l2 l3 l4 h res hR e; cases e
  | succ n ih =>
    intro l1 l2 l3 l4 h res hR e
    rw [s_X10_game_L25] at e
    refine zwp.go (m := 2) (j := 27) (ls' := [some (zr ((0, 10, 0) : zF)), some (zi l1), some (zi l2), some (zi l3), some (zi l4)]) (st' := [zi (4 : Int32), zi l4]) (h' := h) rfl ?_
    refine zb_if (j := 49) (j2 := 28) e rfl (fun e => ?_) (fun e => ?_)
    · refine zwp.go (m := 1) (j := 50) (ls' := [some (zr ((0, 10, 0) : zF)), some (zi l1), some (zi l2), some (zi l3), some (zi l4)]) (st' := [zi l1]) (h' := h) rfl ?_
      refine zb_if (j := 53) (j2 := 51) e rfl (fun e => ?_) (fun e => ?_)
      · refine zwp.go (m := 1) (j := 54) (ls' := [some (zr ((0, 10, 0) : zF)), some (zi l1), some (zi l2), some (zi l3), some (zi l4)]) (st' := [zi l3]) (h' := h) rfl ?_
        cases e
        exact zwp.ret rfl rfl ⟨⟨rfl, rfl⟩, hR⟩
      · refine zwp.go (m := 2) (j := 54) (ls' := [some (zr ((0, 10, 0) : zF)), some (zi l1), some (zi l2), some (zi l3), some (zi l4)]) (st' := [zi l2]) (h' := h) rfl ?_
        cases e
        exact zwp.ret rfl rfl ⟨⟨rfl, rfl⟩, hR⟩
    · refine zwp.go (m := 2) (j := 30) (ls' := [some (zr ((0, 10, 0) : zF)), some (zi l1), some (zi l2), some (zi l3), some (zi l4)]) (st' := [zi l4, zr ((0, 10, 0) : zF)]) (h' := h) rfl ?_
      refine zc_cp (d := d + 5) e (fun q e => s_X10_rests_ok (d + 5) ρ hρ pp l4 hpp h q hR e) rfl rfl (fun v1 e => ?_)
      refine zb_if (j := 47) (j2 := 32) e rfl (fun e => ?_) (fun e => ?_)
      · refine zwp.go (m := 2) (j := 25) (ls' := [some (zr ((0, 10, 0) : zF)), some (zi l1), some (zi l2), some (zi l3), some (zi (l4 + (1 : Int32)))]) (st' := []) (h' := h) rfl ?_
        exact ih l1 l2 l3 (l4 + (1 : Int32)) h _ hR e
      · refine zwp.go (m := 1) (j := 33) (ls' := [some (zr ((0, 10, 0) : zF)), some (zi l1), some (zi l2), some (zi l3), some (zi l4)]) (st' := [zi l2]) (h' := h) rfl ?_
        refine zb_if (j := 44) (j2 := 34) e rfl (fun e => ?_) (fun e => ?_)
        · refine zwp.go (m := 5) (j := 25) (ls' := [some (zr ((0, 10, 0) : zF)), some (zi l1), some (zi (l2 + (1 : Int32))), some (zi l3), some (zi (l4 + (1 : Int32)))]) (st' := []) (h' := h) rfl ?_
          exact ih l1 (l2 + (1 : Int32)) l3 (l4 + (1 : Int32)) h _ hR e
        · refine zwp.go (m := 14) (j := 25) (ls' := [some (zr ((0, 10, 0) : zF)), some (zi l1), some (zi (l2 + (1 : Int32))), some (zi (((10 : Int32) * (l4 >>> ((1 : Int32) &&& 31))) + (l4 &&& (1 : Int32)))), some (zi (l4 + (1 : Int32)))]) (st' := []) (h' := h) rfl ?_
          exact ih l1 (l2 + (1 : Int32)) (((10 : Int32) * (l4 >>> ((1 : Int32) &&& 31))) + (l4 &&& (1 : Int32))) (l4 + (1 : Int32)) h _ hR e
def s_X10_game_L6 (pp : Nat) : Nat → Int32 → Int32 → zH → Option ((Int32 ⊕ Nat) × zH)
  | 0, _, _, _ => none
  | n + 1, l1, l2, h => if (4 : Int32) ≤ l2 then (s_X10_game_L25 pp zfu l1 (0 : Int32) (-1 : Int32) (0 : Int32) h) else ((s_X10_playCouple pp (l2 >>> ((1 : Int32) &&& 31)) (l2 &&& (1 : Int32)) h).bind fun h1 => s_X10_game_L6 pp n l1 (l2 + (1 : Int32)) h1)
set_option maxRecDepth 100000 in
theorem s_X10_game_L6_ok (d : Nat) (ρ : Nat → Nat → Option zF) (hρ : zSh ρ) (pp : Nat) (hpp : ρ 0 3 = some (pp, 3, 0) ∧ zPlS ρ pp) : ∀ (n : Nat) (l1 : Int32) (l2 : Int32) (h : zH) (res : (Int32 ⊕ Nat) × zH) (hR : zRq h ρ) (e : s_X10_game_L6 pp n l1 l2 h = some res), zwp (d + 6) zm_X10_game 6 [some (zr ((0, 10, 0) : zF)), some (zi l1), some (zi l2), none, none] [] h (zQx ρ res) := by
  intro n
  induction n with
  | zero => intro l1 l2 h res hR e; cases e
  | succ n ih =>
    intro l1 l2 h res hR e
    rw [s_X10_game_L6] at e
    refine zwp.go (m := 2) (j := 8) (ls' := [some (zr ((0, 10, 0) : zF)), some (zi l1), some (zi l2), none, none]) (st' := [zi (4 : Int32), zi l2]) (h' := h) rfl ?_
    refine zb_if (j := 19) (j2 := 9) e rfl (fun e => ?_) (fun e => ?_)
    · refine zwp.go (m := 6) (j := 25) (ls' := [some (zr ((0, 10, 0) : zF)), some (zi l1), some (zi (0 : Int32)), some (zi (-1 : Int32)), some (zi (0 : Int32))]) (st' := []) (h' := h) rfl ?_
      exact s_X10_game_L25_ok d ρ hρ pp hpp zfu l1 (0 : Int32) (-1 : Int32) (0 : Int32) h _ hR e
    · refine zwp.go (m := 7) (j := 16) (ls' := [some (zr ((0, 10, 0) : zF)), some (zi l1), some (zi l2), none, none]) (st' := [zi (l2 &&& (1 : Int32)), zi (l2 >>> ((1 : Int32) &&& 31)), zr ((0, 10, 0) : zF)]) (h' := h) rfl ?_
      refine zc_cv (d := d + 5) e (fun q e => s_X10_playCouple_ok (d + 0) ρ hρ pp (l2 >>> ((1 : Int32) &&& 31)) (l2 &&& (1 : Int32)) hpp h q hR e) rfl rfl (fun h1 hR1 e => ?_)
      refine zwp.go (m := 2) (j := 6) (ls' := [some (zr ((0, 10, 0) : zF)), some (zi l1), some (zi (l2 + (1 : Int32))), none, none]) (st' := []) (h' := h1) rfl ?_
      exact ih l1 (l2 + (1 : Int32)) h1 _ hR1 e
def s_X10_game (pp : Nat) (a1 : Int32) (h : zH) : Option ((Int32 ⊕ Nat) × zH) := zbx (s_X10_needWhat pp a1 (2 : Int32) h) (fun _ h2 => s_X10_game_L6 pp zfu a1 (0 : Int32) h2) (fun x h1 => some (Sum.inr x, h1))
set_option maxRecDepth 100000 in
theorem s_X10_game_ok (d : Nat) (ρ : Nat → Nat → Option zF) (hρ : zSh ρ) (pp : Nat) (a1 : Int32) (hpp : ρ 0 3 = some (pp, 3, 0) ∧ zPlS ρ pp) (h : zH) (res : (Int32 ⊕ Nat) × zH) (hR : zRq h ρ) (e : s_X10_game pp a1 h = some res) : zcl (d + 6) 291 [zr ((0, 10, 0) : zF), zi a1] h (zQx ρ res) := by
  rw [s_X10_game] at e
  refine ⟨zm_X10_game, rfl, ?_⟩
  show zwp (d + 6) zm_X10_game 0 [some (zr ((0, 10, 0) : zF)), some (zi a1), none, none, none] [] h _
  refine zwp.go (m := 3) (j := 3) (ls' := [some (zr ((0, 10, 0) : zF)), some (zi a1), none, none, none]) (st' := [zi (2 : Int32), zi a1, zr ((0, 10, 0) : zF)]) (h' := h) rfl ?_
  refine zc_cu (d := d + 5) e (fun q e => s_X10_needWhat_ok (d + 5) ρ hρ pp a1 (2 : Int32) hpp h q hR e) rfl rfl (fun h2 hR2 e => ?_) (fun x h1 hR1 e => ?_)
  · refine zwp.go (m := 2) (j := 6) (ls' := [some (zr ((0, 10, 0) : zF)), some (zi a1), some (zi (0 : Int32)), none, none]) (st' := []) (h' := h2) rfl ?_
    exact s_X10_game_L6_ok d ρ hρ pp hpp zfu a1 (0 : Int32) h2 _ hR2 e
  · cases e
    exact ⟨rfl, ⟨⟨rfl, rfl⟩, hR1⟩⟩
def s_L_game (pp : Nat) (a1 : Int32) (a2 n2 : Nat) (h : zH) : Option (Int32 × zH) := zbx (s_X10_game pp a1 h) (fun v3 h2 => zix (0 : Int32) n2 fun i5 => zlt (zwL h2 a2 i5 v3.toInt64) fun h4 => some ((0 : Int32), h4)) (fun x h1 => if x = 1 then (some ((1 : Int32), h1)) else none)
set_option maxRecDepth 100000 in
theorem s_L_game_ok (d : Nat) (ρ : Nat → Nat → Option zF) (hρ : zSh ρ) (pp : Nat) (a1 : Int32) (a2 n2 : Nat) (hpp : ρ 0 3 = some (pp, 3, 0) ∧ zPlS ρ pp) (h : zH) (res : Int32 × zH) (hR : zRq h ρ) (e : s_L_game pp a1 a2 n2 h = some res) : zcl (d + 7) 292 [zr ((0, 10, 0) : zF), zi a1, zr ((a2, 23, n2) : zF)] h (zQi ρ res) := by
  rw [s_L_game] at e
  refine ⟨zm_L_game, rfl, ?_⟩
  show zwp (d + 7) zm_L_game 0 [some (zr ((0, 10, 0) : zF)), some (zi a1), some (zr ((a2, 23, n2) : zF)), none] [] h _
  refine zwp.go (m := 4) (j := 4) (ls' := [some (zr ((0, 10, 0) : zF)), some (zi a1), some (zr ((a2, 23, n2) : zF)), none]) (st' := [zi a1, zr ((0, 10, 0) : zF), zi (0 : Int32), zr ((a2, 23, n2) : zF)]) (h' := h) rfl ?_
  refine zc_cx (d := d + 6) e (fun q e => s_X10_game_ok (d + 0) ρ hρ pp a1 hpp h q hR e) rfl rfl (fun v3 h2 hR2 e => ?_) (fun x h1 hR1 e => ?_)
  · refine zwp.go (m := 1) (j := 6) (ls' := [some (zr ((0, 10, 0) : zF)), some (zi a1), some (zr ((a2, 23, n2) : zF)), none]) (st' := [zl v3.toInt64, zi (0 : Int32), zr ((a2, 23, n2) : zF)]) (h' := h2) rfl ?_
    refine zc_sl e (fun _ => rfl) hR2 (fun h4 hR4 e => ?_)
    refine zwp.go (m := 2) (j := 12) (ls' := [some (zr ((0, 10, 0) : zF)), some (zi a1), some (zr ((a2, 23, n2) : zF)), none]) (st' := [zi (0 : Int32)]) (h' := h4) rfl ?_
    cases e
    exact zwp.ret rfl rfl ⟨⟨rfl, rfl⟩, hR4⟩
  · by_cases q1 : x = 1
    · subst q1
      replace e : (some ((1 : Int32), h1)) = some res := by simpa using e
      show zwp _ _ 9 [some (zr ((0, 10, 0) : zF)), some (zi a1), some (zr ((a2, 23, n2) : zF)), none] [] _ _
      refine zwp.go (m := 1) (j := 10) (ls' := [some (zr ((0, 10, 0) : zF)), some (zi a1), some (zr ((a2, 23, n2) : zF)), none]) (st' := [zi (1 : Int32)]) (h' := h1) rfl ?_
      cases e
      exact zwp.ret rfl rfl ⟨⟨rfl, rfl⟩, hR1⟩
    · skip
      simp [q1] at e
def s_X11_tellGains_J59 (k7 : (Int32 → zH → Option (zH))) (l1 : Int32) (l2 : Int32) (l3 : Int32) (s0 : Int32) (h : zH) : Option (zH) := zix ((2 : Int32) * l1) 8 fun i5 => zlt (zwI h 83 i5 ((((2 : Int32) * (zI h 52 30)) + s0) - ((3 : Int32) * l2))) fun h1 => zix (((2 : Int32) * l1) + (1 : Int32)) 8 fun i4 => zlt (zwI h1 83 i4 ((((2 : Int32) * (zI h1 52 31)) + s0) - ((3 : Int32) * l3))) fun h2 => (s_X11_unpack 71 38 (0 : Int32) h2).bind fun h3 => k7 (l1 + (1 : Int32)) h3
set_option maxRecDepth 100000 in
theorem s_X11_tellGains_J59_ok (d : Nat) (ρ : Nat → Nat → Option zF) (hρ : zSh ρ) (k7 : (Int32 → zH → Option (zH))) (hk7 : ∀ l1 h res, zRq h ρ → k7 l1 h = some res → zwp (d + 6) zm_X11_tellGains 7 [some (zr ((52, 11, 0) : zF)), some (zi l1), none, none, none, none] [] h (zQv ρ res)) (l1 : Int32) (l2 : Int32) (l3 : Int32) (s0 : Int32) (h : zH) (res : zH) (hR : zRq h ρ) (e : s_X11_tellGains_J59 k7 l1 l2 l3 s0 h = some res) : zwp (d + 6) zm_X11_tellGains 59 [some (zr ((52, 11, 0) : zF)), some (zi l1), some (zi l2), some (zi l3), none, none] [zi s0] h (zQv ρ res) := by
  rw [s_X11_tellGains_J59] at e
  refine zwp.go (m := 2) (j := 61) (ls' := [some (zr ((52, 11, 0) : zF)), some (zi l1), some (zi l2), some (zi l3), none, some (zi s0)]) (st' := [zr ((52, 11, 0) : zF)]) (h' := h) rfl ?_
  refine zc_sr (r := ((83, 20, 8) : zF)) (zrf (a := 52) (y := 57) hR rfl (hρ 52 57 rfl)) rfl ?_
  refine zwp.go (m := 13) (j := 75) (ls' := [some (zr ((52, 11, 0) : zF)), some (zi l1), some (zi l2), some (zi l3), none, some (zi s0)]) (st' := [zi ((((2 : Int32) * (zI h 52 30)) + s0) - ((3 : Int32) * l2)), zi ((2 : Int32) * l1), zr ((83, 20, 8) : zF)]) (h' := h) rfl ?_
  refine zc_si e (fun _ => rfl) hR (fun h1 hR1 e => ?_)
  refine zwp.go (m := 1) (j := 77) (ls' := [some (zr ((52, 11, 0) : zF)), some (zi l1), some (zi l2), some (zi l3), none, some (zi s0)]) (st' := [zr ((52, 11, 0) : zF)]) (h' := h1) rfl ?_
  refine zc_sr (r := ((83, 20, 8) : zF)) (zrf (a := 52) (y := 57) hR1 rfl (hρ 52 57 rfl)) rfl ?_
  refine zwp.go (m := 15) (j := 93) (ls' := [some (zr ((52, 11, 0) : zF)), some (zi l1), some (zi l2), some (zi l3), none, some (zi s0)]) (st' := [zi ((((2 : Int32) * (zI h1 52 31)) + s0) - ((3 : Int32) * l3)), zi (((2 : Int32) * l1) + (1 : Int32)), zr ((83, 20, 8) : zF)]) (h' := h1) rfl ?_
  refine zc_si e (fun _ => rfl) hR1 (fun h2 hR2 e => ?_)
  refine zwp.go (m := 2) (j := 96) (ls' := [some (zr ((52, 11, 0) : zF)), some (zi l1), some (zi l2), some (zi l3), none, some (zi s0)]) (st' := [zr ((52, 11, 0) : zF), zr ((52, 11, 0) : zF)]) (h' := h2) rfl ?_
  refine zc_sr (r := ((71, 20, 38) : zF)) (zrf (a := 52) (y := 42) hR2 rfl (hρ 52 42 rfl)) rfl ?_
  refine zwp.go (m := 1) (j := 98) (ls' := [some (zr ((52, 11, 0) : zF)), some (zi l1), some (zi l2), some (zi l3), none, some (zi s0)]) (st' := [zi (0 : Int32), zr ((71, 20, 38) : zF), zr ((52, 11, 0) : zF)]) (h' := h2) rfl ?_
  refine zc_cv (d := d + 5) e (fun q e => s_X11_unpack_ok (d + 5) ρ hρ 71 38 (0 : Int32) h2 q hR2 e) rfl rfl (fun h3 hR3 e => ?_)
  refine zwp.go (m := 2) (j := 7) (ls' := [some (zr ((52, 11, 0) : zF)), some (zi (l1 + (1 : Int32))), some (zi l2), some (zi l3), none, some (zi s0)]) (st' := []) (h' := h3) rfl ?_
  refine zwp.fg (a := [some (zr ((52, 11, 0) : zF)), some (zi (l1 + (1 : Int32))), none, none, none, none]) (And.intro rfl (And.intro rfl trivial)) ?_
  exact hk7 (l1 + (1 : Int32)) h3 _ hR3 e
def s_X11_tellGains_L7 : Nat → Int32 → zH → Option (zH)
  | 0, _, _ => none
  | n + 1, l1, h => if (4 : Int32) ≤ l1 then (some h) else ((zdv l1 (2 : Int32)).bind fun v1 => (zre l1 (2 : Int32)).bind fun v2 => (s_J9_min_7cf53 (9 : Int32) ((zI h 65 0) + ((3 : Int32) * v1)) h).bind fun v3 => zlt (zwI h 65 0 v3) fun h4 => (s_J9_min_7cf53 (9 : Int32) ((zI h4 65 1) + ((3 : Int32) * v2)) h4).bind fun v5 => zlt (zwI h4 65 1 v5) fun h6 => (s_X11_goOn (2 : Int32) h6).bind fun h7 => if (zI h7 52 33) ≤ (zI h6 52 33) then (s_X11_tellGains_J59 (s_X11_tellGains_L7 n) l1 v1 v2 (0 : Int32) h7) else (s_X11_tellGains_J59 (s_X11_tellGains_L7 n) l1 v1 v2 (6 : Int32) h7))
set_option maxRecDepth 100000 in
theorem s_X11_tellGains_L7_ok (d : Nat) (ρ : Nat → Nat → Option zF) (hρ : zSh ρ) : ∀ (n : Nat) (l1 : Int32) (h : zH) (res : zH) (hR : zRq h ρ) (e : s_X11_tellGains_L7  n l1 h = some res), zwp (d + 6) zm_X11_tellGains 7 [some (zr ((52, 11, 0) : zF)), some (zi l1), none, none, none, none] [] h (zQv ρ res) := by
  intro n
  induction n with
  | zero => intro l1 h res hR e; cases e
  | succ n ih =>
    intro l1 h res hR e
    rw [s_X11_tellGains_L7] at e
    refine zwp.go (m := 2) (j := 9) (ls' := [some (zr ((52, 11, 0) : zF)), some (zi l1), none, none, none, none]) (st' := [zi (4 : Int32), zi l1]) (h' := h) rfl ?_
    refine zb_if (j := 101) (j2 := 10) e rfl (fun e => ?_) (fun e => ?_)
    · cases e
      exact zwp.rv rfl ⟨⟨rfl, rfl⟩, hR⟩
    · refine zwp.go (m := 2) (j := 12) (ls' := [some (zr ((52, 11, 0) : zF)), some (zi l1), none, none, none, none]) (st' := [zi (2 : Int32), zi l1]) (h' := h) rfl ?_
      refine zb_dv e rfl (fun v1 e => ?_)
      refine zwp.go (m := 3) (j := 16) (ls' := [some (zr ((52, 11, 0) : zF)), some (zi l1), some (zi v1), none, none, none]) (st' := [zi (2 : Int32), zi l1]) (h' := h) rfl ?_
      refine zb_re e rfl (fun v2 e => ?_)
      refine zwp.go (m := 2) (j := 19) (ls' := [some (zr ((52, 11, 0) : zF)), some (zi l1), some (zi v1), some (zi v2), none, none]) (st' := [zr ((52, 11, 0) : zF)]) (h' := h) rfl ?_
      refine zc_sr (r := ((65, 20, 2) : zF)) (zrf (a := 52) (y := 25) hR rfl (hρ 52 25 rfl)) rfl ?_
      refine zwp.go (m := 3) (j := 23) (ls' := [some (zr ((52, 11, 0) : zF)), some (zi l1), some (zi v1), some (zi v2), none, none]) (st' := [zr ((52, 11, 0) : zF), zi (9 : Int32), zi (0 : Int32), zr ((65, 20, 2) : zF)]) (h' := h) rfl ?_
      refine zc_sr (r := ((65, 20, 2) : zF)) (zrf (a := 52) (y := 25) hR rfl (hρ 52 25 rfl)) rfl ?_
      refine zwp.go (m := 6) (j := 30) (ls' := [some (zr ((52, 11, 0) : zF)), some (zi l1), some (zi v1), some (zi v2), none, none]) (st' := [zi ((zI h 65 0) + ((3 : Int32) * v1)), zi (9 : Int32), zi (0 : Int32), zr ((65, 20, 2) : zF)]) (h' := h) rfl ?_
      refine zc_cp (d := d + 5) e (fun q e => s_J9_min_7cf53_ok (d + 5) ρ hρ (9 : Int32) ((zI h 65 0) + ((3 : Int32) * v1)) h q hR e) rfl rfl (fun v3 e => ?_)
      refine zc_w e rfl hR (fun h4 hR4 e => ?_)
      refine zwp.go (m := 1) (j := 33) (ls' := [some (zr ((52, 11, 0) : zF)), some (zi l1), some (zi v1), some (zi v2), none, none]) (st' := [zr ((52, 11, 0) : zF)]) (h' := h4) rfl ?_
      refine zc_sr (r := ((65, 20, 2) : zF)) (zrf (a := 52) (y := 25) hR4 rfl (hρ 52 25 rfl)) rfl ?_
      refine zwp.go (m := 3) (j := 37) (ls' := [some (zr ((52, 11, 0) : zF)), some (zi l1), some (zi v1), some (zi v2), none, none]) (st' := [zr ((52, 11, 0) : zF), zi (9 : Int32), zi (1 : Int32), zr ((65, 20, 2) : zF)]) (h' := h4) rfl ?_
      refine zc_sr (r := ((65, 20, 2) : zF)) (zrf (a := 52) (y := 25) hR4 rfl (hρ 52 25 rfl)) rfl ?_
      refine zwp.go (m := 6) (j := 44) (ls' := [some (zr ((52, 11, 0) : zF)), some (zi l1), some (zi v1), some (zi v2), none, none]) (st' := [zi ((zI h4 65 1) + ((3 : Int32) * v2)), zi (9 : Int32), zi (1 : Int32), zr ((65, 20, 2) : zF)]) (h' := h4) rfl ?_
      refine zc_cp (d := d + 5) e (fun q e => s_J9_min_7cf53_ok (d + 5) ρ hρ (9 : Int32) ((zI h4 65 1) + ((3 : Int32) * v2)) h4 q hR4 e) rfl rfl (fun v5 e => ?_)
      refine zc_w e rfl hR4 (fun h6 hR6 e => ?_)
      refine zwp.go (m := 5) (j := 51) (ls' := [some (zr ((52, 11, 0) : zF)), some (zi l1), some (zi v1), some (zi v2), some (zi (zI h6 52 33)), none]) (st' := [zi (2 : Int32), zr ((52, 11, 0) : zF)]) (h' := h6) rfl ?_
      refine zc_cv (d := d + 5) e (fun q e => s_X11_goOn_ok (d + 0) ρ hρ (2 : Int32) h6 q hR6 e) rfl rfl (fun h7 hR7 e => ?_)
      refine zwp.go (m := 3) (j := 55) (ls' := [some (zr ((52, 11, 0) : zF)), some (zi l1), some (zi v1), some (zi v2), some (zi (zI h6 52 33)), none]) (st' := [zi (zI h6 52 33), zi (zI h7 52 33)]) (h' := h7) rfl ?_
      refine zb_if (j := 58) (j2 := 56) e rfl (fun e => ?_) (fun e => ?_)
      · refine zwp.go (m := 1) (j := 59) (ls' := [some (zr ((52, 11, 0) : zF)), some (zi l1), some (zi v1), some (zi v2), some (zi (zI h6 52 33)), none]) (st' := [zi (0 : Int32)]) (h' := h7) rfl ?_
        refine zwp.fg (a := [some (zr ((52, 11, 0) : zF)), some (zi l1), some (zi v1), some (zi v2), none, none]) (And.intro rfl (And.intro rfl (And.intro rfl (And.intro rfl trivial)))) ?_
        exact s_X11_tellGains_J59_ok d ρ hρ (s_X11_tellGains_L7 n) ih l1 v1 v2 (0 : Int32) h7 _ hR7 e
      · refine zwp.go (m := 2) (j := 59) (ls' := [some (zr ((52, 11, 0) : zF)), some (zi l1), some (zi v1), some (zi v2), some (zi (zI h6 52 33)), none]) (st' := [zi (6 : Int32)]) (h' := h7) rfl ?_
        refine zwp.fg (a := [some (zr ((52, 11, 0) : zF)), some (zi l1), some (zi v1), some (zi v2), none, none]) (And.intro rfl (And.intro rfl (And.intro rfl (And.intro rfl trivial)))) ?_
        exact s_X11_tellGains_J59_ok d ρ hρ (s_X11_tellGains_L7 n) ih l1 v1 v2 (6 : Int32) h7 _ hR7 e
def s_X11_tellGains (h : zH) : Option (zH) := (s_X11_pack 71 38 (0 : Int32) h).bind fun h1 => s_X11_tellGains_L7 zfu (0 : Int32) h1
set_option maxRecDepth 100000 in
theorem s_X11_tellGains_ok (d : Nat) (ρ : Nat → Nat → Option zF) (hρ : zSh ρ) (h : zH) (res : zH) (hR : zRq h ρ) (e : s_X11_tellGains  h = some res) : zcl (d + 6) 293 [zr ((52, 11, 0) : zF)] h (zQv ρ res) := by
  rw [s_X11_tellGains] at e
  refine ⟨zm_X11_tellGains, rfl, ?_⟩
  show zwp (d + 6) zm_X11_tellGains 0 [some (zr ((52, 11, 0) : zF)), none, none, none, none, none] [] h _
  refine zwp.go (m := 2) (j := 2) (ls' := [some (zr ((52, 11, 0) : zF)), none, none, none, none, none]) (st' := [zr ((52, 11, 0) : zF), zr ((52, 11, 0) : zF)]) (h' := h) rfl ?_
  refine zc_sr (r := ((71, 20, 38) : zF)) (zrf (a := 52) (y := 42) hR rfl (hρ 52 42 rfl)) rfl ?_
  refine zwp.go (m := 1) (j := 4) (ls' := [some (zr ((52, 11, 0) : zF)), none, none, none, none, none]) (st' := [zi (0 : Int32), zr ((71, 20, 38) : zF), zr ((52, 11, 0) : zF)]) (h' := h) rfl ?_
  refine zc_cv (d := d + 5) e (fun q e => s_X11_pack_ok (d + 5) ρ hρ 71 38 (0 : Int32) h q hR e) rfl rfl (fun h1 hR1 e => ?_)
  refine zwp.go (m := 2) (j := 7) (ls' := [some (zr ((52, 11, 0) : zF)), some (zi (0 : Int32)), none, none, none, none]) (st' := []) (h' := h1) rfl ?_
  exact s_X11_tellGains_L7_ok d ρ hρ zfu (0 : Int32) h1 _ hR1 e
