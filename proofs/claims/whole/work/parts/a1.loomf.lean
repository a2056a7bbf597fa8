/-! ===== loom, image, restore in the class, as functions ===== -/
def s_X10_loom_J43 (pp tp : Nat) (h : zH) : Option ((Int32 ⊕ Nat) × zH) := zlt (zwR h 0 4 (some (pp, 3, 0))) fun h1 => zlt (zwR h1 0 3 (some (tp, 3, 0))) fun h2 => (s_X2_begin 18 tp h2).bind fun h3 => zlt (zwI h3 0 8 (0 : Int32)) fun h4 => (s_X10_noteChange tp h4).bind fun h5 => some (Sum.inl (0 : Int32), h5)
def s_X10_loom (pp tp : Nat) (a1 : Int32) (h : zH) : Option ((Int32 ⊕ Nat) × zH) := if a1 < 0 then (some (Sum.inr 0, zth h)) else (if a1 ≤ (zI h 0 1) then (zlt (zwI h 0 1 (0 : Int32)) fun h1 => zbd (s_X4_read tp a1 h1) fun v h2 => if ¬ v = 0 then (zlt (zwI h2 0 2 (zI h2 16 3)) fun h3 => zlt (zwI h3 28 0 ((zI h3 28 0) + (1 : Int32))) fun h4 => some (Sum.inl v, h4)) else (zlt (zwI h2 0 2 (-1 : Int32)) fun h3 => s_X10_loom_J43 pp tp h3)) else (some (Sum.inr 0, zth h)))
/-- the references behind it -/
def zρl (ρ : Nat → Nat → Option zF) (pp tp : Nat) (r : Int32 ⊕ Nat) : Nat → Nat → Option zF := match r with
  | Sum.inr _ => ρ
  | Sum.inl v => if v = 0 then zρu (zρu (zρu ρ 16 2 (some (tp, 3, 0))) 0 4 (some (pp, 3, 0))) 0 3 (some (tp, 3, 0)) else zρu ρ 16 2 (some (tp, 3, 0))
theorem zρl_0 (ρ : Nat → Nat → Option zF) (pp tp : Nat) : zρl ρ pp tp (Sum.inl 0) = zρu (zρu (zρu ρ 16 2 (some (tp, 3, 0))) 0 4 (some (pp, 3, 0))) 0 3 (some (tp, 3, 0)) := by
  unfold zρl
  exact if_pos rfl
theorem zρl_1 (ρ : Nat → Nat → Option zF) (pp tp : Nat) {v : Int32} (n : ¬ v = 0) : zρl ρ pp tp (Sum.inl v) = zρu ρ 16 2 (some (tp, 3, 0)) := by
  unfold zρl
  exact if_neg n
theorem s_X10_loom_J43_ok (d : Nat) (ρ : Nat → Nat → Option zF) (hρ : zSh ρ) (pp tp : Nat) (hp : pp = 2 ∨ pp = 9) (ht : tp = 2 ∨ tp = 9) (h3 : ρ 0 3 = some (pp, 3, 0)) (h4 : ρ 0 4 = some (tp, 3, 0)) (h : zH) (l1 l2 : Int32) (res : (Int32 ⊕ Nat) × zH) (hR : zRq h ρ) (e : s_X10_loom_J43 pp tp h = some res) : zwp (d + 10) zm_X10_loom 43 [some (zr ((0, 10, 0) : zF)), some (zi l1), some (zi l2), none] [] h (fun o h' => zPx res o h' ∧ res.1 = Sum.inl 0 ∧ zRq h' (zρu (zρu ρ 0 4 (some (pp, 3, 0))) 0 3 (some (tp, 3, 0)))) := by
  rw [s_X10_loom_J43] at e
  refine zwp.go (m := 1) (j := 44) (ls' := [some (zr ((0, 10, 0) : zF)), some (zi l1), some (zi l2), none]) (st' := [zr ((0, 10, 0) : zF)]) (h' := h) rfl ?_
  refine zc_sr (r := ((tp, 3, 0) : zF)) (zrf (a := 0) (y := 4) hR rfl h4) rfl ?_
  refine zwp.go (m := 3) (j := 48) (ls' := [some (zr ((0, 10, 0) : zF)), some (zi l1), some (zi l2), some (zr ((tp, 3, 0) : zF))]) (st' := [zr ((0, 10, 0) : zF), zr ((0, 10, 0) : zF)]) (h' := h) rfl ?_
  refine zc_sr (r := ((pp, 3, 0) : zF)) (zrf (a := 0) (y := 3) hR rfl h3) rfl ?_
  refine zwp.nx (j := 50) (ls' := [some (zr ((0, 10, 0) : zF)), some (zi l1), some (zi l2), some (zr ((tp, 3, 0) : zF))]) (st' := []) (h' := zwR h 0 4 (some (pp, 3, 0))) rfl ?_
  have e : (zlt (zwR (zwR h 0 4 (some (pp, 3, 0))) 0 3 (some (tp, 3, 0))) fun h2 => (s_X2_begin 18 tp h2).bind fun h3 => zlt (zwI h3 0 8 (0 : Int32)) fun h4 => (s_X10_noteChange tp h4).bind fun h5 => some ((Sum.inl (0 : Int32) : Int32 ⊕ Nat), h5)) = some res := e
  have hR1 : zRq (zwR h 0 4 (some (pp, 3, 0))) (zρu ρ 0 4 (some (pp, 3, 0))) := zRq_u hR
  generalize zwR h 0 4 (some (pp, 3, 0)) = h1 at e hR1 ⊢
  refine zwp.go (m := 2) (j := 52) (ls' := [some (zr ((0, 10, 0) : zF)), some (zi l1), some (zi l2), some (zr ((tp, 3, 0) : zF))]) (st' := [zr ((tp, 3, 0) : zF), zr ((0, 10, 0) : zF)]) (h' := h1) rfl ?_
  refine zwp.nx (j := 53) (ls' := [some (zr ((0, 10, 0) : zF)), some (zi l1), some (zi l2), some (zr ((tp, 3, 0) : zF))]) (st' := []) (h' := zwR h1 0 3 (some (tp, 3, 0))) rfl ?_
  have e : ((s_X2_begin 18 tp (zwR h1 0 3 (some (tp, 3, 0)))).bind fun h3 => zlt (zwI h3 0 8 (0 : Int32)) fun h4 => (s_X10_noteChange tp h4).bind fun h5 => some ((Sum.inl (0 : Int32) : Int32 ⊕ Nat), h5)) = some res := e
  have hR2 : zRq (zwR h1 0 3 (some (tp, 3, 0))) (zρu (zρu ρ 0 4 (some (pp, 3, 0))) 0 3 (some (tp, 3, 0))) := zRq_u hR1
  generalize zwR h1 0 3 (some (tp, 3, 0)) = h2 at e hR2 ⊢
  have hρ2 : zSh (zρu (zρu ρ 0 4 (some (pp, 3, 0))) 0 3 (some (tp, 3, 0))) := zSh_u (zSh_u hρ rfl) rfl
  have r3 : zρu (zρu ρ 0 4 (some (pp, 3, 0))) 0 3 (some (tp, 3, 0)) 0 3 = some (tp, 3, 0) := zρu_s
  generalize zρu (zρu ρ 0 4 (some (pp, 3, 0))) 0 3 (some (tp, 3, 0)) = ρ2 at hR2 hρ2 r3 ⊢
  refine zwp.go (m := 1) (j := 54) (ls' := [some (zr ((0, 10, 0) : zF)), some (zi l1), some (zi l2), some (zr ((tp, 3, 0) : zF))]) (st' := [zr ((0, 10, 0) : zF)]) (h' := h2) rfl ?_
  refine zc_sr (r := ((18, 2, 0) : zF)) (zrf (a := 0) (y := 6) hR2 rfl (hρ2 0 6 rfl)) rfl ?_
  refine zwp.go (m := 1) (j := 56) (ls' := [some (zr ((0, 10, 0) : zF)), some (zi l1), some (zi l2), some (zr ((tp, 3, 0) : zF))]) (st' := [zr ((0, 10, 0) : zF), zr ((18, 2, 0) : zF)]) (h' := h2) rfl ?_
  refine zc_sr (r := ((tp, 3, 0) : zF)) (zrf (a := 0) (y := 3) hR2 rfl r3) rfl ?_
  refine zc_cv (d := d + 9) e (fun q e => s_X2_begin_ok (d + 7) ρ2 hρ2 18 tp (zSh_ld18 hρ2) (zSh_pl hρ2 ht) h2 q hR2 e) rfl rfl (fun h3 hR3 e => ?_)
  refine zwp.go (m := 2) (j := 60) (ls' := [some (zr ((0, 10, 0) : zF)), some (zi l1), some (zi l2), some (zr ((tp, 3, 0) : zF))]) (st' := [zi (0 : Int32), zr ((0, 10, 0) : zF)]) (h' := h3) rfl ?_
  refine zc_w e rfl hR3 (fun h4 hR4 e => ?_)
  refine zwp.go (m := 1) (j := 62) (ls' := [some (zr ((0, 10, 0) : zF)), some (zi l1), some (zi l2), some (zr ((tp, 3, 0) : zF))]) (st' := [zr ((0, 10, 0) : zF)]) (h' := h4) rfl ?_
  refine zc_cv (d := d + 9) e (fun q e => s_X10_noteChange_ok (d + 9) ρ2 hρ2 tp ⟨r3, zSh_pl hρ2 ht⟩ h4 q hR4 e) rfl rfl (fun h5 hR5 e => ?_)
  refine zwp.go (m := 1) (j := 64) (ls' := [some (zr ((0, 10, 0) : zF)), some (zi l1), some (zi l2), some (zr ((tp, 3, 0) : zF))]) (st' := [zi (0 : Int32)]) (h' := h5) rfl ?_
  cases e
  exact zwp.ret rfl rfl ⟨⟨rfl, rfl⟩, rfl, hR5⟩
theorem s_X10_loom_ok (d : Nat) (ρ : Nat → Nat → Option zF) (hρ : zSh ρ) (pp tp : Nat) (a1 : Int32) (hp : pp = 2 ∨ pp = 9) (ht : tp = 2 ∨ tp = 9) (h3 : ρ 0 3 = some (pp, 3, 0)) (h4 : ρ 0 4 = some (tp, 3, 0)) (h : zH) (res : (Int32 ⊕ Nat) × zH) (hR : zRq h ρ) (e : s_X10_loom pp tp a1 h = some res) : zcl (d + 10) 55 [zr ((0, 10, 0) : zF), zi a1] h (zQx (zρl ρ pp tp res.1) res) := by
  rw [s_X10_loom] at e
  refine ⟨zm_X10_loom, rfl, ?_⟩
  show zwp (d + 10) zm_X10_loom 0 [some (zr ((0, 10, 0) : zF)), some (zi a1), none, none] [] h _
  refine zwp.go (m := 1) (j := 1) (ls' := [some (zr ((0, 10, 0) : zF)), some (zi a1), none, none]) (st' := [zi a1]) (h' := h) rfl ?_
  refine zb_if (j := 6) (j2 := 2) e rfl (fun e => ?_) (fun e => ?_)
  · cases e
    exact zwp.th rfl rfl ⟨⟨rfl, rfl⟩, hR⟩
  · refine zwp.go (m := 3) (j := 5) (ls' := [some (zr ((0, 10, 0) : zF)), some (zi a1), none, none]) (st' := [zi (zI h 0 1), zi a1]) (h' := h) rfl ?_
    refine zb_if (j := 11) (j2 := 6) e rfl (fun e => ?_) (fun e => ?_)
    · refine zwp.go (m := 2) (j := 13) (ls' := [some (zr ((0, 10, 0) : zF)), some (zi a1), none, none]) (st' := [zi (0 : Int32), zr ((0, 10, 0) : zF)]) (h' := h) rfl ?_
      refine zc_w e rfl hR (fun h1 hR1 e => ?_)
      refine zwp.go (m := 1) (j := 15) (ls' := [some (zr ((0, 10, 0) : zF)), some (zi a1), none, none]) (st' := [zr ((0, 10, 0) : zF)]) (h' := h1) rfl ?_
      refine zc_sr (r := ((16, 4, 0) : zF)) (zrf (a := 0) (y := 5) hR1 rfl (hρ 0 5 rfl)) rfl ?_
      refine zwp.go (m := 2) (j := 18) (ls' := [some (zr ((0, 10, 0) : zF)), some (zi a1), none, none]) (st' := [zr ((0, 10, 0) : zF), zi a1, zr ((16, 4, 0) : zF)]) (h' := h1) rfl ?_
      refine zc_sr (r := ((tp, 3, 0) : zF)) (zrf (a := 0) (y := 4) hR1 rfl h4) rfl ?_
      have hρ1 : zSh (zρu ρ 16 2 (some (tp, 3, 0))) := zSh_u hρ rfl
      have k3 : zρu ρ 16 2 (some (tp, 3, 0)) 0 3 = some (pp, 3, 0) := (zρu_o (Or.inl (by decide))).trans h3
      have k4 : zρu ρ 16 2 (some (tp, 3, 0)) 0 4 = some (tp, 3, 0) := (zρu_o (Or.inl (by decide))).trans h4
      refine zc_ci (d := d + 9) e (fun q e => s_X4_read_ok d ρ hρ tp a1 ht h1 q hR1 e) rfl rfl (fun v h2 hR2 e => ?_)
      by_cases q : v = 0
      · subst q
        rw [if_neg (fun n => n rfl)] at e
        refine zwp.go (m := 6) (j := 29) (ls' := [some (zr ((0, 10, 0) : zF)), some (zi a1), some (zi (0 : Int32)), none]) (st' := [zi (-1 : Int32), zr ((0, 10, 0) : zF)]) (h' := h2) rfl ?_
        refine zc_w e rfl hR2 (fun h5 hR5 e => ?_)
        refine zwp.go (m := 2) (j := 43) (ls' := [some (zr ((0, 10, 0) : zF)), some (zi a1), some (zi (0 : Int32)), none]) (st' := []) (h' := h5) rfl ?_
        refine (s_X10_loom_J43_ok d _ hρ1 pp tp hp ht k3 k4 h5 a1 0 res hR5 e).mono (fun o h' w => ?_)
        obtain ⟨w1, w2, w3⟩ := w
        refine ⟨w1, ?_⟩
        rw [w2, zρl_0]
        exact w3
      · rw [if_pos q] at e
        refine zwp.go (m := 3) (j := 23) (ls' := [some (zr ((0, 10, 0) : zF)), some (zi a1), some (zi v), none]) (st' := [zi v, zr ((0, 10, 0) : zF)]) (h' := h2) rfl ?_
        refine zwp.br (c := decide (¬ v = 0)) (j := 26) (ls' := [some (zr ((0, 10, 0) : zF)), some (zi a1), some (zi v), none]) (st' := [zr ((0, 10, 0) : zF)]) (h' := h2) (j2 := 24) (l2 := [some (zr ((0, 10, 0) : zF)), some (zi a1), some (zi v), none]) (s2 := [zr ((0, 10, 0) : zF)]) (h2 := h2) rfl (fun _ => ?_) (fun hc => absurd q (of_decide_eq_false hc))
        refine zwp.go (m := 1) (j := 27) (ls' := [some (zr ((0, 10, 0) : zF)), some (zi a1), some (zi v), none]) (st' := [zr ((0, 10, 0) : zF), zr ((0, 10, 0) : zF)]) (h' := h2) rfl ?_
        refine zc_sr (r := ((16, 4, 0) : zF)) (zrf (a := 0) (y := 5) hR2 rfl (hρ1 0 5 rfl)) rfl ?_
        refine zwp.go (m := 1) (j := 29) (ls' := [some (zr ((0, 10, 0) : zF)), some (zi a1), some (zi v), none]) (st' := [zi (zI h2 16 3), zr ((0, 10, 0) : zF)]) (h' := h2) rfl ?_
        refine zc_w e rfl hR2 (fun h5 hR5 e => ?_)
        refine zwp.go (m := 1) (j := 31) (ls' := [some (zr ((0, 10, 0) : zF)), some (zi a1), some (zi v), none]) (st' := [zi v]) (h' := h5) rfl ?_
        refine zwp.br (c := decide (v = 0)) (j := 43) (ls' := [some (zr ((0, 10, 0) : zF)), some (zi a1), some (zi v), none]) (st' := []) (h' := h5) (j2 := 32) (l2 := [some (zr ((0, 10, 0) : zF)), some (zi a1), some (zi v), none]) (s2 := []) (h2 := h5) rfl (fun hc => absurd (of_decide_eq_true hc) q) (fun _ => ?_)
        refine zwp.go (m := 1) (j := 33) (ls' := [some (zr ((0, 10, 0) : zF)), some (zi a1), some (zi v), none]) (st' := [zr ((0, 10, 0) : zF)]) (h' := h5) rfl ?_
        refine zc_sr (r := ((18, 2, 0) : zF)) (zrf (a := 0) (y := 6) hR5 rfl (hρ1 0 6 rfl)) rfl ?_
        refine zc_sr (r := ((28, 20, 3) : zF)) (zrf (a := 18) (y := 4) hR5 rfl (hρ1 18 4 rfl)) rfl ?_
        refine zwp.go (m := 5) (j := 40) (ls' := [some (zr ((0, 10, 0) : zF)), some (zi a1), some (zi v), none]) (st' := [zi ((zI h5 28 0) + (1 : Int32)), zi (0 : Int32), zr ((28, 20, 3) : zF)]) (h' := h5) rfl ?_
        refine zc_w e rfl hR5 (fun h6 hR6 e => ?_)
        refine zwp.go (m := 1) (j := 42) (ls' := [some (zr ((0, 10, 0) : zF)), some (zi a1), some (zi v), none]) (st' := [zi v]) (h' := h6) rfl ?_
        cases e
        refine zwp.ret rfl rfl ⟨⟨rfl, rfl⟩, ?_⟩
        show zRq h6 (zρl ρ pp tp (Sum.inl v))
        rw [zρl_1 _ _ _ q]
        exact hR6
    · cases e
      exact zwp.th rfl rfl ⟨⟨rfl, rfl⟩, hR⟩
/-- the law's own call of it -/
theorem s_L_loom_ok (d : Nat) (ρ : Nat → Nat → Option zF) (hρ : zSh ρ) (pp tp : Nat) (a1 : Int32) (hp : pp = 2 ∨ pp = 9) (ht : tp = 2 ∨ tp = 9) (h3 : ρ 0 3 = some (pp, 3, 0)) (h4 : ρ 0 4 = some (tp, 3, 0)) (h : zH) (r : (Int32 ⊕ Nat) × zH) (hR : zRq h ρ) (e0 : s_X10_loom pp tp a1 h = some r) (res : Int32 × zH) (e : zHc (some r) = some res) : zcl (d + 11) 56 [zr ((0, 10, 0) : zF), zi a1, zr ((90, 23, 1) : zF)] h (zQi (zρl ρ pp tp r.1) res) := by
  rw [zHc, ← e0] at e
  refine ⟨zm_L_loom, rfl, ?_⟩
  show zwp (d + 11) zm_L_loom 0 [some (zr ((0, 10, 0) : zF)), some (zi a1), some (zr ((90, 23, 1) : zF)), none] [] h _
  refine zwp.go (m := 4) (j := 4) (ls' := [some (zr ((0, 10, 0) : zF)), some (zi a1), some (zr ((90, 23, 1) : zF)), none]) (st' := [zi a1, zr ((0, 10, 0) : zF), zi (0 : Int32), zr ((90, 23, 1) : zF)]) (h' := h) rfl ?_
  refine zc_cx (d := d + 10) (ρ := zρl ρ pp tp r.1) e (fun q e => ?_) rfl rfl (fun v3 h2 hR2 e => ?_) (fun x h1 hR1 e => ?_)
  · have e1 : r = q := Option.some.inj (e0.symm.trans e)
    subst e1
    exact s_X10_loom_ok d ρ hρ pp tp a1 hp ht h3 h4 h r hR e0
  · refine zwp.go (m := 1) (j := 6) (ls' := [some (zr ((0, 10, 0) : zF)), some (zi a1), some (zr ((90, 23, 1) : zF)), none]) (st' := [zl v3.toInt64, zi (0 : Int32), zr ((90, 23, 1) : zF)]) (h' := h2) rfl ?_
    refine zc_sl e (fun _ => rfl) hR2 (fun h4 hR4 e => ?_)
    refine zwp.go (m := 2) (j := 12) (ls' := [some (zr ((0, 10, 0) : zF)), some (zi a1), some (zr ((90, 23, 1) : zF)), none]) (st' := [zi (0 : Int32)]) (h' := h4) rfl ?_
    cases e
    exact zwp.ret rfl rfl ⟨⟨rfl, rfl⟩, hR4⟩
  · by_cases q1 : x = 0
    · subst q1
      replace e : (some ((1 : Int32), h1)) = some res := by simpa using e
      show zwp _ _ 9 [some (zr ((0, 10, 0) : zF)), some (zi a1), some (zr ((90, 23, 1) : zF)), none] [] _ _
      refine zwp.go (m := 1) (j := 10) (ls' := [some (zr ((0, 10, 0) : zF)), some (zi a1), some (zr ((90, 23, 1) : zF)), none]) (st' := [zi (1 : Int32)]) (h' := h1) rfl ?_
      cases e
      exact zwp.ret rfl rfl ⟨⟨rfl, rfl⟩, hR1⟩
    · simp [q1] at e
/-- an image that is there already -/
def s_X10_image (h : zH) : Option zH := (s_X2_copyFrom 91 18 h).bind fun h1 => zlt (zwI h1 0 8 (1 : Int32)) fun h2 => some h2
theorem s_X10_image_J8_ok (d : Nat) (ρ : Nat → Nat → Option zF) (hρ : zSh ρ) (h7 : ρ 0 7 = some (91, 2, 0)) (hl : zLdS ρ 91) (h : zH) (res : zH) (hR : zRq h ρ) (e : s_X10_image h = some res) : zwp (d + 2) zm_X10_image 8 [some (zr ((0, 10, 0) : zF))] [] h (zQv ρ res) := by
  rw [s_X10_image] at e
  refine zwp.go (m := 1) (j := 9) (ls' := [some (zr ((0, 10, 0) : zF))]) (st' := [zr ((0, 10, 0) : zF)]) (h' := h) rfl ?_
  refine zc_sr (r := ((91, 2, 0) : zF)) (zrf (a := 0) (y := 7) hR rfl h7) rfl ?_
  refine zwp.go (m := 1) (j := 11) (ls' := [some (zr ((0, 10, 0) : zF))]) (st' := [zr ((0, 10, 0) : zF), zr ((91, 2, 0) : zF)]) (h' := h) rfl ?_
  refine zc_sr (r := ((18, 2, 0) : zF)) (zrf (a := 0) (y := 6) hR rfl (hρ 0 6 rfl)) rfl ?_
  refine zc_cv (d := d + 1) e (fun q e => s_X2_copyFrom_ok (d + 0) ρ hρ 91 18 hl (zSh_ld18 hρ) h q hR e) rfl rfl (fun h1 hR1 e => ?_)
  refine zwp.go (m := 2) (j := 15) (ls' := [some (zr ((0, 10, 0) : zF))]) (st' := [zi (1 : Int32), zr ((0, 10, 0) : zF)]) (h' := h1) rfl ?_
  refine zc_w e rfl hR1 (fun h2 hR2 e => ?_)
  cases e
  exact zwp.rv rfl ⟨⟨rfl, rfl⟩, hR2⟩
theorem s_X10_image_1 (d : Nat) (ρ : Nat → Nat → Option zF) (hρ : zSh ρ) (h7 : ρ 0 7 = some (91, 2, 0)) (hl : zLdS ρ 91) (h : zH) (res : zH) (hR : zRq h ρ) (e : s_X10_image h = some res) : zcl (d + 2) 303 [zr ((0, 10, 0) : zF)] h (zQv ρ res) := by
  refine ⟨zm_X10_image, rfl, ?_⟩
  show zwp (d + 2) zm_X10_image 0 [some (zr ((0, 10, 0) : zF))] [] h _
  refine zwp.go (m := 1) (j := 1) (ls' := [some (zr ((0, 10, 0) : zF))]) (st' := [zr ((0, 10, 0) : zF)]) (h' := h) rfl ?_
  refine zc_sr (r := ((91, 2, 0) : zF)) (zrf (a := 0) (y := 7) hR rfl h7) rfl ?_
  refine zwp.go (m := 1) (j := 8) (ls' := [some (zr ((0, 10, 0) : zF))]) (st' := []) (h' := h) rfl ?_
  exact s_X10_image_J8_ok d ρ hρ h7 hl h res hR e
/-- the image's cells are made -/
def e_img : List zEv := (2, 0, 7, 91, 2, 0) :: e_X2_init_91 ++ [(0, 2, 0, 8, 91, 0)]
theorem s_X10_image_0 (d : Nat) (ρ : Nat → Nat → Option zF) (h7 : ρ 0 7 = none) (h : zH) (hk : (zK h).length = 91) (res : zH) (hR : zRq h ρ) (hρ2 : zSh (zR (zof h e_img))) (hl : zLdS (zR (zof h e_img)) 91) (e : s_X10_image (zof h e_img) = some res) : zcl (d + 2) 303 [zr ((0, 10, 0) : zF)] h (zQv (zR (zof h e_img)) res) := by
  refine ⟨zm_X10_image, rfl, ?_⟩
  show zwp (d + 2) zm_X10_image 0 [some (zr ((0, 10, 0) : zF))] [] h _
  refine zwp.go (m := 1) (j := 1) (ls' := [some (zr ((0, 10, 0) : zF))]) (st' := [zr ((0, 10, 0) : zF)]) (h' := h) rfl ?_
  have hs : zstep zTX zm_X10_image.1 1 [some (zr ((0, 10, 0) : zF))] [zr ((0, 10, 0) : zF)] h = zNx 2 [some (zr ((0, 10, 0) : zF))] (zq (zR h 0 7) :: []) h := rfl
  rw [(hR 0 7 rfl).trans h7] at hs
  refine zwp.nx hs ?_
  refine zwp.go (m := 2) (j := 4) (ls' := [some (zr ((0, 10, 0) : zF))]) (st' := [zr ((0, 10, 0) : zF)]) (h' := h) rfl ?_
  refine zc_nw (n := 91) (x := 2) (len := 0) (y := 8) hk rfl ?_
  refine zwp.go (m := 1) (j := 6) (ls' := [some (zr ((0, 10, 0) : zF))]) (st' := [zr ((91, 2, 0) : zF), zr ((91, 2, 0) : zF), zr ((0, 10, 0) : zF)]) (h' := zof h [(0, 2, 0, 8, 91, 0)]) rfl ?_
  refine zc_g (d := d + 1) (hq := zof (zof h [(0, 2, 0, 8, 91, 0)]) e_X2_init_91) (i_X2_init_91 d _ (by simp only [zof_len, hk] <;> rfl)) rfl rfl ?_
  have e9 : zof (zof h [(0, 2, 0, 8, 91, 0)]) ((2, 0, 7, 91, 2, 0) :: e_X2_init_91) = zof h e_img := zof_app h _ _
  refine zwp.go (m := 1) (j := 8) (ls' := [some (zr ((0, 10, 0) : zF))]) (st' := []) (h' := zof (zof h [(0, 2, 0, 8, 91, 0)]) ((2, 0, 7, 91, 2, 0) :: e_X2_init_91)) rfl ?_
  rw [e9]
  exact s_X10_image_J8_ok d _ hρ2 rfl hl _ res (fun _ _ _ => rfl) e
/-- restore, without an image and with one -/
theorem s_X10_restore_0 (d : Nat) (ρ : Nat → Nat → Option zF) (h : zH) (hR : zRq h ρ) (h8 : zI h 0 8 = 0) : zcl (d + 2) 306 [zr ((0, 10, 0) : zF)] h (zQi ρ ((0 : Int32), h)) := by
  refine ⟨zm_X10_restore, rfl, ?_⟩
  show zwp (d + 2) zm_X10_restore 0 [some (zr ((0, 10, 0) : zF))] [] h _
  refine zwp.go (m := 2) (j := 2) (ls' := [some (zr ((0, 10, 0) : zF))]) (st' := [zi (zI h 0 8)]) (h' := h) rfl ?_
  rw [h8]
  refine zwp.go (m := 2) (j := 7) (ls' := [some (zr ((0, 10, 0) : zF))]) (st' := [zi (0 : Int32)]) (h' := h) rfl ?_
  exact zwp.ret rfl rfl ⟨⟨rfl, rfl⟩, hR⟩
def s_X10_restore (pp : Nat) (h : zH) : Option (Int32 × zH) := (s_X2_copyFrom 18 91 h).bind fun h1 => (s_X10_noteChange pp h1).bind fun h2 => some ((1 : Int32), h2)
theorem s_X10_restore_1 (d : Nat) (ρ : Nat → Nat → Option zF) (hρ : zSh ρ) (pp : Nat) (hpp : ρ 0 3 = some (pp, 3, 0) ∧ zPlS ρ pp) (h7 : ρ 0 7 = some (91, 2, 0)) (hl : zLdS ρ 91) (h : zH) (res : Int32 × zH) (hR : zRq h ρ) (h8 : zI h 0 8 = 1) (e : s_X10_restore pp h = some res) : zcl (d + 2) 306 [zr ((0, 10, 0) : zF)] h (zQi ρ res) := by
  rw [s_X10_restore] at e
  refine ⟨zm_X10_restore, rfl, ?_⟩
  show zwp (d + 2) zm_X10_restore 0 [some (zr ((0, 10, 0) : zF))] [] h _
  refine zwp.go (m := 2) (j := 2) (ls' := [some (zr ((0, 10, 0) : zF))]) (st' := [zi (zI h 0 8)]) (h' := h) rfl ?_
  rw [h8]
  refine zwp.go (m := 2) (j := 4) (ls' := [some (zr ((0, 10, 0) : zF))]) (st' := [zr ((0, 10, 0) : zF)]) (h' := h) rfl ?_
  refine zc_sr (r := ((91, 2, 0) : zF)) (zrf (a := 0) (y := 7) hR rfl h7) rfl ?_
  refine zwp.go (m := 2) (j := 9) (ls' := [some (zr ((0, 10, 0) : zF))]) (st' := [zr ((0, 10, 0) : zF)]) (h' := h) rfl ?_
  refine zc_sr (r := ((18, 2, 0) : zF)) (zrf (a := 0) (y := 6) hR rfl (hρ 0 6 rfl)) rfl ?_
  refine zwp.go (m := 1) (j := 11) (ls' := [some (zr ((0, 10, 0) : zF))]) (st' := [zr ((0, 10, 0) : zF), zr ((18, 2, 0) : zF)]) (h' := h) rfl ?_
  refine zc_sr (r := ((91, 2, 0) : zF)) (zrf (a := 0) (y := 7) hR rfl h7) rfl ?_
  refine zc_cv (d := d + 1) e (fun q e => s_X2_copyFrom_ok (d + 0) ρ hρ 18 91 (zSh_ld18 hρ) hl h q hR e) rfl rfl (fun h1 hR1 e => ?_)
  refine zwp.go (m := 1) (j := 14) (ls' := [some (zr ((0, 10, 0) : zF))]) (st' := [zr ((0, 10, 0) : zF)]) (h' := h1) rfl ?_
  refine zc_cv (d := d + 1) e (fun q e => s_X10_noteChange_ok (d + 1) ρ hρ pp hpp h1 q hR1 e) rfl rfl (fun h2 hR2 e => ?_)
  refine zwp.go (m := 1) (j := 16) (ls' := [some (zr ((0, 10, 0) : zF))]) (st' := [zi (1 : Int32)]) (h' := h2) rfl ?_
  cases e
  exact zwp.ret rfl rfl ⟨⟨rfl, rfl⟩, hR2⟩
