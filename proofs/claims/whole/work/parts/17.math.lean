/-! ===== Math.max, Math.min: their class has natives of its own, so the library's contracts serve ===== -/
def zMx (M : zM) (y : zYt) : Prop := (y.1 = Lib.Math.max.name ∧ M = zm_J9_max_7cf53) ∨ (y.1 = Lib.Math.min.name ∧ M = zm_J9_min_7cf53)
def zMh (Y : Nat → Option zYt) (M : zM) (y : zYt) : Prop := (y.2.2.2.2 ≠ 3 ∧ zMf Y M y) ∨ (y.2.2.2.2 = 3 ∧ zMx M y)
theorem zmath_w : (Cond.static Lib.Math.max.name ∈ zTs ∧ Cond.code Lib.Math.max.name Lib.Math.max.code 2 (some .int) ∈ zTs) ∧ (Cond.static Lib.Math.min.name ∈ zTs ∧ Cond.code Lib.Math.min.name Lib.Math.min.code 2 (some .int) ∈ zTs) ∧ Cond.initialized "java/lang/Math" ∈ zTs :=
  ⟨⟨zwd_in (hn := (2, 52)) (by decide +kernel), zwd_in (hn := (2, 53)) (by decide +kernel)⟩, ⟨zwd_in (hn := (2, 49)) (by decide +kernel), zwd_in (hn := (2, 50)) (by decide +kernel)⟩, zwd_in (hn := (0, 20)) (by decide +kernel)⟩
theorem zmx_run {n d : Nat} {u v : zV} {h h2 : zH} {o2 : zO} (hr : zrun zTX zMT n d zm_J9_max_7cf53 0 (zent [u, v] 2) [] h = some (o2, h2)) : ∃ a b : Int32, u = zi a ∧ v = zi b ∧ o2 = Sum.inl (some (zi (if a < b then b else a))) ∧ h2 = h := by
  cases n with
  | zero => cases hr
  | succ n =>
    rcases u with a | u | u
    · rcases v with b | v | v
      · refine ⟨a, b, rfl, rfl, ?_⟩
        have w : zwp d zm_J9_max_7cf53 0 (zent [zi a, zi b] 2) [] h (fun o h' => o = Sum.inl (some (zi (if a < b then b else a))) ∧ h' = h) := by
          refine zwp.go (m := 2) rfl ?_
          refine zwp.br rfl (fun hc => ?_) (fun hc => ?_)
          · have hc := of_decide_eq_true hc
            refine zwp.go (m := 1) rfl ?_
            exact zwp.ret rfl rfl ⟨by rw [if_pos hc], rfl⟩
          · have hc := of_decide_eq_false hc
            refine zwp.go (m := 2) rfl ?_
            exact zwp.ret rfl rfl ⟨by rw [if_neg hc], rfl⟩
        obtain ⟨N, o, h', e, q1, q2⟩ := w
        have e1 := zrun_le hr (m := n + 1 + N) (by omega)
        have e2 := zrun_le e (m := n + 1 + N) (by omega)
        have e3 := Option.some.inj (e1.symm.trans e2)
        rw [Prod.mk.injEq] at e3
        exact ⟨e3.1.trans q1, e3.2.trans q2⟩
      · cases n with
        | zero => cases hr
        | succ n => cases hr
      · cases n with
        | zero => cases hr
        | succ n => cases hr
    · cases hr
    · cases hr
theorem zmn_run {n d : Nat} {u v : zV} {h h2 : zH} {o2 : zO} (hr : zrun zTX zMT n d zm_J9_min_7cf53 0 (zent [u, v] 2) [] h = some (o2, h2)) : ∃ a b : Int32, u = zi a ∧ v = zi b ∧ o2 = Sum.inl (some (zi (if b < a then b else a))) ∧ h2 = h := by
  cases n with
  | zero => cases hr
  | succ n =>
    rcases u with a | u | u
    · rcases v with b | v | v
      · refine ⟨a, b, rfl, rfl, ?_⟩
        have w : zwp d zm_J9_min_7cf53 0 (zent [zi a, zi b] 2) [] h (fun o h' => o = Sum.inl (some (zi (if b < a then b else a))) ∧ h' = h) := by
          refine zwp.go (m := 2) rfl ?_
          refine zwp.br rfl (fun hc => ?_) (fun hc => ?_)
          · have hc := of_decide_eq_true hc
            refine zwp.go (m := 1) rfl ?_
            exact zwp.ret rfl rfl ⟨by rw [if_pos hc], rfl⟩
          · have hc := of_decide_eq_false hc
            refine zwp.go (m := 2) rfl ?_
            exact zwp.ret rfl rfl ⟨by rw [if_neg hc], rfl⟩
        obtain ⟨N, o, h', e, q1, q2⟩ := w
        have e1 := zrun_le hr (m := n + 1 + N) (by omega)
        have e2 := zrun_le e (m := n + 1 + N) (by omega)
        have e3 := Option.some.inj (e1.symm.trans e2)
        rw [Prod.mk.injEq] at e3
        exact ⟨e3.1.trans q1, e3.2.trans q2⟩
      · cases n with
        | zero => cases hr
        | succ n => cases hr
      · cases n with
        | zero => cases hr
        | succ n => cases hr
    · cases hr
    · cases hr
