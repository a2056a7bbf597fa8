/-! ===== constructors, as lists of what they do to the heap ===== -/
/-- 0: a new cell of kind, length, slots at an address; 1: an int; 2, 3: a reference; 4: a row's beginning is another row's -/
abbrev zEv : Type := Nat × Nat × Nat × Nat × Nat × Nat
/-- a new cell at an address that is said -/
def zal9 (h : zH) (k len n a : Nat) : zH := (zK h ++ [(k, len)], zrow (zI h) a (fun _ => 0), zrow (zR h) a (fun _ => none), zrow (zL h) a (fun _ => 0), zX h, zc h + 1, zs h + n)
def zap (e : zEv) (h : zH) : zH := if e.1 = 0 then zal9 h e.2.1 e.2.2.1 e.2.2.2.1 e.2.2.2.2.1 else if e.1 = 1 then zwI h e.2.1 e.2.2.1 (Int32.ofNat e.2.2.2.1) else if e.1 = 2 then zwR h e.2.1 e.2.2.1 (some (e.2.2.2.1, e.2.2.2.2.1, e.2.2.2.2.2)) else if e.1 = 3 then zwR h e.2.1 e.2.2.1 none else zwA h e.2.1 (va_cpy (zI h e.2.2.1) (zI h e.2.1) 0 0 e.2.2.2.1)
def zof (h : zH) : List zEv → zH
  | [] => h
  | e :: E => zap e (zof h E)
/-- how many cells are made -/
def nAl : List zEv → Nat
  | [] => 0
  | e :: E => nAl E + (if e.1 = 0 then 1 else 0)
theorem zof_app (h : zH) (E : List zEv) : ∀ F, zof (zof h E) F = zof h (F ++ E)
  | [] => rfl
  | e :: F => by
    show zap e (zof (zof h E) F) = zap e (zof h (F ++ E))
    rw [zof_app h E F]
theorem zap_len (e : zEv) (h : zH) : (zK (zap e h)).length = (zK h).length + (if e.1 = 0 then 1 else 0) := by
  unfold zap
  by_cases q : e.1 = 0
  · rw [if_pos q, if_pos q]
    show (zK h ++ [(_, _)]).length = _
    rw [List.length_append]
    rfl
  · rw [if_neg q, if_neg q]
    by_cases q1 : e.1 = 1
    · rw [if_pos q1]; rfl
    · rw [if_neg q1]
      by_cases q2 : e.1 = 2
      · rw [if_pos q2]; rfl
      · rw [if_neg q2]
        by_cases q3 : e.1 = 3
        · rw [if_pos q3]; rfl
        · rw [if_neg q3]; rfl
theorem zof_len (h : zH) : ∀ E, (zK (zof h E)).length = (zK h).length + nAl E
  | [] => rfl
  | e :: E => by
    show (zK (zap e (zof h E))).length = _
    rw [zap_len, zof_len h E, nAl]
    omega
section IN
variable {d : Nat} {M : zM} {i : Nat} {ls : zLV} {st st' rest : List zV} {h hq : zH} {Q : zO → zH → Prop}
theorem zc_nw {n x len y : Nat} (hl : (zK h).length = n) (hs : zstep zTX M.1 i ls st h = zNx (i + 1) ls (zr ((zK h).length, x, len) :: st') (zal h x len y)) (kk : zwp d M (i + 1) ls (zr (n, x, len) :: st') (zal9 h x len y n) Q) : zwp d M i ls st h Q := by
  subst hl
  exact zwp.nx hs kk
theorem zc_g {k : Nat} {as : List zV} {b : Bool} (w : zcl d k as h (zPv hq)) (hs : zstep zTX M.1 i ls st h = cond b (zCl k as rest) none) (hb : b = true) (kk : zwp (d + 1) M (i + 1) ls rest hq Q) : zwp (d + 1) M i ls st h Q := by
  refine zwp.cx hs hb w (fun v h' q => ?_) (fun x h' q => ?_)
  · obtain ⟨q1, q2⟩ := q
    cases q1
    subst q2
    exact kk
  · cases q.1
theorem zQv_v {k : Nat} {as : List zV} {ρ : Nat → Nat → Option zF} (w : zcl d k as h (zQv ρ hq)) : zcl d k as h (zPv hq) := w.mono (fun _ _ q => q.1)
end IN
section IO
variable {d : Nat} {M : zM} {i : Nat} {ls : zLV} {st st' rest : List zV} {h g : zH} {Q : zO → zH → Prop} {E F : List zEv} {ev : zEv}
theorem zc_e (hg : g = zof h E) (hs : zstep zTX M.1 i ls st g = zNx (i + 1) ls st' (zap ev g)) (kk : ∀ g', g' = zof h (ev :: E) → zwp d M (i + 1) ls st' g' Q) : zwp d M i ls st g Q := zwp.nx hs (kk _ (by rw [hg, zof]))
theorem zc_n {n x len y : Nat} (hg : g = zof h E) (hl : (zK g).length = n) (hs : zstep zTX M.1 i ls st g = zNx (i + 1) ls (zr ((zK g).length, x, len) :: st') (zal g x len y)) (kk : ∀ g', g' = zof h ((0, x, len, y, n, 0) :: E) → zwp d M (i + 1) ls (zr (n, x, len) :: st') g' Q) : zwp d M i ls st g Q := by
  refine zc_nw hl hs (kk _ ?_)
  rw [hg, zof]
  rfl
theorem zc_c {k : Nat} {as : List zV} {b : Bool} (hg : g = zof h E) (w : zcl d k as g (zPv (zof g F))) (hs : zstep zTX M.1 i ls st g = cond b (zCl k as rest) none) (hb : b = true) (kk : ∀ g', g' = zof h (F ++ E) → zwp (d + 1) M (i + 1) ls rest g' Q) : zwp (d + 1) M i ls st g Q := zc_g w hs hb (kk _ (by rw [hg, zof_app]))
end IO
theorem n_X3_clear_ok (d : Nat) (ρ : Nat → Nat → Option zF) (a0 : Nat) (ha0 : zPlS ρ a0) (h : zH) (res : zH) (hR : zRq h ρ) (e : s_X3_clear a0 h = some res) : zcl d 1 [zr ((a0, 3, 0) : zF)] h (zQv ρ res) := by
  rw [s_X3_clear] at e
  refine ⟨zm_X3_clear, rfl, ?_⟩
  show zwp d zm_X3_clear 0 [some (zr ((a0, 3, 0) : zF))] [] h _
  refine zwp.go (m := 1) (j := 1) (ls' := [some (zr ((a0, 3, 0) : zF))]) (st' := [zr ((a0, 3, 0) : zF)]) (h' := h) rfl ?_
  refine zc_sr (r := (((a0 + 3), 20, 2) : zF)) (zrf (a := a0) (y := 2) hR rfl ha0.2.2.2.1) rfl ?_
  refine zwp.go (m := 2) (j := 4) (ls' := [some (zr ((a0, 3, 0) : zF))]) (st' := [zi (3 : Int32), zi (0 : Int32), zr (((a0 + 3), 20, 2) : zF)]) (h' := h) rfl ?_
  refine zc_w e rfl hR (fun h1 hR1 e => ?_)
  refine zwp.go (m := 1) (j := 6) (ls' := [some (zr ((a0, 3, 0) : zF))]) (st' := [zr ((a0, 3, 0) : zF)]) (h' := h1) rfl ?_
  refine zc_sr (r := (((a0 + 3), 20, 2) : zF)) (zrf (a := a0) (y := 2) hR1 rfl ha0.2.2.2.1) rfl ?_
  refine zwp.go (m := 2) (j := 9) (ls' := [some (zr ((a0, 3, 0) : zF))]) (st' := [zi (3 : Int32), zi (1 : Int32), zr (((a0 + 3), 20, 2) : zF)]) (h' := h1) rfl ?_
  refine zc_w e rfl hR1 (fun h2 hR2 e => ?_)
  refine zwp.go (m := 1) (j := 11) (ls' := [some (zr ((a0, 3, 0) : zF))]) (st' := [zr ((a0, 3, 0) : zF)]) (h' := h2) rfl ?_
  refine zc_sr (r := (((a0 + 5), 5, 0) : zF)) (zrf (a := a0) (y := 4) hR2 rfl ha0.2.2.2.2.2.1) rfl ?_
  refine zwp.go (m := 1) (j := 13) (ls' := [some (zr ((a0, 3, 0) : zF))]) (st' := [zi (0 : Int32), zr (((a0 + 5), 5, 0) : zF)]) (h' := h2) rfl ?_
  refine zc_w e rfl hR2 (fun h3 hR3 e => ?_)
  refine zwp.go (m := 1) (j := 15) (ls' := [some (zr ((a0, 3, 0) : zF))]) (st' := [zr ((a0, 3, 0) : zF)]) (h' := h3) rfl ?_
  refine zc_sr (r := (((a0 + 6), 5, 0) : zF)) (zrf (a := a0) (y := 5) hR3 rfl ha0.2.2.2.2.2.2) rfl ?_
  refine zwp.go (m := 1) (j := 17) (ls' := [some (zr ((a0, 3, 0) : zF))]) (st' := [zi (0 : Int32), zr (((a0 + 6), 5, 0) : zF)]) (h' := h3) rfl ?_
  refine zc_w e rfl hR3 (fun h4 hR4 e => ?_)
  refine zwp.go (m := 2) (j := 20) (ls' := [some (zr ((a0, 3, 0) : zF))]) (st' := [zi (0 : Int32), zr ((a0, 3, 0) : zF)]) (h' := h4) rfl ?_
  refine zc_w e rfl hR4 (fun h5 hR5 e => ?_)
  refine zwp.go (m := 2) (j := 23) (ls' := [some (zr ((a0, 3, 0) : zF))]) (st' := [zi (0 : Int32), zr ((a0, 3, 0) : zF)]) (h' := h5) rfl ?_
  refine zc_w e rfl hR5 (fun h6 hR6 e => ?_)
  refine zwp.go (m := 2) (j := 26) (ls' := [some (zr ((a0, 3, 0) : zF))]) (st' := [zi (0 : Int32), zr ((a0, 3, 0) : zF)]) (h' := h6) rfl ?_
  refine zc_w e rfl hR6 (fun h7 hR7 e => ?_)
  refine zwp.go (m := 2) (j := 29) (ls' := [some (zr ((a0, 3, 0) : zF))]) (st' := [zi (0 : Int32), zr ((a0, 3, 0) : zF)]) (h' := h7) rfl ?_
  refine zc_w e rfl hR7 (fun h8 hR8 e => ?_)
  refine zwp.go (m := 2) (j := 32) (ls' := [some (zr ((a0, 3, 0) : zF))]) (st' := [zi (0 : Int32), zr ((a0, 3, 0) : zF)]) (h' := h8) rfl ?_
  refine zc_w e rfl hR8 (fun h9 hR9 e => ?_)
  cases e
  exact zwp.rv rfl ⟨⟨rfl, rfl⟩, hR9⟩
theorem n_X8_beginSail_ok (d : Nat) (ρ : Nat → Nat → Option zF) (a0 : Nat) (ha0 : zStS ρ a0) (h : zH) (res : zH) (hR : zRq h ρ) (e : s_X8_beginSail a0 h = some res) : zcl d 11 [zr ((a0, 8, 0) : zF)] h (zQv ρ res) := by
  rw [s_X8_beginSail] at e
  refine ⟨zm_X8_beginSail, rfl, ?_⟩
  show zwp d zm_X8_beginSail 0 [some (zr ((a0, 8, 0) : zF))] [] h _
  refine zwp.go (m := 1) (j := 1) (ls' := [some (zr ((a0, 8, 0) : zF))]) (st' := [zr ((a0, 8, 0) : zF)]) (h' := h) rfl ?_
  refine zc_sr (r := (((a0 + 3), 20, 2) : zF)) (zrf (a := a0) (y := 2) hR rfl ha0.2.2.2.1) rfl ?_
  refine zwp.go (m := 2) (j := 4) (ls' := [some (zr ((a0, 8, 0) : zF))]) (st' := [zi (0 : Int32), zi (0 : Int32), zr (((a0 + 3), 20, 2) : zF)]) (h' := h) rfl ?_
  refine zc_w e rfl hR (fun h1 hR1 e => ?_)
  refine zwp.go (m := 1) (j := 6) (ls' := [some (zr ((a0, 8, 0) : zF))]) (st' := [zr ((a0, 8, 0) : zF)]) (h' := h1) rfl ?_
  refine zc_sr (r := (((a0 + 3), 20, 2) : zF)) (zrf (a := a0) (y := 2) hR1 rfl ha0.2.2.2.1) rfl ?_
  refine zwp.go (m := 2) (j := 9) (ls' := [some (zr ((a0, 8, 0) : zF))]) (st' := [zi (0 : Int32), zi (1 : Int32), zr (((a0 + 3), 20, 2) : zF)]) (h' := h1) rfl ?_
  refine zc_w e rfl hR1 (fun h2 hR2 e => ?_)
  refine zwp.go (m := 2) (j := 12) (ls' := [some (zr ((a0, 8, 0) : zF))]) (st' := [zi (0 : Int32), zr ((a0, 8, 0) : zF)]) (h' := h2) rfl ?_
  refine zc_w e rfl hR2 (fun h3 hR3 e => ?_)
  cases e
  exact zwp.rv rfl ⟨⟨rfl, rfl⟩, hR3⟩
theorem n_X8_begin_ok (d : Nat) (ρ : Nat → Nat → Option zF) (a0 : Nat) (a1 : Nat) (ha0 : zStS ρ a0) (ha1 : zPlS ρ a1) (h : zH) (res : zH) (hR : zRq h ρ) (e : s_X8_begin a0 a1 h = some res) : zcl (d + 1) 12 [zr ((a0, 8, 0) : zF), zr ((a1, 3, 0) : zF)] h (zQv ρ res) := by
  rw [s_X8_begin] at e
  refine ⟨zm_X8_begin, rfl, ?_⟩
  show zwp (d + 1) zm_X8_begin 0 [some (zr ((a0, 8, 0) : zF)), some (zr ((a1, 3, 0) : zF))] [] h _
  refine zwp.go (m := 1) (j := 1) (ls' := [some (zr ((a0, 8, 0) : zF)), some (zr ((a1, 3, 0) : zF))]) (st' := [zr ((a1, 3, 0) : zF)]) (h' := h) rfl ?_
  refine zc_sr (r := (((a1 + 1), 20, 12) : zF)) (zrf (a := a1) (y := 0) hR rfl ha1.2.1) rfl ?_
  refine zwp.go (m := 2) (j := 4) (ls' := [some (zr ((a0, 8, 0) : zF)), some (zr ((a1, 3, 0) : zF))]) (st' := [zr ((a0, 8, 0) : zF), zi (0 : Int32), zr (((a1 + 1), 20, 12) : zF)]) (h' := h) rfl ?_
  refine zc_sr (r := (((a0 + 1), 20, 12) : zF)) (zrf (a := a0) (y := 0) hR rfl ha0.2.1) rfl ?_
  refine zwp.go (m := 2) (j := 7) (ls' := [some (zr ((a0, 8, 0) : zF)), some (zr ((a1, 3, 0) : zF))]) (st' := [zi (12 : Int32), zi (0 : Int32), zr (((a0 + 1), 20, 12) : zF), zi (0 : Int32), zr (((a1 + 1), 20, 12) : zF)]) (h' := h) rfl ?_
  refine zc_cq e rfl rfl hR (fun h1 hR1 e => ?_)
  refine zwp.go (m := 1) (j := 9) (ls' := [some (zr ((a0, 8, 0) : zF)), some (zr ((a1, 3, 0) : zF))]) (st' := [zr ((a1, 3, 0) : zF)]) (h' := h1) rfl ?_
  refine zc_sr (r := (((a1 + 3), 20, 2) : zF)) (zrf (a := a1) (y := 2) hR1 rfl ha1.2.2.2.1) rfl ?_
  refine zwp.go (m := 2) (j := 12) (ls' := [some (zr ((a0, 8, 0) : zF)), some (zr ((a1, 3, 0) : zF))]) (st' := [zr ((a0, 8, 0) : zF), zi (0 : Int32), zr (((a1 + 3), 20, 2) : zF)]) (h' := h1) rfl ?_
  refine zc_sr (r := (((a0 + 2), 20, 2) : zF)) (zrf (a := a0) (y := 1) hR1 rfl ha0.2.2.1) rfl ?_
  refine zwp.go (m := 2) (j := 15) (ls' := [some (zr ((a0, 8, 0) : zF)), some (zr ((a1, 3, 0) : zF))]) (st' := [zi (2 : Int32), zi (0 : Int32), zr (((a0 + 2), 20, 2) : zF), zi (0 : Int32), zr (((a1 + 3), 20, 2) : zF)]) (h' := h1) rfl ?_
  refine zc_cq e rfl rfl hR1 (fun h2 hR2 e => ?_)
  refine zwp.go (m := 1) (j := 17) (ls' := [some (zr ((a0, 8, 0) : zF)), some (zr ((a1, 3, 0) : zF))]) (st' := [zr ((a0, 8, 0) : zF)]) (h' := h2) rfl ?_
  refine zc_cv (d := d + 0) e (fun q e => n_X8_beginSail_ok (d + 0) ρ a0 ha0 h2 q hR2 e) rfl rfl (fun h3 hR3 e => ?_)
  refine zwp.go (m := 2) (j := 20) (ls' := [some (zr ((a0, 8, 0) : zF)), some (zr ((a1, 3, 0) : zF))]) (st' := [zi (0 : Int32), zr ((a0, 8, 0) : zF)]) (h' := h3) rfl ?_
  refine zc_w e rfl hR3 (fun h4 hR4 e => ?_)
  refine zwp.go (m := 2) (j := 23) (ls' := [some (zr ((a0, 8, 0) : zF)), some (zr ((a1, 3, 0) : zF))]) (st' := [zi (0 : Int32), zr ((a0, 8, 0) : zF)]) (h' := h4) rfl ?_
  refine zc_w e rfl hR4 (fun h5 hR5 e => ?_)
  refine zwp.go (m := 2) (j := 26) (ls' := [some (zr ((a0, 8, 0) : zF)), some (zr ((a1, 3, 0) : zF))]) (st' := [zi (0 : Int32), zr ((a0, 8, 0) : zF)]) (h' := h5) rfl ?_
  refine zc_w e rfl hR5 (fun h6 hR6 e => ?_)
  cases e
  exact zwp.rv rfl ⟨⟨rfl, rfl⟩, hR6⟩
theorem n_X2_begin_ok (d : Nat) (ρ : Nat → Nat → Option zF) (a0 : Nat) (a1 : Nat) (ha0 : zLdS ρ a0) (ha1 : zPlS ρ a1) (h : zH) (res : zH) (hR : zRq h ρ) (e : s_X2_begin a0 a1 h = some res) : zcl (d + 2) 13 [zr ((a0, 2, 0) : zF), zr ((a1, 3, 0) : zF)] h (zQv ρ res) := by
  rw [s_X2_begin] at e
  refine ⟨zm_X2_begin, rfl, ?_⟩
  show zwp (d + 2) zm_X2_begin 0 [some (zr ((a0, 2, 0) : zF)), some (zr ((a1, 3, 0) : zF))] [] h _
  refine zwp.go (m := 1) (j := 1) (ls' := [some (zr ((a0, 2, 0) : zF)), some (zr ((a1, 3, 0) : zF))]) (st' := [zr ((a0, 2, 0) : zF)]) (h' := h) rfl ?_
  refine zc_sr (r := (((a0 + 1), 8, 0) : zF)) (zrf (a := a0) (y := 0) hR rfl ha0.2.1) rfl ?_
  refine zwp.go (m := 1) (j := 3) (ls' := [some (zr ((a0, 2, 0) : zF)), some (zr ((a1, 3, 0) : zF))]) (st' := [zr ((a1, 3, 0) : zF), zr (((a0 + 1), 8, 0) : zF)]) (h' := h) rfl ?_
  refine zc_cv (d := d + 1) e (fun q e => n_X8_begin_ok (d + 0) ρ (a0 + 1) a1 ha0.2.2.2.2.2.2.2 ha1 h q hR e) rfl rfl (fun h1 hR1 e => ?_)
  refine zwp.go (m := 2) (j := 6) (ls' := [some (zr ((a0, 2, 0) : zF)), some (zr ((a1, 3, 0) : zF))]) (st' := [zi (0 : Int32), zr ((a0, 2, 0) : zF)]) (h' := h1) rfl ?_
  refine zc_w e rfl hR1 (fun h2 hR2 e => ?_)
  refine zwp.go (m := 2) (j := 9) (ls' := [some (zr ((a0, 2, 0) : zF)), some (zr ((a1, 3, 0) : zF))]) (st' := [zi (0 : Int32), zr ((a0, 2, 0) : zF)]) (h' := h2) rfl ?_
  refine zc_w e rfl hR2 (fun h3 hR3 e => ?_)
  cases e
  exact zwp.rv rfl ⟨⟨rfl, rfl⟩, hR3⟩
