/-! ===== methods that change references ===== -/
/-- one reference is another one -/
def zρu (ρ : Nat → Nat → Option zF) (a y : Nat) (r : Option zF) : Nat → Nat → Option zF := fun b k => if b = a then (if k = y then r else ρ b k) else ρ b k
theorem zRq_u {h : zH} {ρ : Nat → Nat → Option zF} {a y : Nat} {r : Option zF} (hR : zRq h ρ) : zRq (zwR h a y r) (zρu ρ a y r) := by
  intro b k hb
  show (if b = a then (if k = y then r else zR h b k) else zR h b k) = (if b = a then (if k = y then r else ρ b k) else ρ b k)
  rw [hR b k hb]
theorem zSh_u {ρ : Nat → Nat → Option zF} {a y : Nat} {r : Option zF} (h : zSh ρ) (n : zfx a y = false) : zSh (zρu ρ a y r) := by
  intro b k hb
  unfold zρu
  by_cases q : b = a
  · by_cases q2 : k = y
    · rw [q, q2, n] at hb; cases hb
    · rw [if_pos q, if_neg q2]; exact h b k hb
  · rw [if_neg q]; exact h b k hb
theorem zρu_o {ρ : Nat → Nat → Option zF} {a y : Nat} {r : Option zF} {b k : Nat} (n : b ≠ a ∨ k ≠ y) : zρu ρ a y r b k = ρ b k := by
  unfold zρu
  by_cases q : b = a
  · rw [if_pos q, if_neg (n.resolve_left (fun z => z q))]
  · rw [if_neg q]
theorem zρu_s {ρ : Nat → Nat → Option zF} {a y : Nat} {r : Option zF} : zρu ρ a y r a y = r := by
  unfold zρu
  rw [if_pos rfl, if_pos rfl]
theorem zSh_pl {ρ : Nat → Nat → Option zF} (h : zSh ρ) {p : Nat} (hp : p = 2 ∨ p = 9) : zPlS ρ p := by
  rcases hp with e | e <;> subst e
  · exact zSh_pl2 h
  · exact zSh_pl9 h
def s_X4_read_L18 (tp : Nat) : Nat → Int32 → Int32 → zH → Option (Int32 × zH)
  | 0, _, _, _ => none
  | n + 1, l3, l4, h => if (700 : Int32) ≤ l4 then (some (l3, h)) else (if (zI h 16 5) = 0 then (some (l3, h)) else (if ¬ l3 = 0 then (some (l3, h)) else ((s_X4_isWord tp 2 h).bind fun v1 => if v1 = 0 then ((s_X4_isWord tp 3 h).bind fun v2 => if v2 = 0 then ((s_X4_isWord tp 4 h).bind fun v3 => if v3 = 0 then ((s_X4_isWord tp 5 h).bind fun v4 => if v4 = 0 then ((s_X4_isWord tp 6 h).bind fun v5 => if v5 = 0 then ((s_X4_isWord tp 17 h).bind fun v6 => if v6 = 0 then (s_X4_read_L18 tp n (1 : Int32) (l4 + (1 : Int32)) h) else (zbd (s_X4_readRule tp (tp + 6) (0 : Int32) h) fun v8 h7 => s_X4_read_L18 tp n v8 (l4 + (1 : Int32)) h7)) else (zbd (s_X4_readRule tp (tp + 5) (1 : Int32) h) fun v10 h9 => s_X4_read_L18 tp n v10 (l4 + (1 : Int32)) h9)) else (zbd (s_X4_readVerse tp h) fun v12 h11 => s_X4_read_L18 tp n v12 (l4 + (1 : Int32)) h11)) else (zbd (s_X4_readClans tp h) fun v14 h13 => s_X4_read_L18 tp n v14 (l4 + (1 : Int32)) h13)) else (zbd (s_X4_readRib tp (1 : Int32) h) fun v16 h15 => s_X4_read_L18 tp n v16 (l4 + (1 : Int32)) h15)) else (zbd (s_X4_readRib tp (0 : Int32) h) fun v18 h17 => s_X4_read_L18 tp n v18 (l4 + (1 : Int32)) h17))))
theorem s_X4_read_L18_ok (d : Nat) (ρ : Nat → Nat → Option zF) (hρ : zSh ρ) (tp : Nat) (htp : ρ 16 2 = some (tp, 3, 0) ∧ zPlS ρ tp) : ∀ (n : Nat) (l3 : Int32) (l4 : Int32) (h : zH) (res : Int32 × zH) (hR : zRq h ρ) (e : s_X4_read_L18 tp n l3 l4 h = some res), zwp (d + 9) zm_X4_read 18 [some (zr ((16, 4, 0) : zF)), none, none, some (zi l3), some (zi l4)] [] h (zQi ρ res) := by
  intro n
  induction n with
  | zero => intro l3 l4 h res hR e; cases e
  | succ n ih =>
    intro l3 l4 h res hR e
    rw [s_X4_read_L18] at e
    refine zwp.go (m := 2) (j := 20) (ls' := [some (zr ((16, 4, 0) : zF)), none, none, some (zi l3), some (zi l4)]) (st' := [zi (700 : Int32), zi l4]) (h' := h) rfl ?_
    refine zb_if (j := 88) (j2 := 21) e rfl (fun e => ?_) (fun e => ?_)
    · refine zwp.go (m := 1) (j := 89) (ls' := [some (zr ((16, 4, 0) : zF)), none, none, some (zi l3), some (zi l4)]) (st' := [zi l3]) (h' := h) rfl ?_
      cases e
      exact zwp.ret rfl rfl ⟨⟨rfl, rfl⟩, hR⟩
    · refine zwp.go (m := 2) (j := 23) (ls' := [some (zr ((16, 4, 0) : zF)), none, none, some (zi l3), some (zi l4)]) (st' := [zi (zI h 16 5)]) (h' := h) rfl ?_
      refine zb_if (j := 88) (j2 := 24) e rfl (fun e => ?_) (fun e => ?_)
      · refine zwp.go (m := 1) (j := 89) (ls' := [some (zr ((16, 4, 0) : zF)), none, none, some (zi l3), some (zi l4)]) (st' := [zi l3]) (h' := h) rfl ?_
        cases e
        exact zwp.ret rfl rfl ⟨⟨rfl, rfl⟩, hR⟩
      · refine zwp.go (m := 1) (j := 25) (ls' := [some (zr ((16, 4, 0) : zF)), none, none, some (zi l3), some (zi l4)]) (st' := [zi l3]) (h' := h) rfl ?_
        refine zb_if (j := 88) (j2 := 26) e rfl (fun e => ?_) (fun e => ?_)
        · refine zwp.go (m := 1) (j := 89) (ls' := [some (zr ((16, 4, 0) : zF)), none, none, some (zi l3), some (zi l4)]) (st' := [zi l3]) (h' := h) rfl ?_
          cases e
          exact zwp.ret rfl rfl ⟨⟨rfl, rfl⟩, hR⟩
        · refine zwp.go (m := 2) (j := 28) (ls' := [some (zr ((16, 4, 0) : zF)), none, none, some (zi l3), some (zi l4)]) (st' := [zr ((2, 30, 0) : zF), zr ((16, 4, 0) : zF)]) (h' := h) rfl ?_
          refine zc_cp (d := d + 8) e (fun q e => s_X4_isWord_ok (d + 4) ρ hρ tp 2 htp h q hR e) rfl rfl (fun v1 e => ?_)
          refine zb_if (j := 35) (j2 := 30) e rfl (fun e => ?_) (fun e => ?_)
          · refine zwp.go (m := 2) (j := 37) (ls' := [some (zr ((16, 4, 0) : zF)), none, none, some (zi l3), some (zi l4)]) (st' := [zr ((3, 30, 0) : zF), zr ((16, 4, 0) : zF)]) (h' := h) rfl ?_
            refine zc_cp (d := d + 8) e (fun q e => s_X4_isWord_ok (d + 4) ρ hρ tp 3 htp h q hR e) rfl rfl (fun v2 e => ?_)
            refine zb_if (j := 44) (j2 := 39) e rfl (fun e => ?_) (fun e => ?_)
            · refine zwp.go (m := 2) (j := 46) (ls' := [some (zr ((16, 4, 0) : zF)), none, none, some (zi l3), some (zi l4)]) (st' := [zr ((4, 30, 0) : zF), zr ((16, 4, 0) : zF)]) (h' := h) rfl ?_
              refine zc_cp (d := d + 8) e (fun q e => s_X4_isWord_ok (d + 4) ρ hρ tp 4 htp h q hR e) rfl rfl (fun v3 e => ?_)
              refine zb_if (j := 52) (j2 := 48) e rfl (fun e => ?_) (fun e => ?_)
              · refine zwp.go (m := 2) (j := 54) (ls' := [some (zr ((16, 4, 0) : zF)), none, none, some (zi l3), some (zi l4)]) (st' := [zr ((5, 30, 0) : zF), zr ((16, 4, 0) : zF)]) (h' := h) rfl ?_
                refine zc_cp (d := d + 8) e (fun q e => s_X4_isWord_ok (d + 4) ρ hρ tp 5 htp h q hR e) rfl rfl (fun v4 e => ?_)
                refine zb_if (j := 60) (j2 := 56) e rfl (fun e => ?_) (fun e => ?_)
                · refine zwp.go (m := 2) (j := 62) (ls' := [some (zr ((16, 4, 0) : zF)), none, none, some (zi l3), some (zi l4)]) (st' := [zr ((6, 30, 0) : zF), zr ((16, 4, 0) : zF)]) (h' := h) rfl ?_
                  refine zc_cp (d := d + 8) e (fun q e => s_X4_isWord_ok (d + 4) ρ hρ tp 6 htp h q hR e) rfl rfl (fun v5 e => ?_)
                  refine zb_if (j := 72) (j2 := 64) e rfl (fun e => ?_) (fun e => ?_)
                  · refine zwp.go (m := 2) (j := 74) (ls' := [some (zr ((16, 4, 0) : zF)), none, none, some (zi l3), some (zi l4)]) (st' := [zr ((17, 30, 0) : zF), zr ((16, 4, 0) : zF)]) (h' := h) rfl ?_
                    refine zc_cp (d := d + 8) e (fun q e => s_X4_isWord_ok (d + 4) ρ hρ tp 17 htp h q hR e) rfl rfl (fun v6 e => ?_)
                    refine zb_if (j := 84) (j2 := 76) e rfl (fun e => ?_) (fun e => ?_)
                    · refine zwp.go (m := 4) (j := 18) (ls' := [some (zr ((16, 4, 0) : zF)), none, none, some (zi (1 : Int32)), some (zi (l4 + (1 : Int32)))]) (st' := []) (h' := h) rfl ?_
                      exact ih (1 : Int32) (l4 + (1 : Int32)) h _ hR e
                    · refine zwp.go (m := 2) (j := 78) (ls' := [some (zr ((16, 4, 0) : zF)), none, none, some (zi l3), some (zi l4)]) (st' := [zr ((16, 4, 0) : zF), zr ((16, 4, 0) : zF)]) (h' := h) rfl ?_
                      refine zc_sr (r := ((tp, 3, 0) : zF)) (zrf (a := 16) (y := 2) hR rfl htp.1) rfl ?_
                      refine zc_sr (r := (((tp + 6), 5, 0) : zF)) (zrf (a := tp) (y := 5) hR rfl htp.2.2.2.2.2.2.2) rfl ?_
                      refine zwp.go (m := 1) (j := 81) (ls' := [some (zr ((16, 4, 0) : zF)), none, none, some (zi l3), some (zi l4)]) (st' := [zi (0 : Int32), zr (((tp + 6), 5, 0) : zF), zr ((16, 4, 0) : zF)]) (h' := h) rfl ?_
                      refine zc_ci (d := d + 8) e (fun q e => s_X4_readRule_ok (d + 0) ρ hρ tp (tp + 6) (0 : Int32) htp h q hR e) rfl rfl (fun v8 h7 hR7 e => ?_)
                      refine zwp.go (m := 4) (j := 18) (ls' := [some (zr ((16, 4, 0) : zF)), none, none, some (zi v8), some (zi (l4 + (1 : Int32)))]) (st' := []) (h' := h7) rfl ?_
                      exact ih v8 (l4 + (1 : Int32)) h7 _ hR7 e
                  · refine zwp.go (m := 2) (j := 66) (ls' := [some (zr ((16, 4, 0) : zF)), none, none, some (zi l3), some (zi l4)]) (st' := [zr ((16, 4, 0) : zF), zr ((16, 4, 0) : zF)]) (h' := h) rfl ?_
                    refine zc_sr (r := ((tp, 3, 0) : zF)) (zrf (a := 16) (y := 2) hR rfl htp.1) rfl ?_
                    refine zc_sr (r := (((tp + 5), 5, 0) : zF)) (zrf (a := tp) (y := 4) hR rfl htp.2.2.2.2.2.2.1) rfl ?_
                    refine zwp.go (m := 1) (j := 69) (ls' := [some (zr ((16, 4, 0) : zF)), none, none, some (zi l3), some (zi l4)]) (st' := [zi (1 : Int32), zr (((tp + 5), 5, 0) : zF), zr ((16, 4, 0) : zF)]) (h' := h) rfl ?_
                    refine zc_ci (d := d + 8) e (fun q e => s_X4_readRule_ok (d + 0) ρ hρ tp (tp + 5) (1 : Int32) htp h q hR e) rfl rfl (fun v10 h9 hR9 e => ?_)
                    refine zwp.go (m := 4) (j := 18) (ls' := [some (zr ((16, 4, 0) : zF)), none, none, some (zi v10), some (zi (l4 + (1 : Int32)))]) (st' := []) (h' := h9) rfl ?_
                    exact ih v10 (l4 + (1 : Int32)) h9 _ hR9 e
                · refine zwp.go (m := 1) (j := 57) (ls' := [some (zr ((16, 4, 0) : zF)), none, none, some (zi l3), some (zi l4)]) (st' := [zr ((16, 4, 0) : zF)]) (h' := h) rfl ?_
                  refine zc_ci (d := d + 8) e (fun q e => s_X4_readVerse_ok (d + 0) ρ hρ tp htp h q hR e) rfl rfl (fun v12 h11 hR11 e => ?_)
                  refine zwp.go (m := 4) (j := 18) (ls' := [some (zr ((16, 4, 0) : zF)), none, none, some (zi v12), some (zi (l4 + (1 : Int32)))]) (st' := []) (h' := h11) rfl ?_
                  exact ih v12 (l4 + (1 : Int32)) h11 _ hR11 e
              · refine zwp.go (m := 1) (j := 49) (ls' := [some (zr ((16, 4, 0) : zF)), none, none, some (zi l3), some (zi l4)]) (st' := [zr ((16, 4, 0) : zF)]) (h' := h) rfl ?_
                refine zc_ci (d := d + 8) e (fun q e => s_X4_readClans_ok (d + 0) ρ hρ tp htp h q hR e) rfl rfl (fun v14 h13 hR13 e => ?_)
                refine zwp.go (m := 4) (j := 18) (ls' := [some (zr ((16, 4, 0) : zF)), none, none, some (zi v14), some (zi (l4 + (1 : Int32)))]) (st' := []) (h' := h13) rfl ?_
                exact ih v14 (l4 + (1 : Int32)) h13 _ hR13 e
            · refine zwp.go (m := 2) (j := 41) (ls' := [some (zr ((16, 4, 0) : zF)), none, none, some (zi l3), some (zi l4)]) (st' := [zi (1 : Int32), zr ((16, 4, 0) : zF)]) (h' := h) rfl ?_
              refine zc_ci (d := d + 8) e (fun q e => s_X4_readRib_ok (d + 0) ρ hρ tp (1 : Int32) htp h q hR e) rfl rfl (fun v16 h15 hR15 e => ?_)
              refine zwp.go (m := 4) (j := 18) (ls' := [some (zr ((16, 4, 0) : zF)), none, none, some (zi v16), some (zi (l4 + (1 : Int32)))]) (st' := []) (h' := h15) rfl ?_
              exact ih v16 (l4 + (1 : Int32)) h15 _ hR15 e
          · refine zwp.go (m := 2) (j := 32) (ls' := [some (zr ((16, 4, 0) : zF)), none, none, some (zi l3), some (zi l4)]) (st' := [zi (0 : Int32), zr ((16, 4, 0) : zF)]) (h' := h) rfl ?_
            refine zc_ci (d := d + 8) e (fun q e => s_X4_readRib_ok (d + 0) ρ hρ tp (0 : Int32) htp h q hR e) rfl rfl (fun v18 h17 hR17 e => ?_)
            refine zwp.go (m := 4) (j := 18) (ls' := [some (zr ((16, 4, 0) : zF)), none, none, some (zi v18), some (zi (l4 + (1 : Int32)))]) (st' := []) (h' := h17) rfl ?_
            exact ih v18 (l4 + (1 : Int32)) h17 _ hR17 e
def s_X4_read_J6 (tp : Nat) (h : zH) : Option (Int32 × zH) := (s_X3_clear tp h).bind fun h1 => zlt (zwI h1 16 4 (0 : Int32)) fun h2 => (s_X4_advance tp h2).bind fun h3 => s_X4_read_L18 tp zfu (0 : Int32) (0 : Int32) h3
theorem s_X4_read_J6_ok (d : Nat) (ρ : Nat → Nat → Option zF) (hρ : zSh ρ) (tp : Nat) (htp : ρ 16 2 = some (tp, 3, 0) ∧ zPlS ρ tp) (h : zH) (res : Int32 × zH) (hR : zRq h ρ) (e : s_X4_read_J6 tp  h = some res) : zwp (d + 9) zm_X4_read 6 [some (zr ((16, 4, 0) : zF)), none, none, none, none] [] h (zQi ρ res) := by
  rw [s_X4_read_J6] at e
  refine zwp.go (m := 1) (j := 7) (ls' := [some (zr ((16, 4, 0) : zF)), none, none, none, none]) (st' := [zr ((16, 4, 0) : zF)]) (h' := h) rfl ?_
  refine zc_sr (r := ((tp, 3, 0) : zF)) (zrf (a := 16) (y := 2) hR rfl htp.1) rfl ?_
  refine zc_cv (d := d + 8) e (fun q e => s_X3_clear_ok (d + 8) ρ hρ tp htp.2 h q hR e) rfl rfl (fun h1 hR1 e => ?_)
  refine zwp.go (m := 2) (j := 11) (ls' := [some (zr ((16, 4, 0) : zF)), none, none, none, none]) (st' := [zi (0 : Int32), zr ((16, 4, 0) : zF)]) (h' := h1) rfl ?_
  refine zc_w e rfl hR1 (fun h2 hR2 e => ?_)
  refine zwp.go (m := 1) (j := 13) (ls' := [some (zr ((16, 4, 0) : zF)), none, none, none, none]) (st' := [zr ((16, 4, 0) : zF)]) (h' := h2) rfl ?_
  refine zc_cv (d := d + 8) e (fun q e => s_X4_advance_ok (d + 2) ρ hρ tp htp h2 q hR2 e) rfl rfl (fun h3 hR3 e => ?_)
  refine zwp.go (m := 4) (j := 18) (ls' := [some (zr ((16, 4, 0) : zF)), none, none, some (zi (0 : Int32)), some (zi (0 : Int32))]) (st' := []) (h' := h3) rfl ?_
  exact s_X4_read_L18_ok d ρ hρ tp htp zfu (0 : Int32) (0 : Int32) h3 _ hR3 e
def s_X4_read (tp : Nat) (a1 : Int32) (h : zH) : Option (Int32 × zH) := zlt (zwI h 16 1 a1) fun h1 => zlt (zwR h1 16 2 (some (tp, 3, 0))) fun h2 => s_X4_read_J6 tp h2
theorem s_X4_read_ok (d : Nat) (ρ : Nat → Nat → Option zF) (hρ : zSh ρ) (tp : Nat) (a1 : Int32) (htp : tp = 2 ∨ tp = 9) (h : zH) (res : Int32 × zH) (hR : zRq h ρ) (e : s_X4_read tp a1 h = some res) : zcl (d + 9) 53 [zr ((16, 4, 0) : zF), zi a1, zr ((tp, 3, 0) : zF)] h (zQi (zρu ρ 16 2 (some (tp, 3, 0))) res) := by
  rw [s_X4_read] at e
  refine ⟨zm_X4_read, rfl, ?_⟩
  show zwp (d + 9) zm_X4_read 0 [some (zr ((16, 4, 0) : zF)), some (zi a1), some (zr ((tp, 3, 0) : zF)), none, none] [] h _
  refine zwp.go (m := 2) (j := 2) (ls' := [some (zr ((16, 4, 0) : zF)), some (zi a1), some (zr ((tp, 3, 0) : zF)), none, none]) (st' := [zi a1, zr ((16, 4, 0) : zF)]) (h' := h) rfl ?_
  refine zc_w (ρ := ρ) e rfl hR (fun h1 hR1 e => ?_)
  refine zwp.go (m := 2) (j := 5) (ls' := [some (zr ((16, 4, 0) : zF)), some (zi a1), some (zr ((tp, 3, 0) : zF)), none, none]) (st' := [zr ((tp, 3, 0) : zF), zr ((16, 4, 0) : zF)]) (h' := h1) rfl ?_
  refine zwp.nx (j := 6) (ls' := [some (zr ((16, 4, 0) : zF)), some (zi a1), some (zr ((tp, 3, 0) : zF)), none, none]) (st' := []) (h' := zwR h1 16 2 (some (tp, 3, 0))) rfl ?_
  have hρ' : zSh (zρu ρ 16 2 (some (tp, 3, 0))) := zSh_u hρ rfl
  refine zwp.fg (a := [some (zr ((16, 4, 0) : zF)), none, none, none, none]) ?_ ?_
  · exact ⟨rfl, trivial⟩
  · exact s_X4_read_J6_ok d _ hρ' tp ⟨zρu_s, zSh_pl hρ' htp⟩ _ _ (zRq_u hR1) e
