/-! ===== the machine of part 02 is right ===== -/
theorem zthr_ok : ∀ w ∈ Cond.classLink RX10 109 "java/lang/IllegalArgumentException" :: Cond.initialized "java/lang/IllegalArgumentException" :: vx_atS RX10 113 "java/lang/IllegalArgumentException" ["java/lang/RuntimeException", "java/lang/Exception"], vx_ot w = true := by decide +kernel
theorem zthr_c : (Cond.classLink RX10 109 "java/lang/IllegalArgumentException" ∈ zTs ∧ Cond.initialized "java/lang/IllegalArgumentException" ∈ zTs) ∧ (Cond.classLink RX10 171 "java/util/NoSuchElementException" ∈ zTs ∧ Cond.initialized "java/util/NoSuchElementException" ∈ zTs) ∧ Cond.classLink RL 13 "java/lang/IllegalArgumentException" ∈ zTs ∧ Cond.classLink RL 18 "java/util/NoSuchElementException" ∈ zTs :=
  ⟨⟨zwd_in (hn := (2, 197)) (by decide +kernel), zwd_in (hn := (0, 17)) (by decide +kernel)⟩, ⟨zwd_in (hn := (4, 5)) (by decide +kernel), zwd_in (hn := (0, 25)) (by decide +kernel)⟩, zwd_in (hn := (2, 192)) (by decide +kernel), zwd_in (hn := (3, 234)) (by decide +kernel)⟩
theorem zhok_ne {own : String} {cc : ByteArray} {M : zM} {hh : List (Nat × Nat × Nat × Nat)} (h : zhok own cc M hh = true) : M.2.2 ≠ [] := by
  intro q
  unfold zhok at h
  split at h
  · rename_i e; rw [q] at e; cases e
  · rename_i e; rw [q] at e; cases e
  · cases h
set_option maxHeartbeats 1000000 in
theorem zfin_thr {p : Program} {l : Launch} {e : Env} {R : Room} {s : State} {m : MethodId} {args : Array Value} {below : List Frame} {meth : Method} {c : Code} {G : zCx} {M : zM} {y : zYt} {d : Nat} {Y : Nat → Option zYt} (hM : zMg Y M y) (F : zFr p l R s m args meth c G M y d) (hM2 : M.2.2 = []) {ad0 : Nat → Nat} {h h' h2 : zH} {o : zO} {mc ms : Nat} (hmc : mc = zc h' - zc h) (hms : ms = zs h' - zs h) (hRc : mc ≤ R.cells) (hRs : ms ≤ R.slots)
    {x0 : Nat} {j : Nat} {ls2 : zLV} {st2 : List zV} (ho : o = Sum.inr x0) (hs : zstep zTX M.1 j ls2 st2 h2 = zTh x0) (hh2 : h' = zth h2) : zCfg p l e R s m args below meth c (vx_MQ below (zQm G ad0 h o h') (zXm G ad0 h o h') args s mc ms (zAf G)) G M.1 M.2.1 ad0 (zK h).length (zc h) (zs h) j ls2 st2 h2 := by
  obtain ⟨⟨hx, hb, hml, hown, hts⟩, X, -, hlocks, hr, htab, htr, hRf, hRl⟩ := F
  obtain ⟨hcert, htab2⟩ := hM
  intro ad H locs lc pc cells slots hpc hag hn0 hrep hS hl hst hlv hcc hss
  unfold zstep at hs
  cases hcd : M.1[j]? with
  | none => rw [hcd] at hs; cases hs
  | some a =>
    rw [hcd] at hs
    obtain ⟨pc9, ins, len, ⟨x, y9, z, w⟩, c1, tb⟩ := a
    have e9 : pc9 = pc := by
      simp only [zpcs, hcd, Option.map_some, Option.some.injEq] at hpc
      exact hpc
    subst e9
    dsimp only at hs
    rcases hcert j _ hcd with q | ⟨hn, hck, hcc9⟩
    · dsimp only at q
      subst q
      cases hs
    · cases ins with
      | new ik =>
        simp only [zsem] at hs
        split at hs
        · cases hs
        · rename_i hz
          split at hs
          · cases hs
            simp only [zck, Bool.and_eq_true, decide_eq_true_eq] at hck
            obtain ⟨hd, rfl, -⟩ := hck
            have hcc8 : (y.1.cls = RX10 ∧ ((x0 = 0 ∧ ik = 109) ∨ (x0 = 1 ∧ ik = 171))) ∧ y9 < 45 ∧ ∃ is tx9, zSt[y9]? = some (y.1.cls, is, tx9) ∧ ztc y.2.1 pc9 (if x0 = 0 then 113 else 175) is = true := by
              cases z with
              | zero => exact (hz rfl).elim
              | succ z9 =>
                simp only [zcc, Bool.and_eq_true, decide_eq_true_eq] at hcc9
                cases e5 : zSt[y9]? with
                | none =>
                  rw [e5] at hcc9
                  exact absurd (show false = true from hcc9.2) (by decide)
                | some q5 =>
                  obtain ⟨o9, is, tx9⟩ := q5
                  rw [e5] at hcc9
                  simp only [Bool.and_eq_true, decide_eq_true_eq] at hcc9
                  obtain ⟨⟨⟨g1, g2⟩, g3⟩, g4, g5⟩ := hcc9
                  exact ⟨⟨g1, g2⟩, g3, is, tx9, by rw [g4], g5⟩
            obtain ⟨⟨hown9, hx9⟩, hy45, is, tx9, hst9, htc⟩ := hcc8
            have hout : ∀ (z9 : Nat), ∀ x9 ∈ c.exceptionTable.toList, covers x9 z9 = false := by
              intro z9 x9 hx8
              cases hh : y.2.2.2.1 with
              | none => rw [hh] at htab; exact (htab x9 hx8).elim
              | some hh9 => rw [hh] at htab2; exact absurd hM2 (zhok_ne htab2)
            have hvk := X.2.2.1 y9 _ hst9
            have hU := X.2.2.2.2.2.2.2.1
            have hN := X.2.2.2.2.2.2.2.2.1
            have e1 : cells + 1 = mc := by rw [hmc, hh2]; show cells + 1 = zc h2 + 1 - zc h; omega
            have e2 : slots + 6 = ms := by rw [hms, hh2]; show slots + 6 = zs h2 + 6 - zs h; omega
            have hXC : ∀ t : State, s.vm.Alike t.vm → H.size ≤ t.heap.size → (∀ q : Nat, q < H.size → t.heap[q]? = H[q]?) → zXm G ad0 h o h' (zxn x0) s t := by
              intro t _ ht1 ht2
              refine ⟨x0, ho, rfl, ⟨ad, hag, ?_⟩, ?_⟩
              · rw [hh2]
                refine ⟨fun k q hk => ?_, hrep.2.1, hrep.2.2⟩
                have hk2 := hrep.1 k q hk
                exact hk2.kept (ht2 _ hk2.lt)
              · exact ⟨Nat.le_trans hS.1 ht1, fun q h1 h3 => by rw [ht2 q (Nat.lt_of_lt_of_le h1 hS.1)]; exact hS.2.1 q h1 h3⟩
            have hat : ∀ L : List Cond, (∀ w ∈ L, w ∈ lw_tbl ∧ (goodWord w || zbk w) = true) → ∀ w ∈ L, w.before args s = true := by
              intro L hL w hw
              obtain ⟨q1, q2⟩ := hL w hw
              rcases Bool.or_eq_true_iff.mp q2 with q3 | q3
              · exact hts w (List.mem_filter.mpr ⟨q1, q3⟩)
              · exact va_Nw.use (zbk_on q3) (X.2.2.2.2.2.2.2.2.2.2.2.2.2.2.2 w q1 q3)
            simp only [ztc, Bool.and_eq_true, Bool.or_eq_true, decide_eq_true_eq] at htc
            obtain ⟨d3, hd2⟩ := htc
            rw [hown9] at hvk hown
            rcases hx9 with ⟨rfl, rfl⟩ | ⟨rfl, rfl⟩
            · rcases hd2 with ⟨⟨d4, d6⟩, d9⟩ | ⟨⟨d4, d6⟩, d9⟩
              · exact vx_throwS (names := ["java/lang/RuntimeException", "java/lang/Exception"]) hx hb htr hown (by decide +kernel) (by decide +kernel) (hts _ zthr_c.1.1) (hts _ zthr_c.1.2) hvk (hat _ zthr_w) zthr_ok hU hN hS (by rw [hml]; exact hl.1) hd d3 d4 d6 d9 (hout _) (by show 2 + 3 < _; omega) (by show 0 + (13 * (2 + 1) + 43) ≤ _; omega) (by omega) (by omega) hlocks hXC hS.2.2 (by omega) (by omega)
              · exact vx_throwSW (names := ["java/lang/RuntimeException", "java/lang/Exception"]) hx hb htr hown (by decide +kernel) (by decide +kernel) (hts _ zthr_c.1.1) (hts _ zthr_c.1.2) hvk (hat _ zthr_w) zthr_ok hU hN hS (by rw [hml]; exact hl.1) hd d3 d4 d6 d9 (hout _) (by show 2 + 3 < _; omega) (by show 0 + (13 * (2 + 1) + 43) ≤ _; omega) (by omega) (by omega) hlocks hXC hS.2.2 (by omega) (by omega)
            · rcases hd2 with ⟨⟨d4, d6⟩, d9⟩ | ⟨⟨d4, d6⟩, d9⟩
              · exact zthrowN (Y0 := "java/lang/RuntimeException") (names0 := ["java/lang/Exception"]) hx hb htr hown (by decide +kernel) (by decide +kernel) (hts _ zthr_c.2.1.1) (hts _ zthr_c.2.1.2) hvk (hat _ zthr_wN) zthr_okN hU hN hS (by rw [hml]; exact hl.1) hd d3 d4 d6 d9 (hout _) (by show 2 + 3 < _; omega) (by show 0 + (13 * (2 + 1) + 43) ≤ _; omega) (by omega) (by omega) hlocks hXC hS.2.2 (by omega) (by omega)
              · exact zthrowNW (Y0 := "java/lang/RuntimeException") (names0 := ["java/lang/Exception"]) hx hb htr hown (by decide +kernel) (by decide +kernel) (hts _ zthr_c.2.1.1) (hts _ zthr_c.2.1.2) hvk (hat _ zthr_wN) zthr_okN hU hN hS (by rw [hml]; exact hl.1) hd d3 d4 d6 d9 (hout _) (by show 2 + 3 < _; omega) (by show 0 + (13 * (2 + 1) + 43) ≤ _; omega) (by omega) (by omega) hlocks hXC hS.2.2 (by omega) (by omega)
          · cases hs
      | _ =>
        exfalso
        simp only [zsem] at hs
        (repeat' (split at hs)) <;> first
          | (cases hs; done)
          | (obtain ⟨-, e⟩ := zcond hs; cases e; done)
          | (obtain ⟨-, e⟩ := zcondN hs; cases e; done)
          | (rcases zcondB hs with e | e <;> cases e; done)
