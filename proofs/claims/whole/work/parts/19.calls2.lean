section CALLS2
variable {p : Program} {l : Launch} {e : Env} {R : Room} {s : State} {m : MethodId} {args : Array Value} {below : List Frame} {meth : Method} {c : Code} {Q : State → Prop}
variable {G : zCx} {M M' : zM} {y : zYt} {Y : Nat → Option zYt} {d n : Nat} {ad0 : Nat → Nat} {n0 c0 s0 i k : Nat} {ls : zLV} {st as rest : List zV} {h h2 : zH} {o2 : zO}
set_option maxHeartbeats 2000000 in
theorem zcall_s {idx pc9 len x y9 z w : Nat} {c1 : Int32 × Int64} {tb : List (Int32 × Nat)} {hn : Nat × Nat} {d' : Nat} (IH : zSn Y n) (hY : ∀ k M, zMT k = some M → ∃ y, Y k = some y ∧ zMh Y M y) (F : zFr p l R s m args meth c G M y (d' + 1)) (hcd : M.1[i]? = some (pc9, .invokestatic idx, len, (x, y9, z, w), c1, tb)) (hck : zck y.1.cls y.2.1 (decide (y.1.name = "<init>")) M.2.1 M.1 hn i (pc9, .invokestatic idx, len, (x, y9, z, w), c1, tb) = true) (hcc9 : zcc Y y.2.2.1 y.1.cls y.2.1 hn (pc9, .invokestatic idx, len, (x, y9, z, w), c1, tb) = true)
    (hs : zsem zTX (.invokestatic idx) x y9 z w c1 tb i ls st h = zCl k as rest) (hk : zMc zMT k as = some M') (hrun : zrun zTX zMT n d' M' 0 (zent as M'.2.1) [] h = some (o2, h2)) (hR1 : zc h2 ≤ c0 + R.cells) (hR2 : zs h2 ≤ s0 + R.slots)
    (kk : zGo p l e R s m args below meth c Q G M ad0 n0 c0 s0 i ls rest h2 o2) : zCfg p l e R s m args below meth c Q G M.1 M.2.1 ad0 n0 c0 s0 i ls st h := by
  obtain ⟨⟨hx, hb, hml, hown, hts⟩, X, -, -, -, -, htr, hRf, hRl⟩ := id F
  intro ad H locs lc pc cells slots hpc hag hn0 hrep hS hl hst hlv hcc hss
  have e9 : pc9 = pc := by
    simp only [zpcs, hcd, Option.map_some, Option.some.injEq] at hpc
    exact hpc
  subst e9
  simp only [zck, Bool.and_eq_true, decide_eq_true_eq, zfl] at hck
  obtain ⟨hd, ⟨rfl, hf⟩, -⟩ := hck
  simp only [zsem] at hs
  split at hs
  · split at hs
    · obtain ⟨-, e2⟩ := zcond hs
      cases e2
    · cases hs
  · rename_i hz2
    split at hs
    · rename_i as9 rest9 e1
      obtain ⟨hc9, e2⟩ := zcond hs
      cases e2
      have hcat := Nat.le_of_ble_eq_true hc9
      obtain ⟨bs, hb1, hb2, hb3⟩ := zpop_spec _ _ _ _ _ e1
      rw [List.append_nil] at hb2
      subst hb2
      subst hb3
      obtain ⟨hMT, hlen⟩ := zMc_spec hk
      obtain ⟨y2, hY2, hM2⟩ := hY k M' hMT
      simp only [zcc, hY2] at hcc9
      obtain ⟨yn, ycc, yret, yhh, yk⟩ := y2
      have hcc8 : (yk = 0 ∧ zwd hn (Cond.methodLink y.1.cls idx yn) = true ∧ (parseMethodDescriptor yn.desc).map (fun d => d.parameters.length) = some y9) ∨ (yk = 3 ∧ zwd hn (Cond.methodLink y.1.cls idx yn) = true ∧ y9 = 2) := by
        (repeat' (split at hcc9)) <;> first
          | (cases hcc9; done)
          | exact absurd rfl hz2
          | (rename_i em; cases em; simp only [Bool.and_eq_true, decide_eq_true_eq] at hcc9; exact Or.inl ⟨rfl, hcc9.1, hcc9.2⟩)
          | (rename_i em; cases em; simp only [Bool.and_eq_true, decide_eq_true_eq] at hcc9; exact Or.inr ⟨rfl, hcc9.1, hcc9.2⟩)
      rcases hcc8 with hcc8 | ⟨rfl, hw1, hy2⟩
      case inr =>
        have hM3 := (hM2.resolve_left (fun q => q.1 rfl)).2
        have hrest : ∀ v ∈ rest, zok G (zK h) v := fun v hv => hst v (List.mem_append_right _ hv)
        have hcs := zcv_cats (ad := ad) X.cat rest
        have h2as : ∃ u v, as = [u, v] := by
          match as, hb1.trans hy2 with
          | [u, v], _ => exact ⟨u, v, rfl⟩
        obtain ⟨u, v, rfl⟩ := h2as
        rcases hM3 with ⟨e1, rfl⟩ | ⟨e1, rfl⟩
        · dsimp only at e1
          subst e1
          obtain ⟨a, b, rfl, rfl, rfl, rfl⟩ := zmx_run hrun
          exact va_mmax (l := l) (e := e) (below := below) (meth := meth) (H := H) (locs := locs) (cells := cells) (slots := slots) hx hb (hml.trans hl.1.symm) hown (hts _ (zwd_in hw1)) (hts _ zmath_w.1.1) (hts _ zmath_w.2.2) (hts _ zmath_w.1.2) (by omega) (by show ((rest.map (zcv G ad)).map fun v => v.category).sum + 13 ≤ _; rw [hcs]; omega) (by omega) (by omega) hd
            (kk.1 _ rfl ad H locs lc (pc9 + 3) cells slots hf hag hn0 hrep hS hl (fun w hw => (List.mem_cons.mp hw).elim (fun q => by rw [q]; trivial) (hrest w)) hlv hcc hss)
        · dsimp only at e1
          subst e1
          obtain ⟨a, b, rfl, rfl, rfl, rfl⟩ := zmn_run hrun
          exact va_mmin (l := l) (e := e) (below := below) (meth := meth) (H := H) (locs := locs) (cells := cells) (slots := slots) hx hb (hml.trans hl.1.symm) hown (hts _ (zwd_in hw1)) (hts _ zmath_w.2.1.1) (hts _ zmath_w.2.2) (hts _ zmath_w.2.1.2) (by omega) (by show ((rest.map (zcv G ad)).map fun v => v.category).sum + 13 ≤ _; rw [hcs]; omega) (by omega) (by omega) hd
            (kk.1 _ rfl ad H locs lc (pc9 + 3) cells slots hf hag hn0 hrep hS hl (fun w hw => (List.mem_cons.mp hw).elim (fun q => by rw [q]; trivial) (hrest w)) hlv hcc hss)
      obtain ⟨rfl, hw1, hw4⟩ := hcc8
      replace hM2 := (hM2.resolve_right (fun q => absurd (show (0 : Nat) = 3 from q.1) (by decide))).2
      obtain ⟨m1, m2, m3, m4, m5, -, m7, -, m9⟩ := id hM2
      dsimp only at m1 m2 m3 m4 m5 m7 m9
      have hall : ∀ v ∈ as, zok G (zK h) v := fun v hv => hst v (List.mem_append_left _ (List.mem_reverse.mpr hv))
      have hrest : ∀ v ∈ rest, zok G (zK h) v := fun v hv => hst v (List.mem_append_right _ hv)
      have hg := zrun_grow _ _ _ _ _ _ _ _ _ hrun
      obtain ⟨g1, g2, ext, g3⟩ := id hg
      have hcs := zcv_cats (ad := ad) X.cat rest
      have S : CallFix p m c y.2.1 M.2.1 s args zTs y.1.cls := ⟨hx, hb, hml, hown, hts⟩
      have hpr : PreS s H (zPc G ad as h) (as.map (zcv G ad)) := ⟨zblind G ad _ h, zpre X hrep hS⟩
      have hstk : (F0 m pc9 lc ((as.reverse ++ rest).map (zcv G ad))).stack = (as.map (zcv G ad)).reverse ++ rest.map (zcv G ad) := zmap_rev _ _ _
      have hroom : 2 * (F0 m pc9 lc ((as.reverse ++ rest).map (zcv G ad))).monitorRoom + ((rest.map (zcv G ad)).map fun v => v.category).sum ≤ 8 := by
        rw [hcs]
        show 2 * 0 + zcats rest ≤ 8
        omega
      have hrR : (zrm d' (zc h2 - zc h) (zs h2 - zs h)).frames + 1 ≤ R.frames ∧ 8 + (M'.2.1 + 11) + (zrm d' (zc h2 - zc h) (zs h2 - zs h)).locals ≤ R.locals := ⟨by show 10 + d' + 1 ≤ _; omega, by show 8 + (M'.2.1 + 11) + (200 + 60 * d') ≤ _; omega⟩
      cases yhh with
      | none =>
        have cB : CallB R s args y.1.cls idx yn ycc M'.2.1 yret (zWs (yn, ycc, yret, none, 0) M'.2.1) (zrm d' (zc h2 - zc h) (zs h2 - zs h)) (zc h2 - zc h) (zs h2 - zs h) y9 :=
          callB_of y9 hts (zgood m3) rfl rfl rfl (hts _ m4) (hts _ (zwd_in hw1)) ⟨m2.1, m2.2, hw4⟩ hrR
        cases o2 with
        | inl v =>
          have hMet := zmet_ret IH htr hM2 hrun hlen (ad := ad) hall (mc := zc h2 - zc h) (ms := zs h2 - zs h) rfl rfl
          have hR := va_runS (l := l) (e := e) (below := below) (meth := meth) (H := H) (locs := locs) (cells := cells) (slots := slots) S hMet ⟨cB, hts _ m7⟩ hpr (g := F0 m pc9 lc ((as.reverse ++ rest).map (zcv G ad))) rfl (by simp; omega) hl.1 hstk hroom hd ⟨by omega, by omega⟩
          exact zrun_back hR hS hf hag hn0 hl hrest hlv hg (zrun_ret _ _ _ _ _ _ _ _ _ hrun) hcc hss rfl rfl (kk.1 v rfl)
        | inr x9 =>
          have hMet := zmet_thr IH htr hM2 hrun hlen (ad := ad) hall (mc := zc h2 - zc h) (ms := zs h2 - zs h) rfl rfl
          have hR := vx_runS (l := l) (e := e) (below := below) (meth := meth) (H := H) (locs := locs) (cells := cells) (slots := slots) S hMet ⟨cB, hts _ m7⟩ hpr (g := F0 m pc9 lc ((as.reverse ++ rest).map (zcv G ad))) rfl (by simp; omega) hl.1 hstk hroom hd ⟨by omega, by omega⟩
          exact zrun_thrown hR hS hpc hag hn0 hl hrest hlv hg hcc hss rfl rfl (kk.2 x9 rfl (fun u hu => by rw [g3]; exact zok_app (hlv u hu)))
      | some hh9 =>
        cases o2 with
        | inl v =>
          have hMet := zmet_ret IH htr hM2 hrun hlen (ad := ad) hall (mc := zc h2 - zc h) (ms := zs h2 - zs h) rfl rfl
          have cw : vx_CSW R s args y.1.cls idx yn ycc M'.2.1 yret hh9 (zWs (yn, ycc, yret, some hh9, 0) M'.2.1) (zrm d' (zc h2 - zc h) (zs h2 - zs h)) (zc h2 - zc h) (zs h2 - zs h) y9 :=
            ⟨⟨rfl, rfl, hrR.1, hrR.2, pay_in hts (zgood m3), List.mem_cons_self⟩, hts _ m3, hts _ m4, m2, fun sig q => by rw [q] at hw4; exact (Option.some.inj hw4).symm, hts _ (zwd_in hw1), hts _ m7⟩
          have hR := vx_runSW (l := l) (e := e) (below := below) (meth := meth) (H := H) (locs := locs) (cells := cells) (slots := slots) S hMet cw hpr (g := F0 m pc9 lc ((as.reverse ++ rest).map (zcv G ad))) rfl (by simp; omega) hl.1 hstk hroom hd ⟨by omega, by omega⟩
          exact zrun_back hR hS hf hag hn0 hl hrest hlv hg (zrun_ret _ _ _ _ _ _ _ _ _ hrun) hcc hss rfl rfl (kk.1 v rfl)
        | inr x9 => exact absurd (zrun_thr _ _ _ _ _ _ _ _ _ hrun) (zhok_ne m9)
    · cases hs
set_option maxHeartbeats 2000000 in
theorem zcall_i {idx pc9 len x y9 z w : Nat} {c1 : Int32 × Int64} {tb : List (Int32 × Nat)} {hn : Nat × Nat} {d' : Nat} (IH : zSn Y n) (hY : ∀ k M, zMT k = some M → ∃ y, Y k = some y ∧ zMh Y M y) (F : zFr p l R s m args meth c G M y (d' + 1)) (hcd : M.1[i]? = some (pc9, .invokespecial idx, len, (x, y9, z, w), c1, tb)) (hck : zck y.1.cls y.2.1 (decide (y.1.name = "<init>")) M.2.1 M.1 hn i (pc9, .invokespecial idx, len, (x, y9, z, w), c1, tb) = true) (hcc9 : zcc Y y.2.2.1 y.1.cls y.2.1 hn (pc9, .invokespecial idx, len, (x, y9, z, w), c1, tb) = true)
    (hs : zsem zTX (.invokespecial idx) x y9 z w c1 tb i ls st h = zCl k as rest) (hk : zMc zMT k as = some M') (hrun : zrun zTX zMT n d' M' 0 (zent as M'.2.1) [] h = some (o2, h2)) (hR1 : zc h2 ≤ c0 + R.cells) (hR2 : zs h2 ≤ s0 + R.slots)
    (kk : zGo p l e R s m args below meth c Q G M ad0 n0 c0 s0 i ls rest h2 o2) : zCfg p l e R s m args below meth c Q G M.1 M.2.1 ad0 n0 c0 s0 i ls st h := by
  obtain ⟨⟨hx, hb, hml, hown, hts⟩, X, -, -, -, -, htr, hRf, hRl⟩ := id F
  intro ad H locs lc pc cells slots hpc hag hn0 hrep hS hl hst hlv hcc hss
  have e9 : pc9 = pc := by
    simp only [zpcs, hcd, Option.map_some, Option.some.injEq] at hpc
    exact hpc
  subst e9
  simp only [zck, Bool.and_eq_true, decide_eq_true_eq, zfl] at hck
  obtain ⟨hd, ⟨rfl, hf⟩, -⟩ := hck
  simp only [zsem] at hs
  split at hs
  · split at hs
    · obtain ⟨-, e2⟩ := zcond hs
      cases e2
    · cases hs
  · rename_i hz2
    split at hs
    · rename_i a k9 n9 as9 rest9 e1
      obtain ⟨hc9, e2⟩ := zcond hs
      simp only [Bool.and_eq_true] at hc9
      cases e2
      have hkw := Nat.eq_of_beq_eq_true hc9.1
      have hcat := Nat.le_of_ble_eq_true hc9.2
      subst hkw
      obtain ⟨bs, hb1, hb2, hb3⟩ := zpop_spec _ _ _ _ _ e1
      rw [List.append_nil] at hb2
      subst hb2
      subst hb3
      obtain ⟨hMT, hlen⟩ := zMc_spec hk
      obtain ⟨y2, hY2, hM2⟩ := hY k M' hMT
      simp only [zcc, hY2] at hcc9
      obtain ⟨yn, ycc, yret, yhh, yk⟩ := y2
      have hcc8 : (yret = none ∧ yhh = none ∧ yk = 2) ∧ (zwd hn (Cond.methodLink y.1.cls idx yn) = true ∨ zwb hn (Cond.methodLinkNest y.1.cls idx yn "RibLoom") = true) ∧ k9 < 12 ∧ (parseMethodDescriptor yn.desc).map (fun d => d.parameters.length) = some (y9 - 1) ∧ 1 ≤ y9 := by
        (repeat' (split at hcc9)) <;> first
          | (cases hcc9; done)
          | exact absurd rfl hz2
          | (rename_i em; cases em; simp only [Bool.and_eq_true, Bool.or_eq_true, decide_eq_true_eq] at hcc9; exact ⟨⟨rfl, rfl, rfl⟩, hcc9.1.1.1, hcc9.1.1.2, hcc9.1.2, hcc9.2⟩)
      obtain ⟨⟨rfl, rfl, rfl⟩, hw1, hw3, hw4, hw5⟩ := hcc8
      replace hM2 := (hM2.resolve_right (fun q => absurd (show (2 : Nat) = 3 from q.1) (by decide))).2
      obtain ⟨m1, m2, m3, m4, m5, -, m7, -, m9⟩ := id hM2
      dsimp only at m1 m2 m3 m4 m5 m7 m9
      have hall : ∀ v ∈ zr (a, k9, n9) :: as9, zok G (zK h) v := fun v hv => hst v (List.mem_append_left _ (List.mem_reverse.mpr hv))
      have hrest : ∀ v ∈ rest, zok G (zK h) v := fun v hv => hst v (List.mem_append_right _ hv)
      have hg := zrun_grow _ _ _ _ _ _ _ _ _ hrun
      obtain ⟨g1, g2, ext, g3⟩ := id hg
      obtain ⟨b, eb, hcell⟩ := zrecv X hrep hS (Or.inl hw3) (hall _ List.mem_cons_self)
      have hcs := zcv_cats (ad := ad) X.cat rest
      have S : CallFix p m c y.2.1 M.2.1 s args zTs y.1.cls := ⟨hx, hb, hml, hown, hts⟩
      have hpr : PreS s H (zPc G ad (zr (a, k9, n9) :: as9) h) (.ref b :: as9.map (zcv G ad)) := ⟨zblind G ad _ h, fun U hU hW => by
        have := zpre (as := zr (a, k9, n9) :: as9) X hrep hS U hU hW
        rw [List.map_cons, eb] at this
        exact this⟩
      have hla : as9.length + 1 = y9 := by simpa using hb1
      have hstk : (F0 m pc9 lc (((zr (a, k9, n9) :: as9).reverse ++ rest).map (zcv G ad))).stack = (as9.map (zcv G ad)).reverse ++ .ref b :: rest.map (zcv G ad) := by
        show ((zr (a, k9, n9) :: as9).reverse ++ rest).map (zcv G ad) = _
        rw [zmap_rev, List.map_cons, List.reverse_cons, eb]
        simp
      have hroom : 2 * (F0 m pc9 lc (((zr (a, k9, n9) :: as9).reverse ++ rest).map (zcv G ad))).monitorRoom + ((rest.map (zcv G ad)).map fun v => v.category).sum ≤ 8 := by
        rw [hcs]
        show 2 * 0 + zcats rest ≤ 8
        omega
      have hrR : (zrm d' (zc h2 - zc h) (zs h2 - zs h)).frames + 1 ≤ R.frames ∧ 8 + (M'.2.1 + 11) + (zrm d' (zc h2 - zc h) (zs h2 - zs h)).locals ≤ R.locals := ⟨by show 10 + d' + 1 ≤ _; omega, by show 8 + (M'.2.1 + 11) + (200 + 60 * d') ≤ _; omega⟩
      cases o2 with
      | inl v =>
        have hMet := zmet_ret IH htr hM2 hrun hlen (ad := ad) hall (mc := zc h2 - zc h) (ms := zs h2 - zs h) rfl rfl
        rcases hw1 with hw1 | hw1
        · have cB : CallB R s args y.1.cls idx yn ycc M'.2.1 none (zWs (yn, ycc, none, none, 2) M'.2.1) (zrm d' (zc h2 - zc h) (zs h2 - zs h)) (zc h2 - zc h) (zs h2 - zs h) (y9 - 1) :=
            callB_of (y9 - 1) hts (zgood m3) rfl rfl rfl (hts _ m4) (hts _ (zwd_in hw1)) ⟨m2.1, m2.2, hw4⟩ hrR
          have hR := va_runI (l := l) (e := e) (below := below) (meth := meth) (H := H) (locs := locs) (cells := cells) (slots := slots) S hMet ⟨cB, m7.2, hts _ m7.1⟩ hpr (g := F0 m pc9 lc (((zr (a, k9, n9) :: as9).reverse ++ rest).map (zcv G ad))) rfl (by simp; omega) hl.1 hstk hroom hd ⟨by omega, by omega⟩
          exact zrun_back hR hS hf hag hn0 hl hrest hlv hg (zrun_ret _ _ _ _ _ _ _ _ _ hrun) hcc hss rfl rfl (kk.1 v rfl)
        · obtain ⟨q1, q2⟩ := zwb_in hw1
          have cN := va_cnB (R := R) (n := y9 - 1) hts (zgood m3) rfl rfl rfl (X.2.2.2.2.2.2.2.2.2.2.2.2.2.2.2 _ q1 q2) (hts _ m4) ⟨m2.1, m2.2, hw4⟩ hrR
          have hR := va_runIN (l := l) (e := e) (below := below) (meth := meth) (H := H) (locs := locs) (cells := cells) (slots := slots) S hMet ⟨cN, m7.2, hts _ m7.1⟩ hpr (g := F0 m pc9 lc (((zr (a, k9, n9) :: as9).reverse ++ rest).map (zcv G ad))) rfl (by simp; omega) hl.1 hstk hroom hd ⟨by omega, by omega⟩
          exact zrun_back hR hS hf hag hn0 hl hrest hlv hg (zrun_ret _ _ _ _ _ _ _ _ _ hrun) hcc hss rfl rfl (kk.1 v rfl)
      | inr x9 =>
        have q1 := zrun_thr _ _ _ _ _ _ _ _ _ hrun
        rw [q1] at m9
        cases m9
    · cases hs
end CALLS2
set_option maxHeartbeats 2000000 in
/-- EVERY RUN OF THE MACHINE OF PART 02 IS ONE OF THE STATEMENT'S -/
theorem zsnd {Y : Nat → Option zYt} (hY : ∀ k M, zMT k = some M → ∃ y, Y k = some y ∧ zMh Y M y) : ∀ n, zSn Y n := by
  intro n
  induction n with
  | zero => intro d M y i ls st h o h' _ hrun; simp [zrun] at hrun
  | succ n IH =>
    intro d M y i ls st h o h' hM hrun p l e R s m args below meth c Q G ad0 n0 c0 s0 F hR1 hR2 hret hthr hthx
    obtain ⟨E, X, hini, hlocks, hrt, htab, htr, hRf, hRl⟩ := id F
    rw [zrun] at hrun
    cases hs : zstep zTX M.1 i ls st h with
    | none => rw [hs] at hrun; cases hrun
    | some q =>
      rw [hs] at hrun
      have hcd : ∃ a, M.1[i]? = some a := by
        unfold zstep at hs
        cases e9 : M.1[i]? with
        | none => rw [e9] at hs; cases hs
        | some a => exact ⟨a, rfl⟩
      obtain ⟨a, hcd⟩ := hcd
      have hsm : zsem zTX a.2.1 a.2.2.2.1.1 a.2.2.2.1.2.1 a.2.2.2.1.2.2.1 a.2.2.2.1.2.2.2 a.2.2.2.2.1 a.2.2.2.2.2 i ls st h = some q := by
        unfold zstep at hs
        rw [hcd] at hs
        exact hs
      have hnat : a.2.1 ≠ .athrow := by
        intro q9
        rw [q9] at hsm
        cases hsm
      obtain ⟨hn, hck, hcc9⟩ := (hM.1 i a hcd).resolve_left hnat
      rcases q with ⟨j, ls', st', h2⟩ | ⟨k, as, rest⟩ | v | x
      · have g := zrun_grow _ _ _ _ _ _ _ _ _ hrun
        exact zone E X hcd hck (fun q9 => hini (of_decide_eq_true q9)) ⟨by omega, by omega, by have := g.1; omega, by have := g.2.1; omega⟩ hs (IH d M y j ls' st' h2 o h' hM hrun p l e R s m args below meth c Q G ad0 n0 c0 s0 F hR1 hR2 hret hthr hthx)
      · cases d with
        | zero => cases hrun
        | succ d =>
          dsimp only at hrun
          cases hk : zMc zMT k as with
          | none => rw [hk] at hrun; cases hrun
          | some M' =>
            rw [hk] at hrun
            dsimp only at hrun
            cases hc : zrun zTX zMT n d M' 0 (zent as M'.2.1) [] h with
            | none => rw [hc] at hrun; cases hrun
            | some q =>
              rw [hc] at hrun
              obtain ⟨o2, h2⟩ := q
              have go : zc h2 ≤ zc h' ∧ zs h2 ≤ zs h' ∧ zGo p l e R s m args below meth c Q G M ad0 n0 c0 s0 i ls rest h2 o2 := by
                cases o2 with
                | inl v =>
                  have g := zrun_grow _ _ _ _ _ _ _ _ _ hrun
                  exact ⟨g.1, g.2.1, ⟨fun v2 e2 => by cases e2; exact IH (d + 1) M y (i + 1) ls (v.toList ++ rest) h2 o h' hM hrun p l e R s m args below meth c Q G ad0 n0 c0 s0 F hR1 hR2 hret hthr hthx, fun x e2 => by cases e2⟩⟩
                | inr x =>
                  dsimp only at hrun
                  cases hh : zhnd M.2.2 i x with
                  | none =>
                    rw [hh] at hrun
                    dsimp only at hrun
                    split at hrun
                    · rename_i hm0
                      cases hrun
                      exact ⟨Nat.le_refl _, Nat.le_refl _, ⟨fun v e2 => (by cases e2), fun x2 e2 _ => by cases e2; exact hthx x i ls rest rfl hm0⟩⟩
                    · cases hrun
                  | some q0 =>
                    rw [hh] at hrun
                    have g := zrun_grow _ _ _ _ _ _ _ _ _ hrun
                    refine ⟨g.1, g.2.1, ⟨fun v e2 => (by cases e2), fun x2 e2 hlv => ?_⟩⟩
                    cases e2
                    exact zcatch_row hM F hcd hh hlv (IH (d + 1) M y q0.1 (zkil ls q0.2) [] h2 o h' hM hrun p l e R s m args below meth c Q G ad0 n0 c0 s0 F hR1 hR2 hret hthr hthx)
              obtain ⟨go1, go2, go3⟩ := go
              obtain ⟨pc9, ins, len, ⟨x9, y9, z9, w9⟩, c1, tb⟩ := a
              dsimp only at hsm
              cases ins with
              | invokevirtual idx => exact zcall_v IH hY F hcd hck hcc9 hsm hk hc (by omega) (by omega) go3
              | invokestatic idx => exact zcall_s IH hY F hcd hck hcc9 hsm hk hc (by omega) (by omega) go3
              | invokespecial idx => exact zcall_i IH hY F hcd hck hcc9 hsm hk hc (by omega) (by omega) go3
              | _ =>
                exfalso
                clear hck hcc9 hcd
                simp only [zsem] at hsm
                (repeat' (split at hsm)) <;> first
                  | (cases hsm; done)
                  | (obtain ⟨-, e⟩ := zcond hsm; cases e; done)
                  | (obtain ⟨-, e⟩ := zcondN hsm; cases e; done)
                  | (rcases zcondB hsm with e | e <;> cases e; done)
      · cases hrun
        exact hret v i ls st rfl hs
      · dsimp only at hrun
        split at hrun
        · rename_i hm0
          cases hrun
          exact hthr x i ls st h rfl hm0 hs rfl
        · cases hrun
