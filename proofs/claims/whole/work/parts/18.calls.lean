/-! ===== calls ===== -/
section CALLS
variable {p : Program} {l : Launch} {e : Env} {R : Room} {s : State} {m : MethodId} {args : Array Value} {below : List Frame} {meth : Method} {c : Code} {Q : State → Prop}
variable {G : zCx} {M M' : zM} {y : zYt} {Y : Nat → Option zYt} {d n : Nat} {ad0 : Nat → Nat} {n0 c0 s0 i k : Nat} {ls : zLV} {st as rest : List zV} {h h2 : zH} {o2 : zO}
theorem zmap_rev (f : zV → Value) (as rest : List zV) : (as.reverse ++ rest).map f = (as.map f).reverse ++ rest.map f := by simp
theorem zMc_spec {as : List zV} (h : zMc zMT k as = some M') : zMT k = some M' ∧ (zarg as).length ≤ M'.2.1 := by
  unfold zMc at h
  split at h
  · cases h
  · rename_i M0 e
    split at h
    · rename_i q
      cases h
      exact ⟨e, Nat.le_of_ble_eq_true q⟩
    · cases h
/-- what a call's kinds share -/
abbrev zGo (p : Program) (l : Launch) (e : Env) (R : Room) (s : State) (m : MethodId) (args : Array Value) (below : List Frame) (meth : Method) (c : Code) (Q : State → Prop) (G : zCx) (M : zM) (ad0 : Nat → Nat) (n0 c0 s0 i : Nat) (ls : zLV) (rest : List zV) (h2 : zH) (o2 : zO) : Prop :=
  (∀ v, o2 = Sum.inl v → zCfg p l e R s m args below meth c Q G M.1 M.2.1 ad0 n0 c0 s0 (i + 1) ls (v.toList ++ rest) h2) ∧ (∀ x, o2 = Sum.inr x → (∀ v, some v ∈ ls → zok G (zK h2) v) → zCfgX p l e R s m args below meth c Q G M.1 M.2.1 ad0 n0 c0 s0 i ls rest h2 (zxn x))
theorem zpre {ad : Nat → Nat} {H : Heap} {locs : List Loc} (X : zCX G s) (hrep : zRep G ad h H) (hS : va_S (zAf G) s.heap H locs) : ∀ U : State, U.heap = H → s.WarmedH U.vm → zPc G ad as h (as.map (zcv G ad)).toArray U := fun U hU hW => ⟨rfl, X.moved hW (fun q h1 h3 => by rw [hU]; exact hS.2.1 q h1 h3) (by rw [hU]; exact hS.1), by rw [hU]; exact hrep⟩
set_option maxHeartbeats 2000000 in
theorem zcall_v {idx pc9 len x y9 z w : Nat} {c1 : Int32 × Int64} {tb : List (Int32 × Nat)} {hn : Nat × Nat} {d' : Nat} (IH : zSn Y n) (hY : ∀ k M, zMT k = some M → ∃ y, Y k = some y ∧ zMh Y M y) (F : zFr p l R s m args meth c G M y (d' + 1)) (hcd : M.1[i]? = some (pc9, .invokevirtual idx, len, (x, y9, z, w), c1, tb)) (hck : zck y.1.cls y.2.1 (decide (y.1.name = "<init>")) M.2.1 M.1 hn i (pc9, .invokevirtual idx, len, (x, y9, z, w), c1, tb) = true) (hcc9 : zcc Y y.2.2.1 y.1.cls y.2.1 hn (pc9, .invokevirtual idx, len, (x, y9, z, w), c1, tb) = true)
    (hs : zsem zTX (.invokevirtual idx) x y9 z w c1 tb i ls st h = zCl k as rest) (hk : zMc zMT k as = some M') (hrun : zrun zTX zMT n d' M' 0 (zent as M'.2.1) [] h = some (o2, h2)) (hR1 : zc h2 ≤ c0 + R.cells) (hR2 : zs h2 ≤ s0 + R.slots)
    (kk : zGo p l e R s m args below meth c Q G M ad0 n0 c0 s0 i ls rest h2 o2) : zCfg p l e R s m args below meth c Q G M.1 M.2.1 ad0 n0 c0 s0 i ls st h := by
  obtain ⟨⟨hx, hb, hml, hown, hts⟩, X, -, -, -, -, htr, hRf, hRl⟩ := id F
  intro ad H locs lc pc cells slots hpc hag hn0 hrep hS hl hst hlv hcc hss
  have e9 : pc9 = pc := by
    simp only [zpcs, hcd, Option.map_some, Option.some.injEq] at hpc
    exact hpc
  subst e9
  simp only [zck, Bool.and_eq_true, decide_eq_true_eq, zfl] at hck
  obtain ⟨hd, rfl, hf⟩ := hck
  simp only [zsem] at hs
  split at hs
  · rename_i a k9 n9 as9 rest9 e1
    obtain ⟨hc9, e2⟩ := zcond hs
    simp only [Bool.and_eq_true] at hc9
    cases e2
    have hkw := Nat.eq_of_beq_eq_true hc9.1
    have hcat := Nat.le_of_ble_eq_true hc9.2
    subst hkw
    obtain ⟨bs, hb1, hb2, hb3⟩ := zpop_spec _ _ _ _ _ e1
    rw [List.append_nil] at hb2
    subst hb2
    subst hb3
    obtain ⟨hMT, hlen⟩ := zMc_spec hk
    obtain ⟨y2, hY2, hM2⟩ := hY k M' hMT
    simp only [zcc, hY2] at hcc9
    obtain ⟨yn, ycc, yret, yhh, yk⟩ := y2
    split at hcc9
    · rename_i yn9 ycc9 yret9 em
      cases em
      simp only [Bool.and_eq_true, decide_eq_true_eq] at hcc9
      obtain ⟨⟨⟨⟨hw1, hw2⟩, hw3⟩, hw4⟩, hw5⟩ := hcc9
      replace hM2 := (hM2.resolve_right (fun q => absurd (show (1 : Nat) = 3 from q.1) (by decide))).2
      obtain ⟨m1, m2, m3, m4, m5, -, m7, -⟩ := id hM2
      dsimp only at m1 m2 m3 m4 m5 m7 hw2
      have hall : ∀ v ∈ zr (a, k9, n9) :: as9, zok G (zK h) v := fun v hv => hst v (List.mem_append_left _ (List.mem_reverse.mpr hv))
      have hrest : ∀ v ∈ rest, zok G (zK h) v := fun v hv => hst v (List.mem_append_right _ hv)
      have hg := zrun_grow _ _ _ _ _ _ _ _ _ hrun
      obtain ⟨g1, g2, ext, g3⟩ := id hg
      obtain ⟨b, eb, hcell⟩ := zrecv X hrep hS hw3 (hall _ List.mem_cons_self)
      have hcs := zcv_cats (ad := ad) X.cat rest
      have S : CallFix p m c y.2.1 M.2.1 s args zTs y.1.cls := ⟨hx, hb, hml, hown, hts⟩
      have cB : CallB R s args y.1.cls idx yn ycc M'.2.1 yret (zWs (yn, ycc, yret, none, 1) M'.2.1) (zrm d' (zc h2 - zc h) (zs h2 - zs h)) (zc h2 - zc h) (zs h2 - zs h) (y9 - 1) :=
        callB_of (y9 - 1) hts (zgood m3) rfl rfl rfl (hts _ m4) (hts _ (zwd_in hw1)) ⟨m2.1, m2.2, hw4⟩ ⟨by show 10 + d' + 1 ≤ _; omega, by show 8 + (M'.2.1 + 11) + (200 + 60 * d') ≤ _; omega⟩
      have cw : CallW R s args y.1.cls (zkn k9) idx yn ycc M'.2.1 yret (zWs (yn, ycc, yret, none, 1) M'.2.1) (zrm d' (zc h2 - zc h) (zs h2 - zs h)) (zc h2 - zc h) (zs h2 - zs h) (y9 - 1) := ⟨cB, hts _ m7.1, by rw [← hw2]; exact hts _ m7.2⟩
      have hpr : PreV s H (zkn k9) b (zPc G ad (zr (a, k9, n9) :: as9) h) (as9.map (zcv G ad)) := ⟨zblind G ad _ h, hcell, fun U hU hW => by
        have := zpre (as := zr (a, k9, n9) :: as9) X hrep hS U hU hW
        rw [List.map_cons, eb] at this
        exact this⟩
      have hla : as9.length + 1 = y9 := by simpa using hb1
      have hstk : (F0 m pc9 lc (((zr (a, k9, n9) :: as9).reverse ++ rest).map (zcv G ad))).stack = (as9.map (zcv G ad)).reverse ++ .ref b :: rest.map (zcv G ad) := by
        show ((zr (a, k9, n9) :: as9).reverse ++ rest).map (zcv G ad) = _
        rw [zmap_rev, List.map_cons, List.reverse_cons, eb]
        simp
      have hroom : 2 * (F0 m pc9 lc (((zr (a, k9, n9) :: as9).reverse ++ rest).map (zcv G ad))).monitorRoom + ((rest.map (zcv G ad)).map fun v => v.category).sum ≤ 8 := by
        rw [hcs]
        show 2 * 0 + zcats rest ≤ 8
        omega
      cases o2 with
      | inl v =>
        have hMet := zmet_ret IH htr hM2 hrun hlen (ad := ad) hall (mc := zc h2 - zc h) (ms := zs h2 - zs h) rfl rfl
        have hR := va_runV (l := l) (e := e) (below := below) (meth := meth) (H := H) (locs := locs) (cells := cells) (slots := slots) S hMet cw hpr (g := F0 m pc9 lc (((zr (a, k9, n9) :: as9).reverse ++ rest).map (zcv G ad))) rfl (by simp; omega) hl.1 hstk hroom hd ⟨by omega, by omega⟩
        exact zrun_back hR hS hf hag hn0 hl hrest hlv hg (zrun_ret _ _ _ _ _ _ _ _ _ hrun) hcc hss rfl rfl (kk.1 v rfl)
      | inr x9 =>
        have hMet := zmet_thr IH htr hM2 hrun hlen (ad := ad) hall (mc := zc h2 - zc h) (ms := zs h2 - zs h) rfl rfl
        have hR := vx_runV (l := l) (e := e) (below := below) (meth := meth) (H := H) (locs := locs) (cells := cells) (slots := slots) S hMet cw hpr (g := F0 m pc9 lc (((zr (a, k9, n9) :: as9).reverse ++ rest).map (zcv G ad))) rfl (by simp; omega) hl.1 hstk hroom hd ⟨by omega, by omega⟩
        exact zrun_thrown hR hS hpc hag hn0 hl hrest hlv hg hcc hss rfl rfl (kk.2 x9 rfl (fun u hu => by rw [g3]; exact zok_app (hlv u hu)))
    · cases hcc9
  · cases hs
end CALLS
