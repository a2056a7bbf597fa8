theorem zts_spec {cd : List zA} {pc d : Nat} {v : Int32} : ∀ (tb : List (Int32 × Nat)) (lo : Int) (offs : List Int), zts1 cd pc tb lo offs = true → (∃ (n : Nat) (off : Int), offs[n]? = some off ∧ v.toInt = lo + n ∧ ztg cd (zsw tb d v) pc off = true) ∨ (zsw tb d v = d ∧ (v.toInt < lo ∨ lo + (offs.length : Int) ≤ v.toInt)) := by
  intro tb
  induction tb with
  | nil =>
    intro lo offs h
    cases offs with
    | nil => exact Or.inr ⟨rfl, by simp; omega⟩
    | cons a b => simp [zts1] at h
  | cons q tb ih =>
    intro lo offs h
    obtain ⟨a, t⟩ := q
    cases offs with
    | nil => simp [zts1] at h
    | cons off offs =>
      simp only [zts1, Bool.and_eq_true, decide_eq_true_eq] at h
      obtain ⟨⟨h1, h2⟩, h3⟩ := h
      by_cases e : v = a
      · subst e
        exact Or.inl ⟨0, off, rfl, by simp [h1], by simpa [zsw] using h2⟩
      · have e1 : zsw ((a, t) :: tb) d v = zsw tb d v := by simp [zsw, e]
        rw [e1]
        have hne : v.toInt ≠ lo := fun q => e (Int32.toInt_inj.mp (q.trans h1.symm))
        rcases ih (lo + 1) offs h3 with ⟨n, o9, g1, g2, g3⟩ | ⟨g1, g2⟩
        · exact Or.inl ⟨n + 1, o9, g1, by push_cast; omega, g3⟩
        · refine Or.inr ⟨g1, ?_⟩
          simp only [List.length_cons]
          push_cast
          omega
theorem zls_spec {cd : List zA} {pc x : Nat} {d : Int} {v : Int32} (hx : ztg cd x pc d = true) : ∀ (tb : List (Int32 × Nat)) (ps : List (Int × Int)), zls1 cd pc tb ps = true → ztg cd (zsw tb x v) pc (lookupswitch.offset ps d v.toInt) = true := by
  intro tb
  induction tb with
  | nil =>
    intro ps h
    cases ps with
    | nil => exact hx
    | cons a b => simp [zls1] at h
  | cons q tb ih =>
    intro ps h
    obtain ⟨a, t⟩ := q
    cases ps with
    | nil => simp [zls1] at h
    | cons o9 ps =>
      obtain ⟨k, off⟩ := o9
      simp only [zls1, Bool.and_eq_true, decide_eq_true_eq] at h
      obtain ⟨⟨h1, h2⟩, h3⟩ := h
      rw [lookupswitch.offset_cons]
      by_cases e : v = a
      · subst e
        rw [if_pos h1.symm]
        simpa [zsw] using h2
      · have hne : ¬ k = v.toInt := fun q => e (Int32.toInt_inj.mp (q.symm.trans h1.symm))
        rw [if_neg hne]
        have e1 : zsw ((a, t) :: tb) x v = zsw tb x v := by simp [zsw, e]
        rw [e1]
        exact ih ps h3
theorem zrf_eq {G : zCx} {ad : Nat → Nat} {r : Option zF} (h : ∀ q, r = some q → q.2.1 ≠ 34) : va_rf (r.map (zad G ad)) = zcv G ad (zq r) := by
  cases r with
  | none => rfl
  | some q =>
    have h1 := h q rfl
    unfold zcv
    dsimp only
    split
    · rename_i e; exact absurd e h1
    · rfl
theorem zRk_wR {h : zH} (hR : ∀ a k r, zR h a k = some r → r.2.1 ≠ 34) {b j : Nat} {v : Option zF} (hv : ∀ r, v = some r → r.2.1 ≠ 34) : ∀ a f r, zR (zwR h b j v) a f = some r → r.2.1 ≠ 34 := by
  intro a f r e
  have h1 : zR (zwR h b j v) a f = if a = b then (if f = j then v else zR h a f) else zR h a f := rfl
  rw [h1] at e
  split at e
  · split at e
    · exact hv r e
    · exact hR a f r e
  · exact hR a f r e
theorem zfv_ref {G : zCx} {ad : Nat → Nat} {h : zH} {j ci f : Nat} (e : zisr (zty ci f) = true) : zfv G ad h j ci f = zcv G ad (zq (zR h j f)) := by simp only [zfv, e]
theorem zfv_int {G : zCx} {ad : Nat → Nat} {h : zH} {j ci f : Nat} (e : zisr (zty ci f) = false) : zfv G ad h j ci f = .int (zI h j f) := by simp only [zfv, e]
section STEP
variable {p : Program} {l : Launch} {e : Env} {R : Room} {s : State} {m : MethodId} {args : Array Value} {below : List Frame} {meth : Method} {c : Code} {Q : State → Prop}
variable {G : zCx} {cd : List zA} {nL : Nat} {own : String} {cc : ByteArray} {ad0 : Nat → Nat} {n0 c0 s0 i j : Nat} {ls ls' : zLV} {st st' : List zV} {h h' : zH} {hn : Nat × Nat} {ini : Bool} {pc len x y z w : Nat} {c1 : Int32 × Int64} {tb : List (Int32 × Nat)}
theorem zone_tableswitch {d lo hi : Int} {offs : Array Int} (E : CallFix p m c cc nL s args zTs own) (X : zCX G s) (hcd : cd[i]? = some (pc, (.tableswitch d lo hi offs), len, (x, y, z, w), c1, tb)) (hck : zck own cc ini nL cd hn i (pc, (.tableswitch d lo hi offs), len, (x, y, z, w), c1, tb) = true) (hini : ini = true → meth.name = "<init>")
    (hR : 10 ≤ R.frames ∧ 200 ≤ R.locals ∧ zc h' ≤ c0 + R.cells ∧ zs h' ≤ s0 + R.slots) (hs : zsem zTX (.tableswitch d lo hi offs) x y z w c1 tb i ls st h = zNx j ls' st' h')
    (kk : zCfg p l e R s m args below meth c Q G cd nL ad0 n0 c0 s0 j ls' st' h') : zCfg p l e R s m args below meth c Q G cd nL ad0 n0 c0 s0 i ls st h := by
  obtain ⟨hx, hb, hml, hown, hts⟩ := E
  intro ad H locs lc pc9 cells slots hpc hag hn0 hrep hS hl hst hlv hcc hss
  have e9 : pc = pc9 := by
    simp only [zpcs, hcd, Option.map_some, Option.some.injEq] at hpc
    exact hpc
  subst e9
  simp only [zck, Bool.and_eq_true, decide_eq_true_eq, zfl] at hck
  obtain ⟨hd, ⟨ht, hts1⟩, hsz⟩ := hck
  dsimp only [zsem] at hs
  split at hs
  · rename_i a st9
    cases hs
    obtain ⟨t, h1, h2⟩ := ztg_spec ht
    rcases zts_spec (d := x) (v := a) tb lo offs.toList hts1 with ⟨n, off, g1, g2, g3⟩ | ⟨g1, g2⟩
    · obtain ⟨t2, h3, h4⟩ := ztg_spec g3
      have hn2 : n < offs.size := by have := (List.getElem?_eq_some_iff.mp g1).1; simpa using this
      refine lv_tableIn (x := a) (off := off) (tgt := t2) (rest := st'.map (zcv G ad)) hx hb hd (by omega) (by omega) (by rw [g2, show (lo + (n : Int) - lo).toNat = n by omega]; rw [← Array.getElem?_toList]; exact g1) h4 ?_
      exact kk ad H locs lc _ cells slots h3 hag hn0 hrep hS hl (zokt hst) hlv hcc hss
    · refine lv_tableOut (x := a) (tgt := t) (rest := st'.map (zcv G ad)) hx hb hd (by rw [Array.length_toList] at g2; omega) h2 ?_
      exact kk ad H locs lc _ cells slots (by rw [g1]; exact h1) hag hn0 hrep hS hl (zokt hst) hlv hcc hss
  · cases hs
theorem zone_lookupswitch {d : Int} {ps : Array (Int × Int)} (E : CallFix p m c cc nL s args zTs own) (X : zCX G s) (hcd : cd[i]? = some (pc, (.lookupswitch d ps), len, (x, y, z, w), c1, tb)) (hck : zck own cc ini nL cd hn i (pc, (.lookupswitch d ps), len, (x, y, z, w), c1, tb) = true) (hini : ini = true → meth.name = "<init>")
    (hR : 10 ≤ R.frames ∧ 200 ≤ R.locals ∧ zc h' ≤ c0 + R.cells ∧ zs h' ≤ s0 + R.slots) (hs : zsem zTX (.lookupswitch d ps) x y z w c1 tb i ls st h = zNx j ls' st' h')
    (kk : zCfg p l e R s m args below meth c Q G cd nL ad0 n0 c0 s0 j ls' st' h') : zCfg p l e R s m args below meth c Q G cd nL ad0 n0 c0 s0 i ls st h := by
  obtain ⟨hx, hb, hml, hown, hts⟩ := E
  intro ad H locs lc pc9 cells slots hpc hag hn0 hrep hS hl hst hlv hcc hss
  have e9 : pc = pc9 := by
    simp only [zpcs, hcd, Option.map_some, Option.some.injEq] at hpc
    exact hpc
  subst e9
  simp only [zck, Bool.and_eq_true, decide_eq_true_eq, zfl] at hck
  obtain ⟨hd, ⟨ht, hl1⟩, hord⟩ := hck
  dsimp only [zsem] at hs
  split at hs
  · rename_i a st9
    cases hs
    obtain ⟨t2, h3, h4⟩ := ztg_spec (zls_spec (v := a) ht tb ps.toList hl1)
    refine lv_lookup (x := a) (tgt := t2) (rest := st'.map (zcv G ad)) hx hb hd hord rfl h4 ?_
    exact kk ad H locs lc _ cells slots h3 hag hn0 hrep hS hl (zokt hst) hlv hcc hss
  · cases hs
theorem zone_iaload (E : CallFix p m c cc nL s args zTs own) (X : zCX G s) (hcd : cd[i]? = some (pc, .iaload, len, (x, y, z, w), c1, tb)) (hck : zck own cc ini nL cd hn i (pc, .iaload, len, (x, y, z, w), c1, tb) = true) (hini : ini = true → meth.name = "<init>")
    (hR : 10 ≤ R.frames ∧ 200 ≤ R.locals ∧ zc h' ≤ c0 + R.cells ∧ zs h' ≤ s0 + R.slots) (hs : zsem zTX .iaload x y z w c1 tb i ls st h = zNx j ls' st' h')
    (kk : zCfg p l e R s m args below meth c Q G cd nL ad0 n0 c0 s0 j ls' st' h') : zCfg p l e R s m args below meth c Q G cd nL ad0 n0 c0 s0 i ls st h := by
  obtain ⟨hx, hb, hml, hown, hts⟩ := E
  intro ad H locs lc pc9 cells slots hpc hag hn0 hrep hS hl hst hlv hcc hss
  have e9 : pc = pc9 := by
    simp only [zpcs, hcd, Option.map_some, Option.some.injEq] at hpc
    exact hpc
  subst e9
  simp only [zck, Bool.and_eq_true, decide_eq_true_eq, zfl] at hck
  obtain ⟨hd, rfl, hf⟩ := hck
  dsimp only [zsem] at hs
  split at hs
  · rename_i j a k n st9
    split at hs
    · skip
      obtain ⟨hi9, e1⟩ := zcond hs
      cases e1
      have ek : (zK h)[a]? = some (20, n) := (zok_new (by decide)).mp (zokh (zokt hst))
      refine va_iald (i := j) (rest := st9.map (zcv G ad)) hx hb X.1 hrep.1 a 0 (zws_get G ad ek) rfl (zin_spec hi9) hd ?_
      exact kk ad H locs lc _ cells slots hf hag hn0 hrep hS hl (zokc trivial (zokt (zokt hst))) hlv hcc hss
    · skip
      obtain ⟨hi9, e1⟩ := zcond hs
      cases e1
      refine va_ti (i := j) (t := gR G) (N := 10) (f := fun q => .int (zrk q)) (rest := st9.map (zcv G ad)) hx hb X.2.2.2.2.1 hS (zin_spec hi9) rfl hd ?_
      exact kk ad H locs lc _ cells slots hf hag hn0 hrep hS hl (zokc trivial (zokt (zokt hst))) hlv hcc hss
    · skip
      obtain ⟨hi9, e1⟩ := zcond hs
      cases e1
      have en : n = gL G := zokh (zokt hst)
      subst en
      refine va_sld (i := j) (b := gX G) (L := gL G) (xs := gx G) (rest := st9.map (zcv G ad)) hx hb X.2.2.2.2.2.2.2.2.2.1 (by have := X.2.2.2.2.2.2.2.2.2.2.1; have := X.2.2.2.2.2.2.2.2.2.2.2.1; omega) (by have := X.2.2.2.2.2.2.2.2.2.2.1; unfold zAf; omega) hS (zin_spec hi9) hd ?_
      have ex : zX h = gx G := hrep.2.2.2.1
      rw [← ex]
      exact kk ad H locs lc _ cells slots hf hag hn0 hrep hS hl (zokc trivial (zokt (zokt hst))) hlv hcc hss
    · cases hs
  · cases hs
theorem zone_baload (E : CallFix p m c cc nL s args zTs own) (X : zCX G s) (hcd : cd[i]? = some (pc, .baload, len, (x, y, z, w), c1, tb)) (hck : zck own cc ini nL cd hn i (pc, .baload, len, (x, y, z, w), c1, tb) = true) (hini : ini = true → meth.name = "<init>")
    (hR : 10 ≤ R.frames ∧ 200 ≤ R.locals ∧ zc h' ≤ c0 + R.cells ∧ zs h' ≤ s0 + R.slots) (hs : zsem zTX .baload x y z w c1 tb i ls st h = zNx j ls' st' h')
    (kk : zCfg p l e R s m args below meth c Q G cd nL ad0 n0 c0 s0 j ls' st' h') : zCfg p l e R s m args below meth c Q G cd nL ad0 n0 c0 s0 i ls st h := by
  obtain ⟨hx, hb, hml, hown, hts⟩ := E
  intro ad H locs lc pc9 cells slots hpc hag hn0 hrep hS hl hst hlv hcc hss
  have e9 : pc = pc9 := by
    simp only [zpcs, hcd, Option.map_some, Option.some.injEq] at hpc
    exact hpc
  subst e9
  simp only [zck, Bool.and_eq_true, decide_eq_true_eq, zfl] at hck
  obtain ⟨hd, rfl, hf⟩ := hck
  dsimp only [zsem] at hs
  split at hs
  · rename_i j a k n st9
    split at hs
    · skip
      obtain ⟨hi9, e1⟩ := zcond hs
      cases e1
      have ek : (zK h)[a]? = some (21, n) := (zok_new (by decide)).mp (zokh (zokt hst))
      refine va_bald (i := j) (rest := st9.map (zcv G ad)) hx hb X.1 hrep.1 a 1 (zws_get G ad ek) rfl (zin_spec hi9) hd ?_
      exact kk ad H locs lc _ cells slots hf hag hn0 hrep hS hl (zokc trivial (zokt (zokt hst))) hlv hcc hss
    · skip
      obtain ⟨hi9, e1⟩ := zcond hs
      cases e1
      have ek : (zK h)[a]? = some (22, n) := (zok_new (by decide)).mp (zokh (zokt hst))
      refine va_zald (i := j) (rest := st9.map (zcv G ad)) hx hb X.1 hrep.1 a 2 (zws_get G ad ek) rfl (zin_spec hi9) hd ?_
      exact kk ad H locs lc _ cells slots hf hag hn0 hrep hS hl (zokc trivial (zokt (zokt hst))) hlv hcc hss
    · skip
      obtain ⟨hi9, e1⟩ := zcond hs
      cases e1
      have en : a < 45 ∧ n = zbl zTX a := zokh (zokt hst)
      obtain ⟨en, rfl⟩ := en
      refine va_tb (i := j) (t := gV G a) (N := zbl zTX a) (f := fun q => .int (zby zTX a q)) (rest := st9.map (zcv G ad)) hx hb (X.2.1 a en).2.2.2 hS (zin_spec hi9) rfl hd ?_
      exact kk ad H locs lc _ cells slots hf hag hn0 hrep hS hl (zokc trivial (zokt (zokt hst))) hlv hcc hss
    · cases hs
  · cases hs
theorem zone_laload (E : CallFix p m c cc nL s args zTs own) (X : zCX G s) (hcd : cd[i]? = some (pc, .laload, len, (x, y, z, w), c1, tb)) (hck : zck own cc ini nL cd hn i (pc, .laload, len, (x, y, z, w), c1, tb) = true) (hini : ini = true → meth.name = "<init>")
    (hR : 10 ≤ R.frames ∧ 200 ≤ R.locals ∧ zc h' ≤ c0 + R.cells ∧ zs h' ≤ s0 + R.slots) (hs : zsem zTX .laload x y z w c1 tb i ls st h = zNx j ls' st' h')
    (kk : zCfg p l e R s m args below meth c Q G cd nL ad0 n0 c0 s0 j ls' st' h') : zCfg p l e R s m args below meth c Q G cd nL ad0 n0 c0 s0 i ls st h := by
  obtain ⟨hx, hb, hml, hown, hts⟩ := E
  intro ad H locs lc pc9 cells slots hpc hag hn0 hrep hS hl hst hlv hcc hss
  have e9 : pc = pc9 := by
    simp only [zpcs, hcd, Option.map_some, Option.some.injEq] at hpc
    exact hpc
  subst e9
  simp only [zck, Bool.and_eq_true, decide_eq_true_eq, zfl] at hck
  obtain ⟨hd, rfl, hf⟩ := hck
  dsimp only [zsem] at hs
  split at hs
  · rename_i j a n st9
    obtain ⟨hi9, e1⟩ := zcond hs
    cases e1
    have ek : (zK h)[a]? = some (23, n) := (zok_new (by decide)).mp (zokh (zokt hst))
    refine va_lald (i := j) (rest := st9.map (zcv G ad)) hx hb X.1 hrep.1 a 3 (zws_get G ad ek) rfl (zin_spec hi9) hd ?_
    exact kk ad H locs lc _ cells slots hf hag hn0 hrep hS hl (zokc trivial (zokt (zokt hst))) hlv hcc hss
  · cases hs
theorem zone_aaload (E : CallFix p m c cc nL s args zTs own) (X : zCX G s) (hcd : cd[i]? = some (pc, .aaload, len, (x, y, z, w), c1, tb)) (hck : zck own cc ini nL cd hn i (pc, .aaload, len, (x, y, z, w), c1, tb) = true) (hini : ini = true → meth.name = "<init>")
    (hR : 10 ≤ R.frames ∧ 200 ≤ R.locals ∧ zc h' ≤ c0 + R.cells ∧ zs h' ≤ s0 + R.slots) (hs : zsem zTX .aaload x y z w c1 tb i ls st h = zNx j ls' st' h')
    (kk : zCfg p l e R s m args below meth c Q G cd nL ad0 n0 c0 s0 j ls' st' h') : zCfg p l e R s m args below meth c Q G cd nL ad0 n0 c0 s0 i ls st h := by
  obtain ⟨hx, hb, hml, hown, hts⟩ := E
  intro ad H locs lc pc9 cells slots hpc hag hn0 hrep hS hl hst hlv hcc hss
  have e9 : pc = pc9 := by
    simp only [zpcs, hcd, Option.map_some, Option.some.injEq] at hpc
    exact hpc
  subst e9
  simp only [zck, Bool.and_eq_true, decide_eq_true_eq, zfl] at hck
  obtain ⟨hd, rfl, hf⟩ := hck
  dsimp only [zsem] at hs
  split at hs
  · rename_i j a n st9
    obtain ⟨hi9, e1⟩ := zcond hs
    cases e1
    have ek : (zK h)[a]? = some (24, n) := (zok_new (by decide)).mp (zokh (zokt hst))
    have k0 : W p l e R s m args below meth c H locs cells slots Q (F0 m (pc + 1) lc (zcv G ad (zq (zR h a j.toNatClampNeg)) :: st9.map (zcv G ad))) := by
      have k9 : zok G (zK h) (zq (zR h a j.toNatClampNeg)) := by
        cases e2 : zR h a j.toNatClampNeg with
        | none => trivial
        | some r => exact hrep.2.2.1 _ _ _ e2
      exact kk ad H locs lc _ cells slots hf hag hn0 hrep hS hl (zokc k9 (zokt (zokt hst))) hlv hcc hss
    rw [← zrf_eq (fun q e2 => hrep.2.2.2.2 _ _ _ e2)] at k0
    exact va_aldq (i := j) (rest := st9.map (zcv G ad)) hx hb X.1 hrep.1 a 4 (zws_get G ad ek) rfl (zin_spec hi9) hd k0
  · cases hs
theorem zone_iastore (E : CallFix p m c cc nL s args zTs own) (X : zCX G s) (hcd : cd[i]? = some (pc, .iastore, len, (x, y, z, w), c1, tb)) (hck : zck own cc ini nL cd hn i (pc, .iastore, len, (x, y, z, w), c1, tb) = true) (hini : ini = true → meth.name = "<init>")
    (hR : 10 ≤ R.frames ∧ 200 ≤ R.locals ∧ zc h' ≤ c0 + R.cells ∧ zs h' ≤ s0 + R.slots) (hs : zsem zTX .iastore x y z w c1 tb i ls st h = zNx j ls' st' h')
    (kk : zCfg p l e R s m args below meth c Q G cd nL ad0 n0 c0 s0 j ls' st' h') : zCfg p l e R s m args below meth c Q G cd nL ad0 n0 c0 s0 i ls st h := by
  obtain ⟨hx, hb, hml, hown, hts⟩ := E
  intro ad H locs lc pc9 cells slots hpc hag hn0 hrep hS hl hst hlv hcc hss
  have e9 : pc = pc9 := by
    simp only [zpcs, hcd, Option.map_some, Option.some.injEq] at hpc
    exact hpc
  subst e9
  simp only [zck, Bool.and_eq_true, decide_eq_true_eq, zfl] at hck
  obtain ⟨hd, rfl, hf⟩ := hck
  dsimp only [zsem] at hs
  split at hs
  · rename_i v j a n st9
    obtain ⟨hi9, e1⟩ := zcond hs
    cases e1
    have ek : (zK h)[a]? = some (20, n) := (zok_new (by decide)).mp (zokh (zokt (zokt hst)))
    refine va_iast (i := j) (x := v) (rest := st'.map (zcv G ad)) hx hb X.1 hrep.1 hrep.2.1 hS a 0 (zws_get G ad ek) rfl (zin_spec hi9) hd (fun H1 locs1 g1 g2 g3 => ?_)
    have ew := zws_wI_arr G ad ek (Or.inl rfl) j.toNatClampNeg v
    exact kk ad H1 locs1 lc _ cells slots hf hag hn0 ⟨by rw [ew]; exact g1, by rw [ew]; exact g2, hrep.2.2⟩ g3 hl (zokt (zokt (zokt hst))) hlv hcc hss
  · cases hs
theorem zone_bastore (E : CallFix p m c cc nL s args zTs own) (X : zCX G s) (hcd : cd[i]? = some (pc, .bastore, len, (x, y, z, w), c1, tb)) (hck : zck own cc ini nL cd hn i (pc, .bastore, len, (x, y, z, w), c1, tb) = true) (hini : ini = true → meth.name = "<init>")
    (hR : 10 ≤ R.frames ∧ 200 ≤ R.locals ∧ zc h' ≤ c0 + R.cells ∧ zs h' ≤ s0 + R.slots) (hs : zsem zTX .bastore x y z w c1 tb i ls st h = zNx j ls' st' h')
    (kk : zCfg p l e R s m args below meth c Q G cd nL ad0 n0 c0 s0 j ls' st' h') : zCfg p l e R s m args below meth c Q G cd nL ad0 n0 c0 s0 i ls st h := by
  obtain ⟨hx, hb, hml, hown, hts⟩ := E
  intro ad H locs lc pc9 cells slots hpc hag hn0 hrep hS hl hst hlv hcc hss
  have e9 : pc = pc9 := by
    simp only [zpcs, hcd, Option.map_some, Option.some.injEq] at hpc
    exact hpc
  subst e9
  simp only [zck, Bool.and_eq_true, decide_eq_true_eq, zfl] at hck
  obtain ⟨hd, rfl, hf⟩ := hck
  dsimp only [zsem] at hs
  split at hs
  · rename_i v j a k n st9
    split at hs
    · skip
      obtain ⟨hi9, e1⟩ := zcond hs
      cases e1
      have ek : (zK h)[a]? = some (21, n) := (zok_new (by decide)).mp (zokh (zokt (zokt hst)))
      refine va_bast (i := j) (x := v) (rest := st'.map (zcv G ad)) hx hb X.1 hrep.1 hrep.2.1 hS a 1 (zws_get G ad ek) rfl (zin_spec hi9) hd (fun H1 locs1 g1 g2 g3 => ?_)
      have ew := zws_wI_arr G ad ek (Or.inr (Or.inl rfl)) j.toNatClampNeg v.toInt8.toInt32
      exact kk ad H1 locs1 lc _ cells slots hf hag hn0 ⟨by rw [ew]; exact g1, by rw [ew]; exact g2, hrep.2.2⟩ g3 hl (zokt (zokt (zokt hst))) hlv hcc hss
    · skip
      obtain ⟨hi9, e1⟩ := zcond hs
      cases e1
      have ek : (zK h)[a]? = some (22, n) := (zok_new (by decide)).mp (zokh (zokt (zokt hst)))
      refine va_zast (i := j) (x := v) (rest := st'.map (zcv G ad)) hx hb X.1 hrep.1 hrep.2.1 hS a 2 (zws_get G ad ek) rfl (zin_spec hi9) hd (fun H1 locs1 g1 g2 g3 => ?_)
      have ew := zws_wI_arr G ad ek (Or.inr (Or.inr rfl)) j.toNatClampNeg (v &&& 1)
      exact kk ad H1 locs1 lc _ cells slots hf hag hn0 ⟨by rw [ew]; exact g1, by rw [ew]; exact g2, hrep.2.2⟩ g3 hl (zokt (zokt (zokt hst))) hlv hcc hss
    · cases hs
  · cases hs
theorem zone_lastore (E : CallFix p m c cc nL s args zTs own) (X : zCX G s) (hcd : cd[i]? = some (pc, .lastore, len, (x, y, z, w), c1, tb)) (hck : zck own cc ini nL cd hn i (pc, .lastore, len, (x, y, z, w), c1, tb) = true) (hini : ini = true → meth.name = "<init>")
    (hR : 10 ≤ R.frames ∧ 200 ≤ R.locals ∧ zc h' ≤ c0 + R.cells ∧ zs h' ≤ s0 + R.slots) (hs : zsem zTX .lastore x y z w c1 tb i ls st h = zNx j ls' st' h')
    (kk : zCfg p l e R s m args below meth c Q G cd nL ad0 n0 c0 s0 j ls' st' h') : zCfg p l e R s m args below meth c Q G cd nL ad0 n0 c0 s0 i ls st h := by
  obtain ⟨hx, hb, hml, hown, hts⟩ := E
  intro ad H locs lc pc9 cells slots hpc hag hn0 hrep hS hl hst hlv hcc hss
  have e9 : pc = pc9 := by
    simp only [zpcs, hcd, Option.map_some, Option.some.injEq] at hpc
    exact hpc
  subst e9
  simp only [zck, Bool.and_eq_true, decide_eq_true_eq, zfl] at hck
  obtain ⟨hd, rfl, hf⟩ := hck
  dsimp only [zsem] at hs
  split at hs
  · rename_i v j a n st9
    obtain ⟨hi9, e1⟩ := zcond hs
    cases e1
    have ek : (zK h)[a]? = some (23, n) := (zok_new (by decide)).mp (zokh (zokt (zokt hst)))
    refine va_last (i := j) (x := v) (rest := st'.map (zcv G ad)) hx hb X.1 hrep.1 hrep.2.1 hS a 3 (zws_get G ad ek) rfl (zin_spec hi9) hd (fun H1 locs1 g1 g2 g3 => ?_)
    have ew := zws_wL G ad ek j.toNatClampNeg v
    exact kk ad H1 locs1 lc _ cells slots hf hag hn0 ⟨by rw [ew]; exact g1, by rw [ew]; exact g2, hrep.2.2⟩ g3 hl (zokt (zokt (zokt hst))) hlv hcc hss
  · cases hs
theorem zone_aastore (E : CallFix p m c cc nL s args zTs own) (X : zCX G s) (hcd : cd[i]? = some (pc, .aastore, len, (x, y, z, w), c1, tb)) (hck : zck own cc ini nL cd hn i (pc, .aastore, len, (x, y, z, w), c1, tb) = true) (hini : ini = true → meth.name = "<init>")
    (hR : 10 ≤ R.frames ∧ 200 ≤ R.locals ∧ zc h' ≤ c0 + R.cells ∧ zs h' ≤ s0 + R.slots) (hs : zsem zTX .aastore x y z w c1 tb i ls st h = zNx j ls' st' h')
    (kk : zCfg p l e R s m args below meth c Q G cd nL ad0 n0 c0 s0 j ls' st' h') : zCfg p l e R s m args below meth c Q G cd nL ad0 n0 c0 s0 i ls st h := by
  obtain ⟨hx, hb, hml, hown, hts⟩ := E
  intro ad H locs lc pc9 cells slots hpc hag hn0 hrep hS hl hst hlv hcc hss
  have e9 : pc = pc9 := by
    simp only [zpcs, hcd, Option.map_some, Option.some.injEq] at hpc
    exact hpc
  subst e9
  simp only [zck, Bool.and_eq_true, decide_eq_true_eq, zfl] at hck
  obtain ⟨hd, rfl, hf⟩ := hck
  dsimp only [zsem] at hs
  split at hs
  · rename_i b e8 j a n st9
    obtain ⟨hi9, e1⟩ := zcond hs
    cases e1
    have ek : (zK h)[a]? = some (24, n) := (zok_new (by decide)).mp (zokh (zokt (zokt hst)))
    have hb9 : b < 45 := zokh hst
    obtain ⟨cell, c1, c2, c3, c4⟩ := (X.2.1 b hb9).1.kept hS.2.1
    obtain ⟨kC, hkC, -⟩ := Vm.findClass_spec c3
    have hany : va_Any "java/lang/String" s H (gS G b) := ⟨cell, c1, c2, ⟨kC, hkC⟩, fun comp q => by rw [c3] at q; cases q; exact va_asg _ _⟩
    refine va_astqM (E := "java/lang/String") (i := j) (v := gS G b) (rest := st'.map (zcv G ad)) hx hb X.1 hrep.1 hrep.2.1 hS a 4 (zws_get G ad ek) rfl hany (zin_spec hi9) hd (fun H1 locs1 g1 g2 g3 => ?_)
    have ew := zws_wR_arr G ad ek j.toNatClampNeg (b, 30, e8)
    have r1 := zRok_wR (G := G) (h := h) hrep.2.2.1 (b := a) (j := j.toNatClampNeg) (v := some (b, 30, e8)) (fun r q => by cases q; exact hb9)
    have r2 : ∀ a9 k9 r, zR (zwR h a j.toNatClampNeg (some (b, 30, e8))) a9 k9 = some r → r.2.1 ≠ 34 := zRk_wR hrep.2.2.2.2 (fun r q => by cases q; show (30 : Nat) ≠ 34; decide)
    exact kk ad H1 locs1 lc _ cells slots hf hag hn0 ⟨by rw [ew]; exact g1, by rw [ew]; exact g2, r1, hrep.2.2.2.1, r2⟩ g3 hl (zokt (zokt (zokt hst))) hlv hcc hss
  · cases hs
theorem zone_arraylength (E : CallFix p m c cc nL s args zTs own) (X : zCX G s) (hcd : cd[i]? = some (pc, .arraylength, len, (x, y, z, w), c1, tb)) (hck : zck own cc ini nL cd hn i (pc, .arraylength, len, (x, y, z, w), c1, tb) = true) (hini : ini = true → meth.name = "<init>")
    (hR : 10 ≤ R.frames ∧ 200 ≤ R.locals ∧ zc h' ≤ c0 + R.cells ∧ zs h' ≤ s0 + R.slots) (hs : zsem zTX .arraylength x y z w c1 tb i ls st h = zNx j ls' st' h')
    (kk : zCfg p l e R s m args below meth c Q G cd nL ad0 n0 c0 s0 j ls' st' h') : zCfg p l e R s m args below meth c Q G cd nL ad0 n0 c0 s0 i ls st h := by
  obtain ⟨hx, hb, hml, hown, hts⟩ := E
  intro ad H locs lc pc9 cells slots hpc hag hn0 hrep hS hl hst hlv hcc hss
  have e9 : pc = pc9 := by
    simp only [zpcs, hcd, Option.map_some, Option.some.injEq] at hpc
    exact hpc
  subst e9
  simp only [zck, Bool.and_eq_true, decide_eq_true_eq, zfl] at hck
  obtain ⟨hd, rfl, hf⟩ := hck
  dsimp only [zsem] at hs
  split at hs
  · rename_i a k n st9
    split at hs
    · skip
      cases hs
      have ek : (zK h)[a]? = some (20, n) := (zok_new (by decide)).mp (zokh hst)
      refine va_alen (rest := st9.map (zcv G ad)) hx hb X.1 hrep.1 a 0 (zws_get G ad ek) (ty := .int) rfl rfl hd ?_
      exact kk ad H locs lc _ cells slots hf hag hn0 hrep hS hl (zokc trivial (zokt hst)) hlv hcc hss
    · skip
      cases hs
      have ek : (zK h)[a]? = some (23, n) := (zok_new (by decide)).mp (zokh hst)
      refine va_alen (rest := st9.map (zcv G ad)) hx hb X.1 hrep.1 a 3 (zws_get G ad ek) (ty := .long) rfl rfl hd ?_
      exact kk ad H locs lc _ cells slots hf hag hn0 hrep hS hl (zokc trivial (zokt hst)) hlv hcc hss
    · skip
      cases hs
      have ek : (zK h)[a]? = some (24, n) := (zok_new (by decide)).mp (zokh hst)
      refine va_alen (rest := st9.map (zcv G ad)) hx hb X.1 hrep.1 a 4 (zws_get G ad ek) (ty := .object "java/lang/String") rfl rfl hd ?_
      exact kk ad H locs lc _ cells slots hf hag hn0 hrep hS hl (zokc trivial (zokt hst)) hlv hcc hss
    · skip
      cases hs
      have en : n = gL G := zokh hst
      subst en
      refine va_slen (b := gX G) (L := gL G) (xs := gx G) (rest := st9.map (zcv G ad)) hx hb X.2.2.2.2.2.2.2.2.2.1 (by have := X.2.2.2.2.2.2.2.2.2.2.1; have := X.2.2.2.2.2.2.2.2.2.2.2.1; omega) (by have := X.2.2.2.2.2.2.2.2.2.2.1; unfold zAf; omega) hS hd ?_
      exact kk ad H locs lc _ cells slots hf hag hn0 hrep hS hl (zokc trivial (zokt hst)) hlv hcc hss
    · skip
      cases hs
      have en : a < 45 ∧ n = zbl zTX a := zokh hst
      obtain ⟨en, rfl⟩ := en
      refine va_tlen (t := gV G a) (N := zbl zTX a) (f := fun q => .int (zby zTX a q)) (ty := .byte) (rest := st9.map (zcv G ad)) hx hb (X.2.1 a en).2.2.2 hS rfl hd ?_
      exact kk ad H locs lc _ cells slots hf hag hn0 hrep hS hl (zokc trivial (zokt hst)) hlv hcc hss
    · cases hs
  · cases hs
end STEP
