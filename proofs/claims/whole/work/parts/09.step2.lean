section STEP
variable {p : Program} {l : Launch} {e : Env} {R : Room} {s : State} {m : MethodId} {args : Array Value} {below : List Frame} {meth : Method} {c : Code} {Q : State → Prop}
variable {G : zCx} {cd : List zA} {nL : Nat} {own : String} {cc : ByteArray} {ad0 : Nat → Nat} {n0 c0 s0 i j : Nat} {ls ls' : zLV} {st st' : List zV} {h h' : zH} {hn : Nat × Nat} {ini : Bool} {pc len x y z w : Nat} {c1 : Int32 × Int64} {tb : List (Int32 × Nat)}
theorem zone_istore_n {n : Fin 4} (E : CallFix p m c cc nL s args zTs own) (X : zCX G s) (hcd : cd[i]? = some (pc, (.istore_n n), len, (x, y, z, w), c1, tb)) (hck : zck own cc ini nL cd hn i (pc, (.istore_n n), len, (x, y, z, w), c1, tb) = true) (hini : ini = true → meth.name = "<init>")
    (hR : 10 ≤ R.frames ∧ 200 ≤ R.locals ∧ zc h' ≤ c0 + R.cells ∧ zs h' ≤ s0 + R.slots) (hs : zsem zTX (.istore_n n) x y z w c1 tb i ls st h = zNx j ls' st' h')
    (kk : zCfg p l e R s m args below meth c Q G cd nL ad0 n0 c0 s0 j ls' st' h') : zCfg p l e R s m args below meth c Q G cd nL ad0 n0 c0 s0 i ls st h := by
  obtain ⟨hx, hb, hml, hown, hts⟩ := E
  intro ad H locs lc pc9 cells slots hpc hag hn0 hrep hS hl hst hlv hcc hss
  have e9 : pc = pc9 := by
    simp only [zpcs, hcd, Option.map_some, Option.some.injEq] at hpc
    exact hpc
  subst e9
  simp only [zck, Bool.and_eq_true, decide_eq_true_eq, zfl] at hck
  obtain ⟨hd, ⟨⟨rfl, hf⟩, hv⟩, hxn⟩ := hck
  dsimp only [zsem] at hs
  split at hs
  · rename_i v st9
    cases hs
    refine lv_istore_n (x := v) hx hb hd hv hl.has hxn rfl (fun lc2 hl2 => ?_)
    exact kk ad H locs lc2 _ cells slots hf hag hn0 hrep hS (hl.store X.cat (v := zi v) hl2) (zokt hst) (zst_ok hlv trivial) hcc hss
  · cases hs
theorem zone_istore {n : Nat} (E : CallFix p m c cc nL s args zTs own) (X : zCX G s) (hcd : cd[i]? = some (pc, (.istore n), len, (x, y, z, w), c1, tb)) (hck : zck own cc ini nL cd hn i (pc, (.istore n), len, (x, y, z, w), c1, tb) = true) (hini : ini = true → meth.name = "<init>")
    (hR : 10 ≤ R.frames ∧ 200 ≤ R.locals ∧ zc h' ≤ c0 + R.cells ∧ zs h' ≤ s0 + R.slots) (hs : zsem zTX (.istore n) x y z w c1 tb i ls st h = zNx j ls' st' h')
    (kk : zCfg p l e R s m args below meth c Q G cd nL ad0 n0 c0 s0 j ls' st' h') : zCfg p l e R s m args below meth c Q G cd nL ad0 n0 c0 s0 i ls st h := by
  obtain ⟨hx, hb, hml, hown, hts⟩ := E
  intro ad H locs lc pc9 cells slots hpc hag hn0 hrep hS hl hst hlv hcc hss
  have e9 : pc = pc9 := by
    simp only [zpcs, hcd, Option.map_some, Option.some.injEq] at hpc
    exact hpc
  subst e9
  simp only [zck, Bool.and_eq_true, decide_eq_true_eq, zfl] at hck
  obtain ⟨hd, ⟨⟨rfl, hf⟩, hv⟩, hxn⟩ := hck
  dsimp only [zsem] at hs
  split at hs
  · rename_i v st9
    cases hs
    refine lv_istore (x := v) hx hb (by rw [hv] at hd; exact hd) hl.has hxn rfl (fun lc2 hl2 => ?_)
    exact kk ad H locs lc2 _ cells slots hf hag hn0 hrep hS (hl.store X.cat (v := zi v) hl2) (zokt hst) (zst_ok hlv trivial) hcc hss
  · cases hs
theorem zone_lstore_n {n : Fin 4} (E : CallFix p m c cc nL s args zTs own) (X : zCX G s) (hcd : cd[i]? = some (pc, (.lstore_n n), len, (x, y, z, w), c1, tb)) (hck : zck own cc ini nL cd hn i (pc, (.lstore_n n), len, (x, y, z, w), c1, tb) = true) (hini : ini = true → meth.name = "<init>")
    (hR : 10 ≤ R.frames ∧ 200 ≤ R.locals ∧ zc h' ≤ c0 + R.cells ∧ zs h' ≤ s0 + R.slots) (hs : zsem zTX (.lstore_n n) x y z w c1 tb i ls st h = zNx j ls' st' h')
    (kk : zCfg p l e R s m args below meth c Q G cd nL ad0 n0 c0 s0 j ls' st' h') : zCfg p l e R s m args below meth c Q G cd nL ad0 n0 c0 s0 i ls st h := by
  obtain ⟨hx, hb, hml, hown, hts⟩ := E
  intro ad H locs lc pc9 cells slots hpc hag hn0 hrep hS hl hst hlv hcc hss
  have e9 : pc = pc9 := by
    simp only [zpcs, hcd, Option.map_some, Option.some.injEq] at hpc
    exact hpc
  subst e9
  simp only [zck, Bool.and_eq_true, decide_eq_true_eq, zfl] at hck
  obtain ⟨hd, ⟨⟨rfl, hf⟩, hv⟩, hxn⟩ := hck
  dsimp only [zsem] at hs
  split at hs
  · rename_i v st9
    cases hs
    refine lv_lstore_n (x := v) hx hb hd hv hl.has hxn rfl (fun lc2 hl2 => ?_)
    exact kk ad H locs lc2 _ cells slots hf hag hn0 hrep hS (hl.store2 X.cat (v := zl v) hl2) (zokt hst) (zst2_ok hlv trivial) hcc hss
  · cases hs
theorem zone_astore_n {n : Fin 4} (E : CallFix p m c cc nL s args zTs own) (X : zCX G s) (hcd : cd[i]? = some (pc, (.astore_n n), len, (x, y, z, w), c1, tb)) (hck : zck own cc ini nL cd hn i (pc, (.astore_n n), len, (x, y, z, w), c1, tb) = true) (hini : ini = true → meth.name = "<init>")
    (hR : 10 ≤ R.frames ∧ 200 ≤ R.locals ∧ zc h' ≤ c0 + R.cells ∧ zs h' ≤ s0 + R.slots) (hs : zsem zTX (.astore_n n) x y z w c1 tb i ls st h = zNx j ls' st' h')
    (kk : zCfg p l e R s m args below meth c Q G cd nL ad0 n0 c0 s0 j ls' st' h') : zCfg p l e R s m args below meth c Q G cd nL ad0 n0 c0 s0 i ls st h := by
  obtain ⟨hx, hb, hml, hown, hts⟩ := E
  intro ad H locs lc pc9 cells slots hpc hag hn0 hrep hS hl hst hlv hcc hss
  have e9 : pc = pc9 := by
    simp only [zpcs, hcd, Option.map_some, Option.some.injEq] at hpc
    exact hpc
  subst e9
  simp only [zck, Bool.and_eq_true, decide_eq_true_eq, zfl] at hck
  obtain ⟨hd, ⟨⟨rfl, hf⟩, hv⟩, hxn⟩ := hck
  dsimp only [zsem] at hs
  split at hs
  · rename_i r st9
    cases hs
    have k0 : ∀ lc2, lv_has lc2 nL ((x, zcv G ad (zq r)) :: (zpl G ad ls).filter (fun q => !(q.1 == x) && !(q.1 + 1 == x && q.2.category == 2))) → W p l e R s m args below meth c H locs cells slots Q (F0 m (pc + 1) lc2 (st'.map (zcv G ad))) := fun lc2 hl2 => by
      exact kk ad H locs lc2 _ cells slots hf hag hn0 hrep hS (hl.store X.cat (v := zq r) hl2) (zokt hst) (zst_ok hlv (zokh hst)) hcc hss
    show W p l e R s m args below meth c H locs cells slots Q (F0 m pc lc (zcv G ad (zq r) :: st'.map (zcv G ad)))
    rcases X.rf ad r with hcv | ⟨a, hcv⟩
    · rw [hcv] at k0 ⊢; exact lv_astore_nN hx hb hd hv hl.has hxn rfl k0
    · rw [hcv] at k0 ⊢; exact lv_astore_n hx hb hd hv hl.has hxn rfl k0
  · cases hs
theorem zone_astore {n : Nat} (E : CallFix p m c cc nL s args zTs own) (X : zCX G s) (hcd : cd[i]? = some (pc, (.astore n), len, (x, y, z, w), c1, tb)) (hck : zck own cc ini nL cd hn i (pc, (.astore n), len, (x, y, z, w), c1, tb) = true) (hini : ini = true → meth.name = "<init>")
    (hR : 10 ≤ R.frames ∧ 200 ≤ R.locals ∧ zc h' ≤ c0 + R.cells ∧ zs h' ≤ s0 + R.slots) (hs : zsem zTX (.astore n) x y z w c1 tb i ls st h = zNx j ls' st' h')
    (kk : zCfg p l e R s m args below meth c Q G cd nL ad0 n0 c0 s0 j ls' st' h') : zCfg p l e R s m args below meth c Q G cd nL ad0 n0 c0 s0 i ls st h := by
  obtain ⟨hx, hb, hml, hown, hts⟩ := E
  intro ad H locs lc pc9 cells slots hpc hag hn0 hrep hS hl hst hlv hcc hss
  have e9 : pc = pc9 := by
    simp only [zpcs, hcd, Option.map_some, Option.some.injEq] at hpc
    exact hpc
  subst e9
  simp only [zck, Bool.and_eq_true, decide_eq_true_eq, zfl] at hck
  obtain ⟨hd, ⟨⟨rfl, hf⟩, hv⟩, hxn⟩ := hck
  dsimp only [zsem] at hs
  split at hs
  · rename_i r st9
    cases hs
    have k0 : ∀ lc2, lv_has lc2 nL ((x, zcv G ad (zq r)) :: (zpl G ad ls).filter (fun q => !(q.1 == x) && !(q.1 + 1 == x && q.2.category == 2))) → W p l e R s m args below meth c H locs cells slots Q (F0 m (pc + 2) lc2 (st'.map (zcv G ad))) := fun lc2 hl2 => by
      exact kk ad H locs lc2 _ cells slots hf hag hn0 hrep hS (hl.store X.cat (v := zq r) hl2) (zokt hst) (zst_ok hlv (zokh hst)) hcc hss
    show W p l e R s m args below meth c H locs cells slots Q (F0 m pc lc (zcv G ad (zq r) :: st'.map (zcv G ad)))
    rcases X.rf ad r with hcv | ⟨a, hcv⟩
    · rw [hcv] at k0 ⊢; exact lv_astoreN hx hb (by rw [hv] at hd; exact hd) hl.has hxn rfl k0
    · rw [hcv] at k0 ⊢; exact lv_astore hx hb (by rw [hv] at hd; exact hd) hl.has hxn rfl k0
  · cases hs
theorem zone_iinc {n : Nat} {d : Int} (E : CallFix p m c cc nL s args zTs own) (X : zCX G s) (hcd : cd[i]? = some (pc, (.iinc n d), len, (x, y, z, w), c1, tb)) (hck : zck own cc ini nL cd hn i (pc, (.iinc n d), len, (x, y, z, w), c1, tb) = true) (hini : ini = true → meth.name = "<init>")
    (hR : 10 ≤ R.frames ∧ 200 ≤ R.locals ∧ zc h' ≤ c0 + R.cells ∧ zs h' ≤ s0 + R.slots) (hs : zsem zTX (.iinc n d) x y z w c1 tb i ls st h = zNx j ls' st' h')
    (kk : zCfg p l e R s m args below meth c Q G cd nL ad0 n0 c0 s0 j ls' st' h') : zCfg p l e R s m args below meth c Q G cd nL ad0 n0 c0 s0 i ls st h := by
  obtain ⟨hx, hb, hml, hown, hts⟩ := E
  intro ad H locs lc pc9 cells slots hpc hag hn0 hrep hS hl hst hlv hcc hss
  have e9 : pc = pc9 := by
    simp only [zpcs, hcd, Option.map_some, Option.some.injEq] at hpc
    exact hpc
  subst e9
  simp only [zck, Bool.and_eq_true, decide_eq_true_eq, zfl] at hck
  obtain ⟨hd, ⟨⟨rfl, hf⟩, hv⟩, hv2⟩ := hck
  dsimp only [zsem] at hs
  subst hv
  split at hs
  · rename_i v e1
    cases hs
    obtain ⟨k9, hk9⟩ := List.getElem?_of_mem (zpl_mem (G := G) (ad := ad) (ls := ls) (q := (n, Value.int v)).mpr ⟨zi v, zget_some e1, rfl⟩)
    have hn2 : n < nL := by rw [← hl.2.2.1]; exact (List.getElem?_eq_some_iff.mp (zget_some e1)).1
    refine lv_iinc (x := v) (v := v + c1.1) hx hb hd hl.has (k := k9) hk9 (by rw [hv2]) hn2 rfl (fun lc2 hl2 => ?_)
    exact kk ad H locs lc2 _ cells slots hf hag hn0 hrep hS (hl.store X.cat (v := zi (v + c1.1)) hl2) hst (zst_ok hlv trivial) hcc hss
  · cases hs
theorem zone_iadd (E : CallFix p m c cc nL s args zTs own) (X : zCX G s) (hcd : cd[i]? = some (pc, .iadd, len, (x, y, z, w), c1, tb)) (hck : zck own cc ini nL cd hn i (pc, .iadd, len, (x, y, z, w), c1, tb) = true) (hini : ini = true → meth.name = "<init>")
    (hR : 10 ≤ R.frames ∧ 200 ≤ R.locals ∧ zc h' ≤ c0 + R.cells ∧ zs h' ≤ s0 + R.slots) (hs : zsem zTX .iadd x y z w c1 tb i ls st h = zNx j ls' st' h')
    (kk : zCfg p l e R s m args below meth c Q G cd nL ad0 n0 c0 s0 j ls' st' h') : zCfg p l e R s m args below meth c Q G cd nL ad0 n0 c0 s0 i ls st h := by
  obtain ⟨hx, hb, hml, hown, hts⟩ := E
  intro ad H locs lc pc9 cells slots hpc hag hn0 hrep hS hl hst hlv hcc hss
  have e9 : pc = pc9 := by
    simp only [zpcs, hcd, Option.map_some, Option.some.injEq] at hpc
    exact hpc
  subst e9
  simp only [zck, Bool.and_eq_true, decide_eq_true_eq, zfl] at hck
  obtain ⟨hd, rfl, hf⟩ := hck
  dsimp only [zsem] at hs
  split at hs
  · rename_i b a st9
    cases hs
    refine lv_iadd (x := a) (y := b) (rest := st9.map (zcv G ad)) hx hb hd ?_
    exact kk ad H locs lc _ cells slots hf hag hn0 hrep hS hl (zokc trivial (zokt (zokt hst))) hlv hcc hss
  · cases hs
theorem zone_isub (E : CallFix p m c cc nL s args zTs own) (X : zCX G s) (hcd : cd[i]? = some (pc, .isub, len, (x, y, z, w), c1, tb)) (hck : zck own cc ini nL cd hn i (pc, .isub, len, (x, y, z, w), c1, tb) = true) (hini : ini = true → meth.name = "<init>")
    (hR : 10 ≤ R.frames ∧ 200 ≤ R.locals ∧ zc h' ≤ c0 + R.cells ∧ zs h' ≤ s0 + R.slots) (hs : zsem zTX .isub x y z w c1 tb i ls st h = zNx j ls' st' h')
    (kk : zCfg p l e R s m args below meth c Q G cd nL ad0 n0 c0 s0 j ls' st' h') : zCfg p l e R s m args below meth c Q G cd nL ad0 n0 c0 s0 i ls st h := by
  obtain ⟨hx, hb, hml, hown, hts⟩ := E
  intro ad H locs lc pc9 cells slots hpc hag hn0 hrep hS hl hst hlv hcc hss
  have e9 : pc = pc9 := by
    simp only [zpcs, hcd, Option.map_some, Option.some.injEq] at hpc
    exact hpc
  subst e9
  simp only [zck, Bool.and_eq_true, decide_eq_true_eq, zfl] at hck
  obtain ⟨hd, rfl, hf⟩ := hck
  dsimp only [zsem] at hs
  split at hs
  · rename_i b a st9
    cases hs
    refine lv_isub (x := a) (y := b) (rest := st9.map (zcv G ad)) hx hb hd ?_
    exact kk ad H locs lc _ cells slots hf hag hn0 hrep hS hl (zokc trivial (zokt (zokt hst))) hlv hcc hss
  · cases hs
theorem zone_imul (E : CallFix p m c cc nL s args zTs own) (X : zCX G s) (hcd : cd[i]? = some (pc, .imul, len, (x, y, z, w), c1, tb)) (hck : zck own cc ini nL cd hn i (pc, .imul, len, (x, y, z, w), c1, tb) = true) (hini : ini = true → meth.name = "<init>")
    (hR : 10 ≤ R.frames ∧ 200 ≤ R.locals ∧ zc h' ≤ c0 + R.cells ∧ zs h' ≤ s0 + R.slots) (hs : zsem zTX .imul x y z w c1 tb i ls st h = zNx j ls' st' h')
    (kk : zCfg p l e R s m args below meth c Q G cd nL ad0 n0 c0 s0 j ls' st' h') : zCfg p l e R s m args below meth c Q G cd nL ad0 n0 c0 s0 i ls st h := by
  obtain ⟨hx, hb, hml, hown, hts⟩ := E
  intro ad H locs lc pc9 cells slots hpc hag hn0 hrep hS hl hst hlv hcc hss
  have e9 : pc = pc9 := by
    simp only [zpcs, hcd, Option.map_some, Option.some.injEq] at hpc
    exact hpc
  subst e9
  simp only [zck, Bool.and_eq_true, decide_eq_true_eq, zfl] at hck
  obtain ⟨hd, rfl, hf⟩ := hck
  dsimp only [zsem] at hs
  split at hs
  · rename_i b a st9
    cases hs
    refine lv_imul (x := a) (y := b) (rest := st9.map (zcv G ad)) hx hb hd ?_
    exact kk ad H locs lc _ cells slots hf hag hn0 hrep hS hl (zokc trivial (zokt (zokt hst))) hlv hcc hss
  · cases hs
theorem zone_iand (E : CallFix p m c cc nL s args zTs own) (X : zCX G s) (hcd : cd[i]? = some (pc, .iand, len, (x, y, z, w), c1, tb)) (hck : zck own cc ini nL cd hn i (pc, .iand, len, (x, y, z, w), c1, tb) = true) (hini : ini = true → meth.name = "<init>")
    (hR : 10 ≤ R.frames ∧ 200 ≤ R.locals ∧ zc h' ≤ c0 + R.cells ∧ zs h' ≤ s0 + R.slots) (hs : zsem zTX .iand x y z w c1 tb i ls st h = zNx j ls' st' h')
    (kk : zCfg p l e R s m args below meth c Q G cd nL ad0 n0 c0 s0 j ls' st' h') : zCfg p l e R s m args below meth c Q G cd nL ad0 n0 c0 s0 i ls st h := by
  obtain ⟨hx, hb, hml, hown, hts⟩ := E
  intro ad H locs lc pc9 cells slots hpc hag hn0 hrep hS hl hst hlv hcc hss
  have e9 : pc = pc9 := by
    simp only [zpcs, hcd, Option.map_some, Option.some.injEq] at hpc
    exact hpc
  subst e9
  simp only [zck, Bool.and_eq_true, decide_eq_true_eq, zfl] at hck
  obtain ⟨hd, rfl, hf⟩ := hck
  dsimp only [zsem] at hs
  split at hs
  · rename_i b a st9
    cases hs
    refine lv_iand (x := a) (y := b) (rest := st9.map (zcv G ad)) hx hb hd ?_
    exact kk ad H locs lc _ cells slots hf hag hn0 hrep hS hl (zokc trivial (zokt (zokt hst))) hlv hcc hss
  · cases hs
theorem zone_ior (E : CallFix p m c cc nL s args zTs own) (X : zCX G s) (hcd : cd[i]? = some (pc, .ior, len, (x, y, z, w), c1, tb)) (hck : zck own cc ini nL cd hn i (pc, .ior, len, (x, y, z, w), c1, tb) = true) (hini : ini = true → meth.name = "<init>")
    (hR : 10 ≤ R.frames ∧ 200 ≤ R.locals ∧ zc h' ≤ c0 + R.cells ∧ zs h' ≤ s0 + R.slots) (hs : zsem zTX .ior x y z w c1 tb i ls st h = zNx j ls' st' h')
    (kk : zCfg p l e R s m args below meth c Q G cd nL ad0 n0 c0 s0 j ls' st' h') : zCfg p l e R s m args below meth c Q G cd nL ad0 n0 c0 s0 i ls st h := by
  obtain ⟨hx, hb, hml, hown, hts⟩ := E
  intro ad H locs lc pc9 cells slots hpc hag hn0 hrep hS hl hst hlv hcc hss
  have e9 : pc = pc9 := by
    simp only [zpcs, hcd, Option.map_some, Option.some.injEq] at hpc
    exact hpc
  subst e9
  simp only [zck, Bool.and_eq_true, decide_eq_true_eq, zfl] at hck
  obtain ⟨hd, rfl, hf⟩ := hck
  dsimp only [zsem] at hs
  split at hs
  · rename_i b a st9
    cases hs
    refine lv_ior (x := a) (y := b) (rest := st9.map (zcv G ad)) hx hb hd ?_
    exact kk ad H locs lc _ cells slots hf hag hn0 hrep hS hl (zokc trivial (zokt (zokt hst))) hlv hcc hss
  · cases hs
theorem zone_ixor (E : CallFix p m c cc nL s args zTs own) (X : zCX G s) (hcd : cd[i]? = some (pc, .ixor, len, (x, y, z, w), c1, tb)) (hck : zck own cc ini nL cd hn i (pc, .ixor, len, (x, y, z, w), c1, tb) = true) (hini : ini = true → meth.name = "<init>")
    (hR : 10 ≤ R.frames ∧ 200 ≤ R.locals ∧ zc h' ≤ c0 + R.cells ∧ zs h' ≤ s0 + R.slots) (hs : zsem zTX .ixor x y z w c1 tb i ls st h = zNx j ls' st' h')
    (kk : zCfg p l e R s m args below meth c Q G cd nL ad0 n0 c0 s0 j ls' st' h') : zCfg p l e R s m args below meth c Q G cd nL ad0 n0 c0 s0 i ls st h := by
  obtain ⟨hx, hb, hml, hown, hts⟩ := E
  intro ad H locs lc pc9 cells slots hpc hag hn0 hrep hS hl hst hlv hcc hss
  have e9 : pc = pc9 := by
    simp only [zpcs, hcd, Option.map_some, Option.some.injEq] at hpc
    exact hpc
  subst e9
  simp only [zck, Bool.and_eq_true, decide_eq_true_eq, zfl] at hck
  obtain ⟨hd, rfl, hf⟩ := hck
  dsimp only [zsem] at hs
  split at hs
  · rename_i b a st9
    cases hs
    refine lv_ixor (x := a) (y := b) (rest := st9.map (zcv G ad)) hx hb hd ?_
    exact kk ad H locs lc _ cells slots hf hag hn0 hrep hS hl (zokc trivial (zokt (zokt hst))) hlv hcc hss
  · cases hs
theorem zone_ishl (E : CallFix p m c cc nL s args zTs own) (X : zCX G s) (hcd : cd[i]? = some (pc, .ishl, len, (x, y, z, w), c1, tb)) (hck : zck own cc ini nL cd hn i (pc, .ishl, len, (x, y, z, w), c1, tb) = true) (hini : ini = true → meth.name = "<init>")
    (hR : 10 ≤ R.frames ∧ 200 ≤ R.locals ∧ zc h' ≤ c0 + R.cells ∧ zs h' ≤ s0 + R.slots) (hs : zsem zTX .ishl x y z w c1 tb i ls st h = zNx j ls' st' h')
    (kk : zCfg p l e R s m args below meth c Q G cd nL ad0 n0 c0 s0 j ls' st' h') : zCfg p l e R s m args below meth c Q G cd nL ad0 n0 c0 s0 i ls st h := by
  obtain ⟨hx, hb, hml, hown, hts⟩ := E
  intro ad H locs lc pc9 cells slots hpc hag hn0 hrep hS hl hst hlv hcc hss
  have e9 : pc = pc9 := by
    simp only [zpcs, hcd, Option.map_some, Option.some.injEq] at hpc
    exact hpc
  subst e9
  simp only [zck, Bool.and_eq_true, decide_eq_true_eq, zfl] at hck
  obtain ⟨hd, rfl, hf⟩ := hck
  dsimp only [zsem] at hs
  split at hs
  · rename_i b a st9
    cases hs
    refine lv_ishl (x := a) (y := b) (rest := st9.map (zcv G ad)) hx hb hd ?_
    exact kk ad H locs lc _ cells slots hf hag hn0 hrep hS hl (zokc trivial (zokt (zokt hst))) hlv hcc hss
  · cases hs
theorem zone_ishr (E : CallFix p m c cc nL s args zTs own) (X : zCX G s) (hcd : cd[i]? = some (pc, .ishr, len, (x, y, z, w), c1, tb)) (hck : zck own cc ini nL cd hn i (pc, .ishr, len, (x, y, z, w), c1, tb) = true) (hini : ini = true → meth.name = "<init>")
    (hR : 10 ≤ R.frames ∧ 200 ≤ R.locals ∧ zc h' ≤ c0 + R.cells ∧ zs h' ≤ s0 + R.slots) (hs : zsem zTX .ishr x y z w c1 tb i ls st h = zNx j ls' st' h')
    (kk : zCfg p l e R s m args below meth c Q G cd nL ad0 n0 c0 s0 j ls' st' h') : zCfg p l e R s m args below meth c Q G cd nL ad0 n0 c0 s0 i ls st h := by
  obtain ⟨hx, hb, hml, hown, hts⟩ := E
  intro ad H locs lc pc9 cells slots hpc hag hn0 hrep hS hl hst hlv hcc hss
  have e9 : pc = pc9 := by
    simp only [zpcs, hcd, Option.map_some, Option.some.injEq] at hpc
    exact hpc
  subst e9
  simp only [zck, Bool.and_eq_true, decide_eq_true_eq, zfl] at hck
  obtain ⟨hd, rfl, hf⟩ := hck
  dsimp only [zsem] at hs
  split at hs
  · rename_i b a st9
    cases hs
    refine lv_ishr (x := a) (y := b) (rest := st9.map (zcv G ad)) hx hb hd ?_
    exact kk ad H locs lc _ cells slots hf hag hn0 hrep hS hl (zokc trivial (zokt (zokt hst))) hlv hcc hss
  · cases hs
theorem zone_iushr (E : CallFix p m c cc nL s args zTs own) (X : zCX G s) (hcd : cd[i]? = some (pc, .iushr, len, (x, y, z, w), c1, tb)) (hck : zck own cc ini nL cd hn i (pc, .iushr, len, (x, y, z, w), c1, tb) = true) (hini : ini = true → meth.name = "<init>")
    (hR : 10 ≤ R.frames ∧ 200 ≤ R.locals ∧ zc h' ≤ c0 + R.cells ∧ zs h' ≤ s0 + R.slots) (hs : zsem zTX .iushr x y z w c1 tb i ls st h = zNx j ls' st' h')
    (kk : zCfg p l e R s m args below meth c Q G cd nL ad0 n0 c0 s0 j ls' st' h') : zCfg p l e R s m args below meth c Q G cd nL ad0 n0 c0 s0 i ls st h := by
  obtain ⟨hx, hb, hml, hown, hts⟩ := E
  intro ad H locs lc pc9 cells slots hpc hag hn0 hrep hS hl hst hlv hcc hss
  have e9 : pc = pc9 := by
    simp only [zpcs, hcd, Option.map_some, Option.some.injEq] at hpc
    exact hpc
  subst e9
  simp only [zck, Bool.and_eq_true, decide_eq_true_eq, zfl] at hck
  obtain ⟨hd, rfl, hf⟩ := hck
  dsimp only [zsem] at hs
  split at hs
  · rename_i b a st9
    cases hs
    refine lv_iushr (x := a) (y := b) (rest := st9.map (zcv G ad)) hx hb hd rfl ?_
    exact kk ad H locs lc _ cells slots hf hag hn0 hrep hS hl (zokc trivial (zokt (zokt hst))) hlv hcc hss
  · cases hs
theorem zone_idiv (E : CallFix p m c cc nL s args zTs own) (X : zCX G s) (hcd : cd[i]? = some (pc, .idiv, len, (x, y, z, w), c1, tb)) (hck : zck own cc ini nL cd hn i (pc, .idiv, len, (x, y, z, w), c1, tb) = true) (hini : ini = true → meth.name = "<init>")
    (hR : 10 ≤ R.frames ∧ 200 ≤ R.locals ∧ zc h' ≤ c0 + R.cells ∧ zs h' ≤ s0 + R.slots) (hs : zsem zTX .idiv x y z w c1 tb i ls st h = zNx j ls' st' h')
    (kk : zCfg p l e R s m args below meth c Q G cd nL ad0 n0 c0 s0 j ls' st' h') : zCfg p l e R s m args below meth c Q G cd nL ad0 n0 c0 s0 i ls st h := by
  obtain ⟨hx, hb, hml, hown, hts⟩ := E
  intro ad H locs lc pc9 cells slots hpc hag hn0 hrep hS hl hst hlv hcc hss
  have e9 : pc = pc9 := by
    simp only [zpcs, hcd, Option.map_some, Option.some.injEq] at hpc
    exact hpc
  subst e9
  simp only [zck, Bool.and_eq_true, decide_eq_true_eq, zfl] at hck
  obtain ⟨hd, rfl, hf⟩ := hck
  dsimp only [zsem] at hs
  split at hs
  · rename_i b a st9
    obtain ⟨hb0, e1⟩ := zcondN hs
    cases e1
    refine lv_idiv (x := a) (y := b) (rest := st9.map (zcv G ad)) hx hb hd (by intro q; rw [q] at hb0; exact absurd hb0 (by decide)) ?_
    exact kk ad H locs lc _ cells slots hf hag hn0 hrep hS hl (zokc trivial (zokt (zokt hst))) hlv hcc hss
  · cases hs
theorem zone_irem (E : CallFix p m c cc nL s args zTs own) (X : zCX G s) (hcd : cd[i]? = some (pc, .irem, len, (x, y, z, w), c1, tb)) (hck : zck own cc ini nL cd hn i (pc, .irem, len, (x, y, z, w), c1, tb) = true) (hini : ini = true → meth.name = "<init>")
    (hR : 10 ≤ R.frames ∧ 200 ≤ R.locals ∧ zc h' ≤ c0 + R.cells ∧ zs h' ≤ s0 + R.slots) (hs : zsem zTX .irem x y z w c1 tb i ls st h = zNx j ls' st' h')
    (kk : zCfg p l e R s m args below meth c Q G cd nL ad0 n0 c0 s0 j ls' st' h') : zCfg p l e R s m args below meth c Q G cd nL ad0 n0 c0 s0 i ls st h := by
  obtain ⟨hx, hb, hml, hown, hts⟩ := E
  intro ad H locs lc pc9 cells slots hpc hag hn0 hrep hS hl hst hlv hcc hss
  have e9 : pc = pc9 := by
    simp only [zpcs, hcd, Option.map_some, Option.some.injEq] at hpc
    exact hpc
  subst e9
  simp only [zck, Bool.and_eq_true, decide_eq_true_eq, zfl] at hck
  obtain ⟨hd, rfl, hf⟩ := hck
  dsimp only [zsem] at hs
  split at hs
  · rename_i b a st9
    obtain ⟨hb0, e1⟩ := zcondN hs
    cases e1
    refine lv_irem (x := a) (y := b) (rest := st9.map (zcv G ad)) hx hb hd (by intro q; rw [q] at hb0; exact absurd hb0 (by decide)) ?_
    exact kk ad H locs lc _ cells slots hf hag hn0 hrep hS hl (zokc trivial (zokt (zokt hst))) hlv hcc hss
  · cases hs
theorem zone_ladd (E : CallFix p m c cc nL s args zTs own) (X : zCX G s) (hcd : cd[i]? = some (pc, .ladd, len, (x, y, z, w), c1, tb)) (hck : zck own cc ini nL cd hn i (pc, .ladd, len, (x, y, z, w), c1, tb) = true) (hini : ini = true → meth.name = "<init>")
    (hR : 10 ≤ R.frames ∧ 200 ≤ R.locals ∧ zc h' ≤ c0 + R.cells ∧ zs h' ≤ s0 + R.slots) (hs : zsem zTX .ladd x y z w c1 tb i ls st h = zNx j ls' st' h')
    (kk : zCfg p l e R s m args below meth c Q G cd nL ad0 n0 c0 s0 j ls' st' h') : zCfg p l e R s m args below meth c Q G cd nL ad0 n0 c0 s0 i ls st h := by
  obtain ⟨hx, hb, hml, hown, hts⟩ := E
  intro ad H locs lc pc9 cells slots hpc hag hn0 hrep hS hl hst hlv hcc hss
  have e9 : pc = pc9 := by
    simp only [zpcs, hcd, Option.map_some, Option.some.injEq] at hpc
    exact hpc
  subst e9
  simp only [zck, Bool.and_eq_true, decide_eq_true_eq, zfl] at hck
  obtain ⟨hd, rfl, hf⟩ := hck
  dsimp only [zsem] at hs
  split at hs
  · rename_i b a st9
    cases hs
    refine lv_ladd (x := a) (y := b) (rest := st9.map (zcv G ad)) hx hb hd ?_
    exact kk ad H locs lc _ cells slots hf hag hn0 hrep hS hl (zokc trivial (zokt (zokt hst))) hlv hcc hss
  · cases hs
theorem zone_lsub (E : CallFix p m c cc nL s args zTs own) (X : zCX G s) (hcd : cd[i]? = some (pc, .lsub, len, (x, y, z, w), c1, tb)) (hck : zck own cc ini nL cd hn i (pc, .lsub, len, (x, y, z, w), c1, tb) = true) (hini : ini = true → meth.name = "<init>")
    (hR : 10 ≤ R.frames ∧ 200 ≤ R.locals ∧ zc h' ≤ c0 + R.cells ∧ zs h' ≤ s0 + R.slots) (hs : zsem zTX .lsub x y z w c1 tb i ls st h = zNx j ls' st' h')
    (kk : zCfg p l e R s m args below meth c Q G cd nL ad0 n0 c0 s0 j ls' st' h') : zCfg p l e R s m args below meth c Q G cd nL ad0 n0 c0 s0 i ls st h := by
  obtain ⟨hx, hb, hml, hown, hts⟩ := E
  intro ad H locs lc pc9 cells slots hpc hag hn0 hrep hS hl hst hlv hcc hss
  have e9 : pc = pc9 := by
    simp only [zpcs, hcd, Option.map_some, Option.some.injEq] at hpc
    exact hpc
  subst e9
  simp only [zck, Bool.and_eq_true, decide_eq_true_eq, zfl] at hck
  obtain ⟨hd, rfl, hf⟩ := hck
  dsimp only [zsem] at hs
  split at hs
  · rename_i b a st9
    cases hs
    refine lv_lsub (x := a) (y := b) (rest := st9.map (zcv G ad)) hx hb hd ?_
    exact kk ad H locs lc _ cells slots hf hag hn0 hrep hS hl (zokc trivial (zokt (zokt hst))) hlv hcc hss
  · cases hs
theorem zone_land (E : CallFix p m c cc nL s args zTs own) (X : zCX G s) (hcd : cd[i]? = some (pc, .land, len, (x, y, z, w), c1, tb)) (hck : zck own cc ini nL cd hn i (pc, .land, len, (x, y, z, w), c1, tb) = true) (hini : ini = true → meth.name = "<init>")
    (hR : 10 ≤ R.frames ∧ 200 ≤ R.locals ∧ zc h' ≤ c0 + R.cells ∧ zs h' ≤ s0 + R.slots) (hs : zsem zTX .land x y z w c1 tb i ls st h = zNx j ls' st' h')
    (kk : zCfg p l e R s m args below meth c Q G cd nL ad0 n0 c0 s0 j ls' st' h') : zCfg p l e R s m args below meth c Q G cd nL ad0 n0 c0 s0 i ls st h := by
  obtain ⟨hx, hb, hml, hown, hts⟩ := E
  intro ad H locs lc pc9 cells slots hpc hag hn0 hrep hS hl hst hlv hcc hss
  have e9 : pc = pc9 := by
    simp only [zpcs, hcd, Option.map_some, Option.some.injEq] at hpc
    exact hpc
  subst e9
  simp only [zck, Bool.and_eq_true, decide_eq_true_eq, zfl] at hck
  obtain ⟨hd, rfl, hf⟩ := hck
  dsimp only [zsem] at hs
  split at hs
  · rename_i b a st9
    cases hs
    refine lv_land (x := a) (y := b) (rest := st9.map (zcv G ad)) hx hb hd ?_
    exact kk ad H locs lc _ cells slots hf hag hn0 hrep hS hl (zokc trivial (zokt (zokt hst))) hlv hcc hss
  · cases hs
theorem zone_lor (E : CallFix p m c cc nL s args zTs own) (X : zCX G s) (hcd : cd[i]? = some (pc, .lor, len, (x, y, z, w), c1, tb)) (hck : zck own cc ini nL cd hn i (pc, .lor, len, (x, y, z, w), c1, tb) = true) (hini : ini = true → meth.name = "<init>")
    (hR : 10 ≤ R.frames ∧ 200 ≤ R.locals ∧ zc h' ≤ c0 + R.cells ∧ zs h' ≤ s0 + R.slots) (hs : zsem zTX .lor x y z w c1 tb i ls st h = zNx j ls' st' h')
    (kk : zCfg p l e R s m args below meth c Q G cd nL ad0 n0 c0 s0 j ls' st' h') : zCfg p l e R s m args below meth c Q G cd nL ad0 n0 c0 s0 i ls st h := by
  obtain ⟨hx, hb, hml, hown, hts⟩ := E
  intro ad H locs lc pc9 cells slots hpc hag hn0 hrep hS hl hst hlv hcc hss
  have e9 : pc = pc9 := by
    simp only [zpcs, hcd, Option.map_some, Option.some.injEq] at hpc
    exact hpc
  subst e9
  simp only [zck, Bool.and_eq_true, decide_eq_true_eq, zfl] at hck
  obtain ⟨hd, rfl, hf⟩ := hck
  dsimp only [zsem] at hs
  split at hs
  · rename_i b a st9
    cases hs
    refine lv_lor (x := a) (y := b) (rest := st9.map (zcv G ad)) hx hb hd ?_
    exact kk ad H locs lc _ cells slots hf hag hn0 hrep hS hl (zokc trivial (zokt (zokt hst))) hlv hcc hss
  · cases hs
theorem zone_lshl (E : CallFix p m c cc nL s args zTs own) (X : zCX G s) (hcd : cd[i]? = some (pc, .lshl, len, (x, y, z, w), c1, tb)) (hck : zck own cc ini nL cd hn i (pc, .lshl, len, (x, y, z, w), c1, tb) = true) (hini : ini = true → meth.name = "<init>")
    (hR : 10 ≤ R.frames ∧ 200 ≤ R.locals ∧ zc h' ≤ c0 + R.cells ∧ zs h' ≤ s0 + R.slots) (hs : zsem zTX .lshl x y z w c1 tb i ls st h = zNx j ls' st' h')
    (kk : zCfg p l e R s m args below meth c Q G cd nL ad0 n0 c0 s0 j ls' st' h') : zCfg p l e R s m args below meth c Q G cd nL ad0 n0 c0 s0 i ls st h := by
  obtain ⟨hx, hb, hml, hown, hts⟩ := E
  intro ad H locs lc pc9 cells slots hpc hag hn0 hrep hS hl hst hlv hcc hss
  have e9 : pc = pc9 := by
    simp only [zpcs, hcd, Option.map_some, Option.some.injEq] at hpc
    exact hpc
  subst e9
  simp only [zck, Bool.and_eq_true, decide_eq_true_eq, zfl] at hck
  obtain ⟨hd, rfl, hf⟩ := hck
  dsimp only [zsem] at hs
  split at hs
  · rename_i b a st9
    cases hs
    refine lv_lshl (x := a) (y := b) (rest := st9.map (zcv G ad)) hx hb hd rfl ?_
    exact kk ad H locs lc _ cells slots hf hag hn0 hrep hS hl (zokc trivial (zokt (zokt hst))) hlv hcc hss
  · cases hs
theorem zone_lushr (E : CallFix p m c cc nL s args zTs own) (X : zCX G s) (hcd : cd[i]? = some (pc, .lushr, len, (x, y, z, w), c1, tb)) (hck : zck own cc ini nL cd hn i (pc, .lushr, len, (x, y, z, w), c1, tb) = true) (hini : ini = true → meth.name = "<init>")
    (hR : 10 ≤ R.frames ∧ 200 ≤ R.locals ∧ zc h' ≤ c0 + R.cells ∧ zs h' ≤ s0 + R.slots) (hs : zsem zTX .lushr x y z w c1 tb i ls st h = zNx j ls' st' h')
    (kk : zCfg p l e R s m args below meth c Q G cd nL ad0 n0 c0 s0 j ls' st' h') : zCfg p l e R s m args below meth c Q G cd nL ad0 n0 c0 s0 i ls st h := by
  obtain ⟨hx, hb, hml, hown, hts⟩ := E
  intro ad H locs lc pc9 cells slots hpc hag hn0 hrep hS hl hst hlv hcc hss
  have e9 : pc = pc9 := by
    simp only [zpcs, hcd, Option.map_some, Option.some.injEq] at hpc
    exact hpc
  subst e9
  simp only [zck, Bool.and_eq_true, decide_eq_true_eq, zfl] at hck
  obtain ⟨hd, rfl, hf⟩ := hck
  dsimp only [zsem] at hs
  split at hs
  · rename_i b a st9
    cases hs
    refine lv_lushr (x := a) (y := b) (rest := st9.map (zcv G ad)) hx hb hd rfl ?_
    exact kk ad H locs lc _ cells slots hf hag hn0 hrep hS hl (zokc trivial (zokt (zokt hst))) hlv hcc hss
  · cases hs
theorem zone_lcmp (E : CallFix p m c cc nL s args zTs own) (X : zCX G s) (hcd : cd[i]? = some (pc, .lcmp, len, (x, y, z, w), c1, tb)) (hck : zck own cc ini nL cd hn i (pc, .lcmp, len, (x, y, z, w), c1, tb) = true) (hini : ini = true → meth.name = "<init>")
    (hR : 10 ≤ R.frames ∧ 200 ≤ R.locals ∧ zc h' ≤ c0 + R.cells ∧ zs h' ≤ s0 + R.slots) (hs : zsem zTX .lcmp x y z w c1 tb i ls st h = zNx j ls' st' h')
    (kk : zCfg p l e R s m args below meth c Q G cd nL ad0 n0 c0 s0 j ls' st' h') : zCfg p l e R s m args below meth c Q G cd nL ad0 n0 c0 s0 i ls st h := by
  obtain ⟨hx, hb, hml, hown, hts⟩ := E
  intro ad H locs lc pc9 cells slots hpc hag hn0 hrep hS hl hst hlv hcc hss
  have e9 : pc = pc9 := by
    simp only [zpcs, hcd, Option.map_some, Option.some.injEq] at hpc
    exact hpc
  subst e9
  simp only [zck, Bool.and_eq_true, decide_eq_true_eq, zfl] at hck
  obtain ⟨hd, rfl, hf⟩ := hck
  dsimp only [zsem] at hs
  split at hs
  · rename_i b a st9
    cases hs
    refine W.lcmp (x := a) (y := b) (rest := st9.map (zcv G ad)) hx hb hd ?_
    exact kk ad H locs lc _ cells slots hf hag hn0 hrep hS hl (zokc trivial (zokt (zokt hst))) hlv hcc hss
  · cases hs
theorem zone_i2l (E : CallFix p m c cc nL s args zTs own) (X : zCX G s) (hcd : cd[i]? = some (pc, .i2l, len, (x, y, z, w), c1, tb)) (hck : zck own cc ini nL cd hn i (pc, .i2l, len, (x, y, z, w), c1, tb) = true) (hini : ini = true → meth.name = "<init>")
    (hR : 10 ≤ R.frames ∧ 200 ≤ R.locals ∧ zc h' ≤ c0 + R.cells ∧ zs h' ≤ s0 + R.slots) (hs : zsem zTX .i2l x y z w c1 tb i ls st h = zNx j ls' st' h')
    (kk : zCfg p l e R s m args below meth c Q G cd nL ad0 n0 c0 s0 j ls' st' h') : zCfg p l e R s m args below meth c Q G cd nL ad0 n0 c0 s0 i ls st h := by
  obtain ⟨hx, hb, hml, hown, hts⟩ := E
  intro ad H locs lc pc9 cells slots hpc hag hn0 hrep hS hl hst hlv hcc hss
  have e9 : pc = pc9 := by
    simp only [zpcs, hcd, Option.map_some, Option.some.injEq] at hpc
    exact hpc
  subst e9
  simp only [zck, Bool.and_eq_true, decide_eq_true_eq, zfl] at hck
  obtain ⟨hd, rfl, hf⟩ := hck
  dsimp only [zsem] at hs
  split at hs
  · rename_i a st9
    cases hs
    refine lv_i2l (x := a) (rest := st9.map (zcv G ad)) hx hb hd rfl ?_
    exact kk ad H locs lc _ cells slots hf hag hn0 hrep hS hl (zokc trivial (zokt hst)) hlv hcc hss
  · cases hs
theorem zone_l2i (E : CallFix p m c cc nL s args zTs own) (X : zCX G s) (hcd : cd[i]? = some (pc, .l2i, len, (x, y, z, w), c1, tb)) (hck : zck own cc ini nL cd hn i (pc, .l2i, len, (x, y, z, w), c1, tb) = true) (hini : ini = true → meth.name = "<init>")
    (hR : 10 ≤ R.frames ∧ 200 ≤ R.locals ∧ zc h' ≤ c0 + R.cells ∧ zs h' ≤ s0 + R.slots) (hs : zsem zTX .l2i x y z w c1 tb i ls st h = zNx j ls' st' h')
    (kk : zCfg p l e R s m args below meth c Q G cd nL ad0 n0 c0 s0 j ls' st' h') : zCfg p l e R s m args below meth c Q G cd nL ad0 n0 c0 s0 i ls st h := by
  obtain ⟨hx, hb, hml, hown, hts⟩ := E
  intro ad H locs lc pc9 cells slots hpc hag hn0 hrep hS hl hst hlv hcc hss
  have e9 : pc = pc9 := by
    simp only [zpcs, hcd, Option.map_some, Option.some.injEq] at hpc
    exact hpc
  subst e9
  simp only [zck, Bool.and_eq_true, decide_eq_true_eq, zfl] at hck
  obtain ⟨hd, rfl, hf⟩ := hck
  dsimp only [zsem] at hs
  split at hs
  · rename_i a st9
    cases hs
    refine lv_l2i (x := a) (rest := st9.map (zcv G ad)) hx hb hd rfl ?_
    exact kk ad H locs lc _ cells slots hf hag hn0 hrep hS hl (zokc trivial (zokt hst)) hlv hcc hss
  · cases hs
theorem zone_i2b (E : CallFix p m c cc nL s args zTs own) (X : zCX G s) (hcd : cd[i]? = some (pc, .i2b, len, (x, y, z, w), c1, tb)) (hck : zck own cc ini nL cd hn i (pc, .i2b, len, (x, y, z, w), c1, tb) = true) (hini : ini = true → meth.name = "<init>")
    (hR : 10 ≤ R.frames ∧ 200 ≤ R.locals ∧ zc h' ≤ c0 + R.cells ∧ zs h' ≤ s0 + R.slots) (hs : zsem zTX .i2b x y z w c1 tb i ls st h = zNx j ls' st' h')
    (kk : zCfg p l e R s m args below meth c Q G cd nL ad0 n0 c0 s0 j ls' st' h') : zCfg p l e R s m args below meth c Q G cd nL ad0 n0 c0 s0 i ls st h := by
  obtain ⟨hx, hb, hml, hown, hts⟩ := E
  intro ad H locs lc pc9 cells slots hpc hag hn0 hrep hS hl hst hlv hcc hss
  have e9 : pc = pc9 := by
    simp only [zpcs, hcd, Option.map_some, Option.some.injEq] at hpc
    exact hpc
  subst e9
  simp only [zck, Bool.and_eq_true, decide_eq_true_eq, zfl] at hck
  obtain ⟨hd, rfl, hf⟩ := hck
  dsimp only [zsem] at hs
  split at hs
  · rename_i a st9
    cases hs
    refine lv_i2b (x := a) (rest := st9.map (zcv G ad)) hx hb hd rfl ?_
    exact kk ad H locs lc _ cells slots hf hag hn0 hrep hS hl (zokc trivial (zokt hst)) hlv hcc hss
  · cases hs
theorem zone_i2c (E : CallFix p m c cc nL s args zTs own) (X : zCX G s) (hcd : cd[i]? = some (pc, .i2c, len, (x, y, z, w), c1, tb)) (hck : zck own cc ini nL cd hn i (pc, .i2c, len, (x, y, z, w), c1, tb) = true) (hini : ini = true → meth.name = "<init>")
    (hR : 10 ≤ R.frames ∧ 200 ≤ R.locals ∧ zc h' ≤ c0 + R.cells ∧ zs h' ≤ s0 + R.slots) (hs : zsem zTX .i2c x y z w c1 tb i ls st h = zNx j ls' st' h')
    (kk : zCfg p l e R s m args below meth c Q G cd nL ad0 n0 c0 s0 j ls' st' h') : zCfg p l e R s m args below meth c Q G cd nL ad0 n0 c0 s0 i ls st h := by
  obtain ⟨hx, hb, hml, hown, hts⟩ := E
  intro ad H locs lc pc9 cells slots hpc hag hn0 hrep hS hl hst hlv hcc hss
  have e9 : pc = pc9 := by
    simp only [zpcs, hcd, Option.map_some, Option.some.injEq] at hpc
    exact hpc
  subst e9
  simp only [zck, Bool.and_eq_true, decide_eq_true_eq, zfl] at hck
  obtain ⟨hd, rfl, hf⟩ := hck
  dsimp only [zsem] at hs
  split at hs
  · rename_i a st9
    cases hs
    refine lv_i2c (x := a) (rest := st9.map (zcv G ad)) hx hb hd rfl ?_
    exact kk ad H locs lc _ cells slots hf hag hn0 hrep hS hl (zokc trivial (zokt hst)) hlv hcc hss
  · cases hs
theorem zone_dup (E : CallFix p m c cc nL s args zTs own) (X : zCX G s) (hcd : cd[i]? = some (pc, .dup, len, (x, y, z, w), c1, tb)) (hck : zck own cc ini nL cd hn i (pc, .dup, len, (x, y, z, w), c1, tb) = true) (hini : ini = true → meth.name = "<init>")
    (hR : 10 ≤ R.frames ∧ 200 ≤ R.locals ∧ zc h' ≤ c0 + R.cells ∧ zs h' ≤ s0 + R.slots) (hs : zsem zTX .dup x y z w c1 tb i ls st h = zNx j ls' st' h')
    (kk : zCfg p l e R s m args below meth c Q G cd nL ad0 n0 c0 s0 j ls' st' h') : zCfg p l e R s m args below meth c Q G cd nL ad0 n0 c0 s0 i ls st h := by
  obtain ⟨hx, hb, hml, hown, hts⟩ := E
  intro ad H locs lc pc9 cells slots hpc hag hn0 hrep hS hl hst hlv hcc hss
  have e9 : pc = pc9 := by
    simp only [zpcs, hcd, Option.map_some, Option.some.injEq] at hpc
    exact hpc
  subst e9
  simp only [zck, Bool.and_eq_true, decide_eq_true_eq, zfl] at hck
  obtain ⟨hd, rfl, hf⟩ := hck
  dsimp only [zsem] at hs
  split at hs
  · rename_i a st9
    cases hs
    refine lv_dup (va := .int a) (rest := st9.map (zcv G ad)) hx hb hd rfl ?_
    exact kk ad H locs lc _ cells slots hf hag hn0 hrep hS hl (zokc trivial hst) hlv hcc hss
  · rename_i r st9
    cases hs
    refine lv_dup (va := zcv G ad (zq r)) (rest := st9.map (zcv G ad)) hx hb hd (zcv_cat X.cat (zq r)) ?_
    exact kk ad H locs lc _ cells slots hf hag hn0 hrep hS hl (zokc (zokh hst) hst) hlv hcc hss
  · cases hs
theorem zone_dup2 (E : CallFix p m c cc nL s args zTs own) (X : zCX G s) (hcd : cd[i]? = some (pc, .dup2, len, (x, y, z, w), c1, tb)) (hck : zck own cc ini nL cd hn i (pc, .dup2, len, (x, y, z, w), c1, tb) = true) (hini : ini = true → meth.name = "<init>")
    (hR : 10 ≤ R.frames ∧ 200 ≤ R.locals ∧ zc h' ≤ c0 + R.cells ∧ zs h' ≤ s0 + R.slots) (hs : zsem zTX .dup2 x y z w c1 tb i ls st h = zNx j ls' st' h')
    (kk : zCfg p l e R s m args below meth c Q G cd nL ad0 n0 c0 s0 j ls' st' h') : zCfg p l e R s m args below meth c Q G cd nL ad0 n0 c0 s0 i ls st h := by
  obtain ⟨hx, hb, hml, hown, hts⟩ := E
  intro ad H locs lc pc9 cells slots hpc hag hn0 hrep hS hl hst hlv hcc hss
  have e9 : pc = pc9 := by
    simp only [zpcs, hcd, Option.map_some, Option.some.injEq] at hpc
    exact hpc
  subst e9
  simp only [zck, Bool.and_eq_true, decide_eq_true_eq, zfl] at hck
  obtain ⟨hd, rfl, hf⟩ := hck
  dsimp only [zsem] at hs
  split at hs
  · rename_i a r st9
    cases hs
    refine lv_dup2_11 (va := .int a) (vb := zcv G ad (zq r)) (rest := st9.map (zcv G ad)) hx hb hd rfl (zcv_cat X.cat (zq r)) ?_
    exact kk ad H locs lc _ cells slots hf hag hn0 hrep hS hl (zokc trivial (zokc (zokh (zokt hst)) hst)) hlv hcc hss
  · cases hs
theorem zone_pop (E : CallFix p m c cc nL s args zTs own) (X : zCX G s) (hcd : cd[i]? = some (pc, .pop, len, (x, y, z, w), c1, tb)) (hck : zck own cc ini nL cd hn i (pc, .pop, len, (x, y, z, w), c1, tb) = true) (hini : ini = true → meth.name = "<init>")
    (hR : 10 ≤ R.frames ∧ 200 ≤ R.locals ∧ zc h' ≤ c0 + R.cells ∧ zs h' ≤ s0 + R.slots) (hs : zsem zTX .pop x y z w c1 tb i ls st h = zNx j ls' st' h')
    (kk : zCfg p l e R s m args below meth c Q G cd nL ad0 n0 c0 s0 j ls' st' h') : zCfg p l e R s m args below meth c Q G cd nL ad0 n0 c0 s0 i ls st h := by
  obtain ⟨hx, hb, hml, hown, hts⟩ := E
  intro ad H locs lc pc9 cells slots hpc hag hn0 hrep hS hl hst hlv hcc hss
  have e9 : pc = pc9 := by
    simp only [zpcs, hcd, Option.map_some, Option.some.injEq] at hpc
    exact hpc
  subst e9
  simp only [zck, Bool.and_eq_true, decide_eq_true_eq, zfl] at hck
  obtain ⟨hd, rfl, hf⟩ := hck
  dsimp only [zsem] at hs
  split at hs
  · rename_i a st9
    cases hs
    refine lv_pop (va := .int a) (rest := st'.map (zcv G ad)) hx hb hd rfl ?_
    exact kk ad H locs lc _ cells slots hf hag hn0 hrep hS hl (zokt hst) hlv hcc hss
  · rename_i r st9
    cases hs
    refine lv_pop (va := zcv G ad (zq r)) (rest := st'.map (zcv G ad)) hx hb hd (zcv_cat X.cat (zq r)) ?_
    exact kk ad H locs lc _ cells slots hf hag hn0 hrep hS hl (zokt hst) hlv hcc hss
  · cases hs
theorem zone_goto {n : Int} (E : CallFix p m c cc nL s args zTs own) (X : zCX G s) (hcd : cd[i]? = some (pc, (.goto n), len, (x, y, z, w), c1, tb)) (hck : zck own cc ini nL cd hn i (pc, (.goto n), len, (x, y, z, w), c1, tb) = true) (hini : ini = true → meth.name = "<init>")
    (hR : 10 ≤ R.frames ∧ 200 ≤ R.locals ∧ zc h' ≤ c0 + R.cells ∧ zs h' ≤ s0 + R.slots) (hs : zsem zTX (.goto n) x y z w c1 tb i ls st h = zNx j ls' st' h')
    (kk : zCfg p l e R s m args below meth c Q G cd nL ad0 n0 c0 s0 j ls' st' h') : zCfg p l e R s m args below meth c Q G cd nL ad0 n0 c0 s0 i ls st h := by
  obtain ⟨hx, hb, hml, hown, hts⟩ := E
  intro ad H locs lc pc9 cells slots hpc hag hn0 hrep hS hl hst hlv hcc hss
  have e9 : pc = pc9 := by
    simp only [zpcs, hcd, Option.map_some, Option.some.injEq] at hpc
    exact hpc
  subst e9
  simp only [zck, Bool.and_eq_true, decide_eq_true_eq, zfl] at hck
  obtain ⟨hd, rfl, ht⟩ := hck
  dsimp only [zsem] at hs
  cases hs
  obtain ⟨t, h1, h2⟩ := ztg_spec ht
  refine lv_goto (tgt := t) hx hb hd h2 ?_
  exact kk ad H locs lc _ cells slots h1 hag hn0 hrep hS hl hst hlv hcc hss
theorem zone_ifCond {k : ClassFile.Cond} {n : Int} (E : CallFix p m c cc nL s args zTs own) (X : zCX G s) (hcd : cd[i]? = some (pc, (.ifCond k n), len, (x, y, z, w), c1, tb)) (hck : zck own cc ini nL cd hn i (pc, (.ifCond k n), len, (x, y, z, w), c1, tb) = true) (hini : ini = true → meth.name = "<init>")
    (hR : 10 ≤ R.frames ∧ 200 ≤ R.locals ∧ zc h' ≤ c0 + R.cells ∧ zs h' ≤ s0 + R.slots) (hs : zsem zTX (.ifCond k n) x y z w c1 tb i ls st h = zNx j ls' st' h')
    (kk : zCfg p l e R s m args below meth c Q G cd nL ad0 n0 c0 s0 j ls' st' h') : zCfg p l e R s m args below meth c Q G cd nL ad0 n0 c0 s0 i ls st h := by
  obtain ⟨hx, hb, hml, hown, hts⟩ := E
  intro ad H locs lc pc9 cells slots hpc hag hn0 hrep hS hl hst hlv hcc hss
  have e9 : pc = pc9 := by
    simp only [zpcs, hcd, Option.map_some, Option.some.injEq] at hpc
    exact hpc
  subst e9
  simp only [zck, Bool.and_eq_true, decide_eq_true_eq, zfl] at hck
  obtain ⟨hd, ⟨rfl, hf⟩, ht⟩ := hck
  dsimp only [zsem] at hs
  obtain ⟨t, h1, h2⟩ := ztg_spec ht
  split at hs
  · rename_i a st9
    have k1 : zcmp k a 0 = true → W p l e R s m args below meth c H locs cells slots Q (F0 m t lc (st9.map (zcv G ad))) := fun q => by
      rw [q] at hs
      cases hs
      exact kk ad H locs lc _ cells slots h1 hag hn0 hrep hS hl (zokt hst) hlv hcc hss
    have k2 : zcmp k a 0 = false → W p l e R s m args below meth c H locs cells slots Q (F0 m (pc + 3) lc (st9.map (zcv G ad))) := fun q => by
      rw [q] at hs
      cases hs
      exact kk ad H locs lc _ cells slots hf hag hn0 hrep hS hl (zokt hst) hlv hcc hss
    cases k with
    | eq => exact lv_if_eq (rest := st9.map (zcv G ad)) (tgt := t) hx hb hd h2 (fun q => k1 (decide_eq_true q)) (fun q => k2 (decide_eq_false q))
    | ne => exact lv_if_ne (rest := st9.map (zcv G ad)) (tgt := t) hx hb hd h2 (fun q => k1 (decide_eq_true q)) (fun q => k2 (decide_eq_false (fun z => z q)))
    | lt => exact lv_if_lt (rest := st9.map (zcv G ad)) (tgt := t) hx hb hd h2 (fun q => k1 (decide_eq_true q)) (fun q => k2 (decide_eq_false q))
    | ge => exact lv_if_ge (rest := st9.map (zcv G ad)) (tgt := t) hx hb hd h2 (fun q => k1 (decide_eq_true q)) (fun q => k2 (decide_eq_false q))
    | gt => exact lv_if_gt (rest := st9.map (zcv G ad)) (tgt := t) hx hb hd h2 (fun q => k1 (decide_eq_true q)) (fun q => k2 (decide_eq_false q))
    | le => exact lv_if_le (rest := st9.map (zcv G ad)) (tgt := t) hx hb hd h2 (fun q => k1 (decide_eq_true q)) (fun q => k2 (decide_eq_false q))
  · cases hs
theorem zone_if_icmp {k : ClassFile.Cond} {n : Int} (E : CallFix p m c cc nL s args zTs own) (X : zCX G s) (hcd : cd[i]? = some (pc, (.if_icmp k n), len, (x, y, z, w), c1, tb)) (hck : zck own cc ini nL cd hn i (pc, (.if_icmp k n), len, (x, y, z, w), c1, tb) = true) (hini : ini = true → meth.name = "<init>")
    (hR : 10 ≤ R.frames ∧ 200 ≤ R.locals ∧ zc h' ≤ c0 + R.cells ∧ zs h' ≤ s0 + R.slots) (hs : zsem zTX (.if_icmp k n) x y z w c1 tb i ls st h = zNx j ls' st' h')
    (kk : zCfg p l e R s m args below meth c Q G cd nL ad0 n0 c0 s0 j ls' st' h') : zCfg p l e R s m args below meth c Q G cd nL ad0 n0 c0 s0 i ls st h := by
  obtain ⟨hx, hb, hml, hown, hts⟩ := E
  intro ad H locs lc pc9 cells slots hpc hag hn0 hrep hS hl hst hlv hcc hss
  have e9 : pc = pc9 := by
    simp only [zpcs, hcd, Option.map_some, Option.some.injEq] at hpc
    exact hpc
  subst e9
  simp only [zck, Bool.and_eq_true, decide_eq_true_eq, zfl] at hck
  obtain ⟨hd, ⟨rfl, hf⟩, ht⟩ := hck
  dsimp only [zsem] at hs
  obtain ⟨t, h1, h2⟩ := ztg_spec ht
  split at hs
  · rename_i b a st9
    have k1 : zcmp k a b = true → W p l e R s m args below meth c H locs cells slots Q (F0 m t lc (st9.map (zcv G ad))) := fun q => by
      rw [q] at hs
      cases hs
      exact kk ad H locs lc _ cells slots h1 hag hn0 hrep hS hl (zokt (zokt hst)) hlv hcc hss
    have k2 : zcmp k a b = false → W p l e R s m args below meth c H locs cells slots Q (F0 m (pc + 3) lc (st9.map (zcv G ad))) := fun q => by
      rw [q] at hs
      cases hs
      exact kk ad H locs lc _ cells slots hf hag hn0 hrep hS hl (zokt (zokt hst)) hlv hcc hss
    cases k with
    | eq => exact lv_icmp_eq (rest := st9.map (zcv G ad)) (tgt := t) hx hb hd h2 (fun q => k1 (decide_eq_true q)) (fun q => k2 (decide_eq_false q))
    | ne => exact lv_icmp_ne (rest := st9.map (zcv G ad)) (tgt := t) hx hb hd h2 (fun q => k1 (decide_eq_true q)) (fun q => k2 (decide_eq_false (fun z => z q)))
    | lt => exact lv_icmp_lt (rest := st9.map (zcv G ad)) (tgt := t) hx hb hd h2 (fun q => k1 (decide_eq_true q)) (fun q => k2 (decide_eq_false q))
    | ge => exact lv_icmp_ge (rest := st9.map (zcv G ad)) (tgt := t) hx hb hd h2 (fun q => k1 (decide_eq_true q)) (fun q => k2 (decide_eq_false q))
    | gt => exact lv_icmp_gt (rest := st9.map (zcv G ad)) (tgt := t) hx hb hd h2 (fun q => k1 (decide_eq_true q)) (fun q => k2 (decide_eq_false q))
    | le => exact lv_icmp_le (rest := st9.map (zcv G ad)) (tgt := t) hx hb hd h2 (fun q => k1 (decide_eq_true q)) (fun q => k2 (decide_eq_false q))
  · cases hs
theorem zone_ifnull {n : Int} (E : CallFix p m c cc nL s args zTs own) (X : zCX G s) (hcd : cd[i]? = some (pc, (.ifnull n), len, (x, y, z, w), c1, tb)) (hck : zck own cc ini nL cd hn i (pc, (.ifnull n), len, (x, y, z, w), c1, tb) = true) (hini : ini = true → meth.name = "<init>")
    (hR : 10 ≤ R.frames ∧ 200 ≤ R.locals ∧ zc h' ≤ c0 + R.cells ∧ zs h' ≤ s0 + R.slots) (hs : zsem zTX (.ifnull n) x y z w c1 tb i ls st h = zNx j ls' st' h')
    (kk : zCfg p l e R s m args below meth c Q G cd nL ad0 n0 c0 s0 j ls' st' h') : zCfg p l e R s m args below meth c Q G cd nL ad0 n0 c0 s0 i ls st h := by
  obtain ⟨hx, hb, hml, hown, hts⟩ := E
  intro ad H locs lc pc9 cells slots hpc hag hn0 hrep hS hl hst hlv hcc hss
  have e9 : pc = pc9 := by
    simp only [zpcs, hcd, Option.map_some, Option.some.injEq] at hpc
    exact hpc
  subst e9
  simp only [zck, Bool.and_eq_true, decide_eq_true_eq, zfl] at hck
  obtain ⟨hd, ⟨rfl, hf⟩, ht⟩ := hck
  dsimp only [zsem] at hs
  obtain ⟨t, h1, h2⟩ := ztg_spec ht
  split at hs
  · rename_i st9
    cases hs
    refine lv_ifnullN (tgt := t) hx hb hd h2 ?_
    exact kk ad H locs lc _ cells slots h1 hag hn0 hrep hS hl (zokt hst) hlv hcc hss
  · rename_i r st9
    split at hs
    · cases hs
    · rename_i hne
      cases hs
      have e1 : zcv G ad (zr r) = .ref (zad G ad r) := by
        unfold zcv
        dsimp only
        split
        · rename_i q; exact absurd q hne
        · rfl
      show W p l e R s m args below meth c H locs cells slots Q (F0 m pc lc (zcv G ad (zr r) :: st'.map (zcv G ad)))
      rw [e1]
      refine lv_ifnull hx hb hd ?_
      exact kk ad H locs lc _ cells slots hf hag hn0 hrep hS hl (zokt hst) hlv hcc hss
  · cases hs
theorem zone_ifnonnull {n : Int} (E : CallFix p m c cc nL s args zTs own) (X : zCX G s) (hcd : cd[i]? = some (pc, (.ifnonnull n), len, (x, y, z, w), c1, tb)) (hck : zck own cc ini nL cd hn i (pc, (.ifnonnull n), len, (x, y, z, w), c1, tb) = true) (hini : ini = true → meth.name = "<init>")
    (hR : 10 ≤ R.frames ∧ 200 ≤ R.locals ∧ zc h' ≤ c0 + R.cells ∧ zs h' ≤ s0 + R.slots) (hs : zsem zTX (.ifnonnull n) x y z w c1 tb i ls st h = zNx j ls' st' h')
    (kk : zCfg p l e R s m args below meth c Q G cd nL ad0 n0 c0 s0 j ls' st' h') : zCfg p l e R s m args below meth c Q G cd nL ad0 n0 c0 s0 i ls st h := by
  obtain ⟨hx, hb, hml, hown, hts⟩ := E
  intro ad H locs lc pc9 cells slots hpc hag hn0 hrep hS hl hst hlv hcc hss
  have e9 : pc = pc9 := by
    simp only [zpcs, hcd, Option.map_some, Option.some.injEq] at hpc
    exact hpc
  subst e9
  simp only [zck, Bool.and_eq_true, decide_eq_true_eq, zfl] at hck
  obtain ⟨hd, ⟨rfl, hf⟩, ht⟩ := hck
  dsimp only [zsem] at hs
  obtain ⟨t, h1, h2⟩ := ztg_spec ht
  split at hs
  · rename_i st9
    cases hs
    refine lv_ifnonnullN hx hb hd ?_
    exact kk ad H locs lc _ cells slots hf hag hn0 hrep hS hl (zokt hst) hlv hcc hss
  · rename_i r st9
    split at hs
    · cases hs
    · rename_i hne
      cases hs
      have e1 : zcv G ad (zr r) = .ref (zad G ad r) := by
        unfold zcv
        dsimp only
        split
        · rename_i q; exact absurd q hne
        · rfl
      show W p l e R s m args below meth c H locs cells slots Q (F0 m pc lc (zcv G ad (zr r) :: st'.map (zcv G ad)))
      rw [e1]
      refine lv_ifnonnull (tgt := t) hx hb hd h2 ?_
      exact kk ad H locs lc _ cells slots h1 hag hn0 hrep hS hl (zokt hst) hlv hcc hss
  · cases hs
end STEP
