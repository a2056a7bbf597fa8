theorem zRk_al {h : zH} (hR : ∀ a k r, zR h a k = some r → r.2.1 ≠ 34) (k len n : Nat) : ∀ a f r, zR (zal h k len n) a f = some r → r.2.1 ≠ 34 := by
  intro a f r e
  by_cases ha : a = (zK h).length
  · subst ha
    have h1 : zR (zal h k len n) (zK h).length f = none := by
      show zrow (zR h) (zK h).length (fun _ => none) (zK h).length f = none
      rw [zrow_eq]
    rw [h1] at e; cases e
  · have h1 : zR (zal h k len n) a f = zR h a f := congrFun (zrow_ne (f := zR h) (g := fun _ => none) ha) f
    rw [h1] at e
    exact hR a f r e
theorem zcv_ext {G : zCx} {ad ad' : Nat → Nat} {ks : List (Nat × Nat)} (ha : ∀ j, j < ks.length → ad' j = ad j) {v : zV} (hv : zok G ks v) : zcv G ad' v = zcv G ad v := by
  rcases v with x | x | r
  · rfl
  · rfl
  · cases r with
    | none => rfl
    | some r =>
      have e1 := zad_ext ha hv
      unfold zcv
      dsimp only
      rw [e1]
theorem zmap_ext {G : zCx} {ad ad' : Nat → Nat} {ks : List (Nat × Nat)} {st : List zV} (hst : ∀ v ∈ st, zok G ks v) (ha : ∀ j, j < ks.length → ad' j = ad j) : st.map (zcv G ad') = st.map (zcv G ad) := List.map_congr_left (fun v hv => zcv_ext ha (hst v hv))
theorem zLc_ext {G : zCx} {ad ad' : Nat → Nat} {ks : List (Nat × Nat)} {nL : Nat} {ls : zLV} {lc : Array Slot} (h : zLc G ad nL ls lc) (hlv : ∀ v, some v ∈ ls → zok G ks v) (ha : ∀ j, j < ks.length → ad' j = ad j) : zLc G ad' nL ls lc :=
  ⟨h.1, h.2.1, h.2.2.1, fun i v e => by rw [zcv_ext ha (hlv v (List.mem_of_getElem? e))]; exact h.2.2.2 i v e⟩
section STEP
variable {p : Program} {l : Launch} {e : Env} {R : Room} {s : State} {m : MethodId} {args : Array Value} {below : List Frame} {meth : Method} {c : Code} {Q : State → Prop}
variable {G : zCx} {cd : List zA} {nL : Nat} {own : String} {cc : ByteArray} {ad0 : Nat → Nat} {n0 c0 s0 i j : Nat} {ls ls' : zLV} {st st' : List zV} {h h' : zH} {hn : Nat × Nat} {ini : Bool} {pc len x y z w : Nat} {c1 : Int32 × Int64} {tb : List (Int32 × Nat)}
theorem zone_objinit {n : Nat} (E : CallFix p m c cc nL s args zTs own) (X : zCX G s) (hcd : cd[i]? = some (pc, (.invokespecial n), len, (x, y, z, w), c1, tb)) (hck : zck own cc ini nL cd hn i (pc, (.invokespecial n), len, (x, y, z, w), c1, tb) = true) (hini : ini = true → meth.name = "<init>")
    (hR : 10 ≤ R.frames ∧ 200 ≤ R.locals ∧ zc h' ≤ c0 + R.cells ∧ zs h' ≤ s0 + R.slots) (hs : zsem zTX (.invokespecial n) x y z w c1 tb i ls st h = zNx j ls' st' h')
    (kk : zCfg p l e R s m args below meth c Q G cd nL ad0 n0 c0 s0 j ls' st' h') : zCfg p l e R s m args below meth c Q G cd nL ad0 n0 c0 s0 i ls st h := by
  obtain ⟨hx, hb, hml, hown, hts⟩ := E
  intro ad H locs lc pc9 cells slots hpc hag hn0 hrep hS hl hst hlv hcc hss
  have e9 : pc = pc9 := by
    simp only [zpcs, hcd, Option.map_some, Option.some.injEq] at hpc
    exact hpc
  subst e9
  simp only [zck, Bool.and_eq_true, decide_eq_true_eq, zfl] at hck
  obtain ⟨hd, ⟨rfl, hf⟩, hw⟩ := hck
  dsimp only [zsem] at hs
  split at hs
  · split at hs
    · rename_i a k n9 st9
      obtain ⟨hcat, e1⟩ := zcond hs
      cases e1
      simp only [Bool.and_eq_true] at hcat
      obtain ⟨hk30, hcat⟩ := hcat
      have hk30 : k < 30 := Nat.le_of_ble_eq_true hk30
      have hcat2 := Nat.le_of_ble_eq_true hcat
      have hcs := zcv_cats (ad := ad) X.cat st'
      show W p l e R s m args below meth c H locs cells slots Q (F0 m pc lc (zcv G ad (zr (a, k, n9)) :: st'.map (zcv G ad)))
      rw [zcv_new G ad hk30]
      refine W.objInit (a := ad a) (rest := st'.map (zcv G ad)) hx hb hown (hts _ (zwd_in hw)) (hts _ zw_obj.1) (hts _ zw_obj.2) rfl (by rw [hml]; exact hl.1) rfl hd (by omega) (by show 2 * 0 + _ + 12 ≤ _; rw [hcs]; omega) ?_
      exact kk ad H locs lc _ cells slots hf hag hn0 hrep hS hl (zokt hst) hlv hcc hss
    · cases hs
  · rename_i hz
    split at hs
    · obtain ⟨-, e1⟩ := zcond hs
      cases e1
    · cases hs
theorem zone_acopy {n : Nat} (E : CallFix p m c cc nL s args zTs own) (X : zCX G s) (hcd : cd[i]? = some (pc, (.invokestatic n), len, (x, y, z, w), c1, tb)) (hck : zck own cc ini nL cd hn i (pc, (.invokestatic n), len, (x, y, z, w), c1, tb) = true) (hini : ini = true → meth.name = "<init>")
    (hR : 10 ≤ R.frames ∧ 200 ≤ R.locals ∧ zc h' ≤ c0 + R.cells ∧ zs h' ≤ s0 + R.slots) (hs : zsem zTX (.invokestatic n) x y z w c1 tb i ls st h = zNx j ls' st' h')
    (kk : zCfg p l e R s m args below meth c Q G cd nL ad0 n0 c0 s0 j ls' st' h') : zCfg p l e R s m args below meth c Q G cd nL ad0 n0 c0 s0 i ls st h := by
  obtain ⟨hx, hb, hml, hown, hts⟩ := E
  intro ad H locs lc pc9 cells slots hpc hag hn0 hrep hS hl hst hlv hcc hss
  have e9 : pc = pc9 := by
    simp only [zpcs, hcd, Option.map_some, Option.some.injEq] at hpc
    exact hpc
  subst e9
  simp only [zck, Bool.and_eq_true, decide_eq_true_eq, zfl] at hck
  obtain ⟨hd, ⟨rfl, hf⟩, hw⟩ := hck
  dsimp only [zsem] at hs
  split at hs
  · split at hs
    · rename_i n9 dp b m9 sp a l9 st9
      obtain ⟨hc9, e1⟩ := zcond hs
      cases e1
      simp only [Bool.and_eq_true, Bool.not_eq_true', decide_eq_false_iff_not, decide_eq_true_eq] at hc9
      obtain ⟨⟨⟨⟨⟨h1, h2⟩, h3⟩, h4⟩, h5⟩, h6⟩ := hc9
      have h6 := Nat.le_of_ble_eq_true h6
      have hcs := zcv_cats (ad := ad) X.cat st'
      have eb : (zK h)[b]? = some (20, m9) := (zok_new (by decide)).mp (zokh (zokt (zokt hst)))
      have ea : (zK h)[a]? = some (20, l9) := (zok_new (by decide)).mp (zokh (zokt (zokt (zokt (zokt hst)))))
      refine va_copyi (ty := .int) (rest := st'.map (zcv G ad)) hx hb (by rw [hml, hl.1]) hown (hts _ (zwd_in hw)) (hts _ zw_acp.1) (hts _ zw_acp.2.1) (hts _ zw_acp.2.2) X.1 hrep.1 hrep.2.1 hS a b 0 0 (zws_get G ad ea) (zws_get G ad eb) rfl rfl rfl h1 h2 h3 h4 h5 (fun _ _ => rfl) (by omega) (by rw [hcs]; have h99 : nativeFrameWords "java/lang/System" "arraycopy" 5 ≤ 150 := (by decide +kernel); omega) hd (fun H1 locs1 g1 g2 g3 => ?_)
      have ew := zws_wA G ad eb (va_cpy (zI h a) (zI h b) sp.toNatClampNeg dp.toNatClampNeg n9.toNatClampNeg)
      exact kk ad H1 locs1 lc _ cells slots hf hag hn0 ⟨by rw [ew]; exact g1, by rw [ew]; exact g2, hrep.2.2⟩ g3 hl (zokt (zokt (zokt (zokt (zokt hst))))) hlv hcc hss
    · cases hs
  · split at hs
    · obtain ⟨-, e1⟩ := zcond hs
      cases e1
    · cases hs
theorem zone_new {n : Nat} (E : CallFix p m c cc nL s args zTs own) (X : zCX G s) (hcd : cd[i]? = some (pc, (.new n), len, (x, y, z, w), c1, tb)) (hck : zck own cc ini nL cd hn i (pc, (.new n), len, (x, y, z, w), c1, tb) = true) (hini : ini = true → meth.name = "<init>")
    (hR : 10 ≤ R.frames ∧ 200 ≤ R.locals ∧ zc h' ≤ c0 + R.cells ∧ zs h' ≤ s0 + R.slots) (hs : zsem zTX (.new n) x y z w c1 tb i ls st h = zNx j ls' st' h')
    (kk : zCfg p l e R s m args below meth c Q G cd nL ad0 n0 c0 s0 j ls' st' h') : zCfg p l e R s m args below meth c Q G cd nL ad0 n0 c0 s0 i ls st h := by
  obtain ⟨hx, hb, hml, hown, hts⟩ := E
  intro ad H locs lc pc9 cells slots hpc hag hn0 hrep hS hl hst hlv hcc hss
  have e9 : pc = pc9 := by
    simp only [zpcs, hcd, Option.map_some, Option.some.injEq] at hpc
    exact hpc
  subst e9
  simp only [zck, Bool.and_eq_true, decide_eq_true_eq, zfl] at hck
  obtain ⟨hd, rfl, hck⟩ := hck
  dsimp only [zsem] at hs
  split at hs
  · cases hs
    simp only [Bool.and_eq_true, decide_eq_true_eq, zfl] at hck
    obtain ⟨⟨⟨hf, hx12⟩, rfl⟩, hw⟩ := hck
    have hc0 := zcls_at x hx12
    have hcn := zcls_n x hx12
    have hA : ∀ q : Nat, s.heap.size ≤ q → zAf G q := fun q h9 => by have := X.2.2.2.2.2.2.2.2.2.2.2.1; unfold zAf; omega
    have hr3 : zc h + 1 ≤ c0 + R.cells := hR.2.2.1
    have hr4 : zs h + znf x ≤ s0 + R.slots := hR.2.2.2
    have hfs : ∀ j9, j9 < (zcls x).2.2 → defaultValue (zty x j9) = vp_V ((List.range (znf x)).map (zfv G ad (zal h x 0 (znf x)) (zK h).length x)) j9 := by
      intro j9 h9
      rw [hcn] at h9
      unfold vp_V
      rw [List.getD_eq_getElem?_getD, zfs_get h9, Option.getD_some, zdv0 x hx12 j9 (by have := znf_le x hx12; omega) h9]
      by_cases hz2 : zisr (zty x j9) = true
      · rw [if_pos hz2, zfv_ref hz2]
        have e1 : zR (zal h x 0 (znf x)) (zK h).length j9 = none := by
          show zrow (zR h) (zK h).length (fun _ => none) (zK h).length j9 = none
          rw [zrow_eq]
        rw [e1]
        rfl
      · rw [if_neg hz2, zfv_int (by simpa using hz2)]
        have e1 : zI (zal h x 0 (znf x)) (zK h).length j9 = 0 := by
          show zrow (zI h) (zK h).length (fun _ => 0) (zK h).length j9 = 0
          rw [zrow_eq]
        rw [e1]
    refine va_new (C := (zcls x).1) (T := (zcls x).2.1) (N := (zcls x).2.2) (rest := st.map (zcv G ad)) hx hb hts (zlays x hx12) (zty x) (ztyok x hx12) hown (hts _ (zwd_in hw)) (hts _ (zinst x hx12).1) (hts _ (zinst x hx12).2) X.1 hrep.1 hrep.2.1 hS hA hc0 hfs (by omega) (by rw [hcn]; omega) hd (fun q H1 g1 g2 g3 => ?_)
    rw [hcn]
    have ew := zws_al G (ad := ad) hrep.2.2.1 x 0 (znf x) q
    rw [zen_obj G ad _ _ hx12] at ew
    have e5 : st.map (zcv G (zae ad (zK h).length q)) = st.map (zcv G ad) := zmap_ext hst (fun j9 h9 => zae_lt h9)
    rw [← e5]
    have e6 : zcv G (zae ad (zK h).length q) (zr ((zK h).length, x, 0)) = .ref q := by rw [zcv_new G _ (by omega), zae_eq]
    rw [← e6]
    exact kk (zae ad (zK h).length q) H1 locs lc _ (cells + 1) (slots + znf x) hf (fun n9 h9 => by rw [zae_lt (by omega)]; exact hag n9 h9) (by show n0 ≤ (zK h ++ [_]).length; simp; omega) ⟨by rw [ew]; exact g1, by rw [ew]; exact g2, zRok_al hrep.2.2.1 _ _ _, hrep.2.2.2.1, zRk_al hrep.2.2.2.2 _ _ _⟩ g3 (zLc_ext hl hlv (fun j9 h9 => zae_lt h9)) (zokc ((zok_new (by omega)).mpr (by show (zK h ++ [_])[(zK h).length]? = _; simp)) (fun u9 h9 => zok_app (hst u9 h9))) (fun v9 h9 => zok_app (hlv v9 h9)) (by show cells + 1 + c0 = zc h + 1; omega) (by show slots + _ + s0 = zs h + _; omega)
  · rename_i hz
    split at hs
    · cases hs
    · cases hs
theorem zone_newarray {t : ArrayType} (E : CallFix p m c cc nL s args zTs own) (X : zCX G s) (hcd : cd[i]? = some (pc, (.newarray t), len, (x, y, z, w), c1, tb)) (hck : zck own cc ini nL cd hn i (pc, (.newarray t), len, (x, y, z, w), c1, tb) = true) (hini : ini = true → meth.name = "<init>")
    (hR : 10 ≤ R.frames ∧ 200 ≤ R.locals ∧ zc h' ≤ c0 + R.cells ∧ zs h' ≤ s0 + R.slots) (hs : zsem zTX (.newarray t) x y z w c1 tb i ls st h = zNx j ls' st' h')
    (kk : zCfg p l e R s m args below meth c Q G cd nL ad0 n0 c0 s0 j ls' st' h') : zCfg p l e R s m args below meth c Q G cd nL ad0 n0 c0 s0 i ls st h := by
  obtain ⟨hx, hb, hml, hown, hts⟩ := E
  intro ad H locs lc pc9 cells slots hpc hag hn0 hrep hS hl hst hlv hcc hss
  have e9 : pc = pc9 := by
    simp only [zpcs, hcd, Option.map_some, Option.some.injEq] at hpc
    exact hpc
  subst e9
  simp only [zck, Bool.and_eq_true, decide_eq_true_eq, zfl] at hck
  obtain ⟨hd, ⟨⟨⟨⟨⟨⟨rfl, hf⟩, hty⟩, hk⟩, hneg⟩, hlen⟩, hmax⟩, hw⟩ := hck
  dsimp only [zsem] at hs
  split at hs
  · rename_i n9 st9
    obtain ⟨hc9, e1⟩ := zcond hs
    have hc9 : n9 = c1.1 := by simpa using hc9
    subst hc9
    cases e1
    rcases hk with rfl | rfl | rfl | rfl
    · skip
      have hr3 : zc h + 1 ≤ c0 + R.cells := hR.2.2.1
      have hr4 : zs h + y ≤ s0 + R.slots := hR.2.2.2
      have hA : ∀ q : Nat, s.heap.size ≤ q → zAf G q := fun q h9 => by have := X.2.2.2.2.2.2.2.2.2.2.2.1; unfold zAf; omega
      refine va_newa (ty := .int) (N' := y) (a0 := (y, .inl (fun _ => 0))) (rest := st9.map (zcv G ad)) hx hb (by rw [hty]; exact hts _ (zwd_in hw)) hty X.1 hrep.1 hrep.2.1 hS hA (fun cA => rfl) hneg hlen (by show y * _ ≤ _; simp only [componentBytes]; omega) (by omega) (by omega) hd (fun q cA H1 gk g1 g2 g3 => ?_)
      have hcA : cA = gA G 20 := by
        have r1 : s.vm.findClass ("[" ++ (FieldType.int).toString) = some cA := (gk.2 5 (cA, .int) rfl).2
        have r2 : s.vm.findClass ("[" ++ (FieldType.int).toString) = some (gA G 20) := (X.1.2 0 (gA G 20, .int) rfl).2
        exact Option.some.inj (r1.symm.trans r2)
      subst hcA
      have ew := zws_al G (ad := ad) hrep.2.2.1 20 y y q
      have ez : zen G ad (zal h 20 y y) (zK h).length (20, y) = .inl (gA G 20, y, .inl (fun _ => 0)) := by
        have e1 : zI (zal h 20 y y) (zK h).length = fun _ => 0 := zrow_eq
        have e2 : zL (zal h 20 y y) (zK h).length = fun _ => 0 := zrow_eq
        simp only [zen, e1, e2]
      rw [ez] at ew
      have e5 : st9.map (zcv G (zae ad (zK h).length q)) = st9.map (zcv G ad) := zmap_ext (zokt hst) (fun j9 h9 => zae_lt h9)
      rw [← e5]
      have e6 : zcv G (zae ad (zK h).length q) (zr ((zK h).length, 20, y)) = .ref q := by rw [zcv_new G _ (by decide), zae_eq]
      rw [← e6]
      exact kk (zae ad (zK h).length q) H1 locs lc _ (cells + 1) (slots + y) hf (fun n9 h9 => by rw [zae_lt (by omega)]; exact hag n9 h9) (by show n0 ≤ (zK h ++ [_]).length; simp; omega) ⟨by rw [ew]; exact g1, by rw [ew]; exact g2, zRok_al hrep.2.2.1 _ _ _, hrep.2.2.2.1, zRk_al hrep.2.2.2.2 _ _ _⟩ g3 (zLc_ext hl hlv (fun j9 h9 => zae_lt h9)) (zokc ((zok_new (by decide)).mpr (by show (zK h ++ [_])[(zK h).length]? = _; simp)) (fun u9 h9 => zok_app ((zokt hst) u9 h9))) (fun v9 h9 => zok_app (hlv v9 h9)) (by show cells + 1 + c0 = zc h + 1; omega) (by show slots + _ + s0 = zs h + _; omega)
    · skip
      have hr3 : zc h + 1 ≤ c0 + R.cells := hR.2.2.1
      have hr4 : zs h + y ≤ s0 + R.slots := hR.2.2.2
      have hA : ∀ q : Nat, s.heap.size ≤ q → zAf G q := fun q h9 => by have := X.2.2.2.2.2.2.2.2.2.2.2.1; unfold zAf; omega
      refine va_newa (ty := .byte) (N' := y) (a0 := (y, .inl (fun _ => 0))) (rest := st9.map (zcv G ad)) hx hb (by rw [hty]; exact hts _ (zwd_in hw)) hty X.1 hrep.1 hrep.2.1 hS hA (fun cA => rfl) hneg hlen (by show y * _ ≤ _; simp only [componentBytes]; omega) (by omega) (by omega) hd (fun q cA H1 gk g1 g2 g3 => ?_)
      have hcA : cA = gA G 21 := by
        have r1 : s.vm.findClass ("[" ++ (FieldType.byte).toString) = some cA := (gk.2 5 (cA, .byte) rfl).2
        have r2 : s.vm.findClass ("[" ++ (FieldType.byte).toString) = some (gA G 21) := (X.1.2 1 (gA G 21, .byte) rfl).2
        exact Option.some.inj (r1.symm.trans r2)
      subst hcA
      have ew := zws_al G (ad := ad) hrep.2.2.1 21 y y q
      have ez : zen G ad (zal h 21 y y) (zK h).length (21, y) = .inl (gA G 21, y, .inl (fun _ => 0)) := by
        have e1 : zI (zal h 21 y y) (zK h).length = fun _ => 0 := zrow_eq
        have e2 : zL (zal h 21 y y) (zK h).length = fun _ => 0 := zrow_eq
        simp only [zen, e1, e2]
      rw [ez] at ew
      have e5 : st9.map (zcv G (zae ad (zK h).length q)) = st9.map (zcv G ad) := zmap_ext (zokt hst) (fun j9 h9 => zae_lt h9)
      rw [← e5]
      have e6 : zcv G (zae ad (zK h).length q) (zr ((zK h).length, 21, y)) = .ref q := by rw [zcv_new G _ (by decide), zae_eq]
      rw [← e6]
      exact kk (zae ad (zK h).length q) H1 locs lc _ (cells + 1) (slots + y) hf (fun n9 h9 => by rw [zae_lt (by omega)]; exact hag n9 h9) (by show n0 ≤ (zK h ++ [_]).length; simp; omega) ⟨by rw [ew]; exact g1, by rw [ew]; exact g2, zRok_al hrep.2.2.1 _ _ _, hrep.2.2.2.1, zRk_al hrep.2.2.2.2 _ _ _⟩ g3 (zLc_ext hl hlv (fun j9 h9 => zae_lt h9)) (zokc ((zok_new (by decide)).mpr (by show (zK h ++ [_])[(zK h).length]? = _; simp)) (fun u9 h9 => zok_app ((zokt hst) u9 h9))) (fun v9 h9 => zok_app (hlv v9 h9)) (by show cells + 1 + c0 = zc h + 1; omega) (by show slots + _ + s0 = zs h + _; omega)
    · skip
      have hr3 : zc h + 1 ≤ c0 + R.cells := hR.2.2.1
      have hr4 : zs h + y ≤ s0 + R.slots := hR.2.2.2
      have hA : ∀ q : Nat, s.heap.size ≤ q → zAf G q := fun q h9 => by have := X.2.2.2.2.2.2.2.2.2.2.2.1; unfold zAf; omega
      refine va_newa (ty := .boolean) (N' := y) (a0 := (y, .inl (fun _ => 0))) (rest := st9.map (zcv G ad)) hx hb (by rw [hty]; exact hts _ (zwd_in hw)) hty X.1 hrep.1 hrep.2.1 hS hA (fun cA => rfl) hneg hlen (by show y * _ ≤ _; simp only [componentBytes]; omega) (by omega) (by omega) hd (fun q cA H1 gk g1 g2 g3 => ?_)
      have hcA : cA = gA G 22 := by
        have r1 : s.vm.findClass ("[" ++ (FieldType.boolean).toString) = some cA := (gk.2 5 (cA, .boolean) rfl).2
        have r2 : s.vm.findClass ("[" ++ (FieldType.boolean).toString) = some (gA G 22) := (X.1.2 2 (gA G 22, .boolean) rfl).2
        exact Option.some.inj (r1.symm.trans r2)
      subst hcA
      have ew := zws_al G (ad := ad) hrep.2.2.1 22 y y q
      have ez : zen G ad (zal h 22 y y) (zK h).length (22, y) = .inl (gA G 22, y, .inl (fun _ => 0)) := by
        have e1 : zI (zal h 22 y y) (zK h).length = fun _ => 0 := zrow_eq
        have e2 : zL (zal h 22 y y) (zK h).length = fun _ => 0 := zrow_eq
        simp only [zen, e1, e2]
      rw [ez] at ew
      have e5 : st9.map (zcv G (zae ad (zK h).length q)) = st9.map (zcv G ad) := zmap_ext (zokt hst) (fun j9 h9 => zae_lt h9)
      rw [← e5]
      have e6 : zcv G (zae ad (zK h).length q) (zr ((zK h).length, 22, y)) = .ref q := by rw [zcv_new G _ (by decide), zae_eq]
      rw [← e6]
      exact kk (zae ad (zK h).length q) H1 locs lc _ (cells + 1) (slots + y) hf (fun n9 h9 => by rw [zae_lt (by omega)]; exact hag n9 h9) (by show n0 ≤ (zK h ++ [_]).length; simp; omega) ⟨by rw [ew]; exact g1, by rw [ew]; exact g2, zRok_al hrep.2.2.1 _ _ _, hrep.2.2.2.1, zRk_al hrep.2.2.2.2 _ _ _⟩ g3 (zLc_ext hl hlv (fun j9 h9 => zae_lt h9)) (zokc ((zok_new (by decide)).mpr (by show (zK h ++ [_])[(zK h).length]? = _; simp)) (fun u9 h9 => zok_app ((zokt hst) u9 h9))) (fun v9 h9 => zok_app (hlv v9 h9)) (by show cells + 1 + c0 = zc h + 1; omega) (by show slots + _ + s0 = zs h + _; omega)
    · skip
      have hr3 : zc h + 1 ≤ c0 + R.cells := hR.2.2.1
      have hr4 : zs h + y ≤ s0 + R.slots := hR.2.2.2
      have hA : ∀ q : Nat, s.heap.size ≤ q → zAf G q := fun q h9 => by have := X.2.2.2.2.2.2.2.2.2.2.2.1; unfold zAf; omega
      refine va_newa (ty := .long) (N' := y) (a0 := (y, .inr (.inl (fun _ => 0)))) (rest := st9.map (zcv G ad)) hx hb (by rw [hty]; exact hts _ (zwd_in hw)) hty X.1 hrep.1 hrep.2.1 hS hA (fun cA => rfl) hneg hlen (by show y * _ ≤ _; simp only [componentBytes]; omega) (by omega) (by omega) hd (fun q cA H1 gk g1 g2 g3 => ?_)
      have hcA : cA = gA G 23 := by
        have r1 : s.vm.findClass ("[" ++ (FieldType.long).toString) = some cA := (gk.2 5 (cA, .long) rfl).2
        have r2 : s.vm.findClass ("[" ++ (FieldType.long).toString) = some (gA G 23) := (X.1.2 3 (gA G 23, .long) rfl).2
        exact Option.some.inj (r1.symm.trans r2)
      subst hcA
      have ew := zws_al G (ad := ad) hrep.2.2.1 23 y y q
      have ez : zen G ad (zal h 23 y y) (zK h).length (23, y) = .inl (gA G 23, y, .inr (.inl (fun _ => 0))) := by
        have e1 : zI (zal h 23 y y) (zK h).length = fun _ => 0 := zrow_eq
        have e2 : zL (zal h 23 y y) (zK h).length = fun _ => 0 := zrow_eq
        simp only [zen, e1, e2]
      rw [ez] at ew
      have e5 : st9.map (zcv G (zae ad (zK h).length q)) = st9.map (zcv G ad) := zmap_ext (zokt hst) (fun j9 h9 => zae_lt h9)
      rw [← e5]
      have e6 : zcv G (zae ad (zK h).length q) (zr ((zK h).length, 23, y)) = .ref q := by rw [zcv_new G _ (by decide), zae_eq]
      rw [← e6]
      exact kk (zae ad (zK h).length q) H1 locs lc _ (cells + 1) (slots + y) hf (fun n9 h9 => by rw [zae_lt (by omega)]; exact hag n9 h9) (by show n0 ≤ (zK h ++ [_]).length; simp; omega) ⟨by rw [ew]; exact g1, by rw [ew]; exact g2, zRok_al hrep.2.2.1 _ _ _, hrep.2.2.2.1, zRk_al hrep.2.2.2.2 _ _ _⟩ g3 (zLc_ext hl hlv (fun j9 h9 => zae_lt h9)) (zokc ((zok_new (by decide)).mpr (by show (zK h ++ [_])[(zK h).length]? = _; simp)) (fun u9 h9 => zok_app ((zokt hst) u9 h9))) (fun v9 h9 => zok_app (hlv v9 h9)) (by show cells + 1 + c0 = zc h + 1; omega) (by show slots + _ + s0 = zs h + _; omega)
  · cases hs
theorem zone_anewarray {n : Nat} (E : CallFix p m c cc nL s args zTs own) (X : zCX G s) (hcd : cd[i]? = some (pc, (.anewarray n), len, (x, y, z, w), c1, tb)) (hck : zck own cc ini nL cd hn i (pc, (.anewarray n), len, (x, y, z, w), c1, tb) = true) (hini : ini = true → meth.name = "<init>")
    (hR : 10 ≤ R.frames ∧ 200 ≤ R.locals ∧ zc h' ≤ c0 + R.cells ∧ zs h' ≤ s0 + R.slots) (hs : zsem zTX (.anewarray n) x y z w c1 tb i ls st h = zNx j ls' st' h')
    (kk : zCfg p l e R s m args below meth c Q G cd nL ad0 n0 c0 s0 j ls' st' h') : zCfg p l e R s m args below meth c Q G cd nL ad0 n0 c0 s0 i ls st h := by
  obtain ⟨hx, hb, hml, hown, hts⟩ := E
  intro ad H locs lc pc9 cells slots hpc hag hn0 hrep hS hl hst hlv hcc hss
  have e9 : pc = pc9 := by
    simp only [zpcs, hcd, Option.map_some, Option.some.injEq] at hpc
    exact hpc
  subst e9
  simp only [zck, Bool.and_eq_true, decide_eq_true_eq, zfl] at hck
  obtain ⟨hd, ⟨⟨⟨⟨rfl, hf⟩, hneg⟩, hlen⟩, hmax⟩, hw⟩ := hck
  dsimp only [zsem] at hs
  split at hs
  · rename_i n9 st9
    obtain ⟨hc9, e1⟩ := zcond hs
    have hc9 : n9 = c1.1 := by simpa using hc9
    subst hc9
    cases e1
    have hr3 : zc h + 1 ≤ c0 + R.cells := hR.2.2.1
    have hr4 : zs h + y ≤ s0 + R.slots := hR.2.2.2
    have hA : ∀ q : Nat, s.heap.size ≤ q → zAf G q := fun q h9 => by have := X.2.2.2.2.2.2.2.2.2.2.2.1; unfold zAf; omega
    refine va_newq (N' := y) (rest := st9.map (zcv G ad)) hx hb hown (hts _ (zwd_in hw)) X.2.2.2.2.2.2.2.2.2.2.2.2.2.1 X.1 hrep.1 hrep.2.1 hS hA hneg hlen (by omega) (by omega) (by omega) hd (fun q cA H1 gk g1 g2 g3 => ?_)
    have hcA : cA = gA G 24 := by
      obtain ⟨-, -, -, -, -, r1⟩ := (gk.2 5 (cA, .object "java/lang/String") rfl).2
      obtain ⟨-, -, -, -, -, r2⟩ := (X.1.2 4 (gA G 24, .object "java/lang/String") rfl).2
      exact Option.some.inj (r1.symm.trans r2)
    subst hcA
    have ew := zws_al G (ad := ad) hrep.2.2.1 24 y y q
    have ez : zen G ad (zal h 24 y y) (zK h).length (24, y) = .inl (gA G 24, y, .inr (.inr (.inr (.inr (fun _ => none))))) := by
      have e1 : zR (zal h 24 y y) (zK h).length = fun _ => none := zrow_eq
      simp only [zen, e1, Option.map_none]
    rw [ez] at ew
    have e5 : st9.map (zcv G (zae ad (zK h).length q)) = st9.map (zcv G ad) := zmap_ext (zokt hst) (fun j9 h9 => zae_lt h9)
    rw [← e5]
    have e6 : zcv G (zae ad (zK h).length q) (zr ((zK h).length, 24, y)) = .ref q := by rw [zcv_new G _ (by decide), zae_eq]
    rw [← e6]
    exact kk (zae ad (zK h).length q) H1 locs lc _ (cells + 1) (slots + y) hf (fun n9 h9 => by rw [zae_lt (by omega)]; exact hag n9 h9) (by show n0 ≤ (zK h ++ [_]).length; simp; omega) ⟨by rw [ew]; exact g1, by rw [ew]; exact g2, zRok_al hrep.2.2.1 _ _ _, hrep.2.2.2.1, zRk_al hrep.2.2.2.2 _ _ _⟩ g3 (zLc_ext hl hlv (fun j9 h9 => zae_lt h9)) (zokc ((zok_new (by decide)).mpr (by show (zK h ++ [_])[(zK h).length]? = _; simp)) (fun u9 h9 => zok_app ((zokt hst) u9 h9))) (fun v9 h9 => zok_app (hlv v9 h9)) (by show cells + 1 + c0 = zc h + 1; omega) (by show slots + _ + s0 = zs h + _; omega)
  · cases hs
end STEP
