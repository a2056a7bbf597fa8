section STEP
variable {p : Program} {l : Launch} {e : Env} {R : Room} {s : State} {m : MethodId} {args : Array Value} {below : List Frame} {meth : Method} {c : Code} {Q : State → Prop}
variable {G : zCx} {cd : List zA} {nL : Nat} {own : String} {cc : ByteArray} {ad0 : Nat → Nat} {n0 c0 s0 i j : Nat} {ls ls' : zLV} {st st' : List zV} {h h' : zH} {hn : Nat × Nat} {ini : Bool} {pc len x y z w : Nat} {c1 : Int32 × Int64} {tb : List (Int32 × Nat)}
theorem zone_getfield {n : Nat} (E : CallFix p m c cc nL s args zTs own) (X : zCX G s) (hcd : cd[i]? = some (pc, (.getfield n), len, (x, y, z, w), c1, tb)) (hck : zck own cc ini nL cd hn i (pc, (.getfield n), len, (x, y, z, w), c1, tb) = true) (hini : ini = true → meth.name = "<init>")
    (hR : 10 ≤ R.frames ∧ 200 ≤ R.locals ∧ zc h' ≤ c0 + R.cells ∧ zs h' ≤ s0 + R.slots) (hs : zsem zTX (.getfield n) x y z w c1 tb i ls st h = zNx j ls' st' h')
    (kk : zCfg p l e R s m args below meth c Q G cd nL ad0 n0 c0 s0 j ls' st' h') : zCfg p l e R s m args below meth c Q G cd nL ad0 n0 c0 s0 i ls st h := by
  obtain ⟨hx, hb, hml, hown, hts⟩ := E
  intro ad H locs lc pc9 cells slots hpc hag hn0 hrep hS hl hst hlv hcc hss
  have e9 : pc = pc9 := by
    simp only [zpcs, hcd, Option.map_some, Option.some.injEq] at hpc
    exact hpc
  subst e9
  simp only [zck, Bool.and_eq_true, decide_eq_true_eq, zfl] at hck
  obtain ⟨hd, ⟨rfl, hf⟩, hck⟩ := hck
  dsimp only [zsem] at hs
  split at hs
  · rename_i a k m9 st9
    split at hs
    · rename_i hkx
      have hkx := Nat.eq_of_beq_eq_true hkx
      subst hkx
      by_cases h30 : k = 30
      · subst h30
        simp only [Bool.and_eq_true, decide_eq_true_eq] at hck
        obtain ⟨hw, hz⟩ := hck
        have hi9 : a < 45 := zokh hst
        rcases hz with rfl | rfl
        · cases hs
          refine vk_getf (rest := st9.map (zcv G ad)) hx hb (X.2.1 a hi9).2.2.1 hS hown (hts _ (zwd_in hw)) (fun _ q => q) hd ?_
          exact kk ad H locs lc _ cells slots hf hag hn0 hrep hS hl (zokc ⟨hi9, rfl⟩ (zokt hst)) hlv hcc hss
        · cases hs
          refine vk_getf (rest := st9.map (zcv G ad)) hx hb (X.2.1 a hi9).2.1 hS hown (hts _ (zwd_in hw)) (fun _ q => q) hd ?_
          exact kk ad H locs lc _ cells slots hf hag hn0 hrep hS hl (zokc trivial (zokt hst)) hlv hcc hss
      · have hck2 : k < 12 ∧ y < znf k ∧ zwd hn (Cond.fieldLink own n ((zcls k).2.1 y).1 ((zcls k).2.1 y).2.1 ((zcls k).2.1 y).2.2.1) = true ∧ z = if zisr (zty k y) then 1 else 0 := by
          split at hck
          · exact absurd rfl h30
          · simp only [Bool.and_eq_true, decide_eq_true_eq] at hck
            exact ⟨hck.1.1.1, hck.1.1.2, hck.1.2, hck.2⟩
        obtain ⟨hx12, hy, hw, hz⟩ := hck2
        have hc0 := zcls_at k hx12
        have hcn := zcls_n k hx12
        have ek : (zK h)[a]? = some (k, m9) := (zok_new (by omega)).mp (zokh hst)
        have ews := zws_get G ad ek
        rw [zen_obj G ad h a hx12] at ews
        have e0 : zcv G ad (zr (a, k, m9)) = .ref (ad a) := zcv_new G ad (by omega)
        have k0 : W p l e R s m args below meth c H locs cells slots Q (F0 m (pc + 3) lc (zfv G ad h a k y :: st9.map (zcv G ad))) := by
          by_cases hz2 : zisr (zty k y) = true
          · rw [if_pos hz2] at hz
            subst hz
            cases hs
            have k9 : zok G (zK h) (zq (zR h a y)) := by
              cases e2 : zR h a y with
              | none => trivial
              | some r => exact hrep.2.2.1 _ _ _ e2
            rw [zfv_ref hz2]
            exact kk ad H locs lc _ cells slots hf hag hn0 hrep hS hl (zokc k9 (zokt hst)) hlv hcc hss
          · rw [if_neg hz2] at hz
            subst hz
            cases hs
            rw [zfv_int (by simpa using hz2)]
            exact kk ad H locs lc _ cells slots hf hag hn0 hrep hS hl (zokc trivial (zokt hst)) hlv hcc hss
        show W p l e R s m args below meth c H locs cells slots Q (F0 m pc lc (zcv G ad (zr (a, k, m9)) :: st9.map (zcv G ad)))
        rw [e0]
        exact va_get (C := (zcls k).1) (T := (zcls k).2.1) (N := (zcls k).2.2) (rest := st9.map (zcv G ad)) hx hb hts (zlays k hx12) hown X.1 hrep.1 a ews hc0 y (by rw [hcn]; exact hy) (hts _ (zwd_in hw)) (fun _ q => q) (zfs_get hy _) hd k0
    · cases hs
  · cases hs
theorem zone_putfield {n : Nat} (E : CallFix p m c cc nL s args zTs own) (X : zCX G s) (hcd : cd[i]? = some (pc, (.putfield n), len, (x, y, z, w), c1, tb)) (hck : zck own cc ini nL cd hn i (pc, (.putfield n), len, (x, y, z, w), c1, tb) = true) (hini : ini = true → meth.name = "<init>")
    (hR : 10 ≤ R.frames ∧ 200 ≤ R.locals ∧ zc h' ≤ c0 + R.cells ∧ zs h' ≤ s0 + R.slots) (hs : zsem zTX (.putfield n) x y z w c1 tb i ls st h = zNx j ls' st' h')
    (kk : zCfg p l e R s m args below meth c Q G cd nL ad0 n0 c0 s0 j ls' st' h') : zCfg p l e R s m args below meth c Q G cd nL ad0 n0 c0 s0 i ls st h := by
  obtain ⟨hx, hb, hml, hown, hts⟩ := E
  intro ad H locs lc pc9 cells slots hpc hag hn0 hrep hS hl hst hlv hcc hss
  have e9 : pc = pc9 := by
    simp only [zpcs, hcd, Option.map_some, Option.some.injEq] at hpc
    exact hpc
  subst e9
  simp only [zck, Bool.and_eq_true, decide_eq_true_eq, zfl] at hck
  obtain ⟨hd, ⟨⟨⟨⟨⟨rfl, hf⟩, hx12⟩, hy⟩, hw⟩, hfi⟩, hty⟩ := hck
  dsimp only [zsem] at hs
  split at hs
  · split at hs
    · rename_i a k m9 st9
      split at hs
      · rename_i hkx
        have hkx := Nat.eq_of_beq_eq_true hkx
        subst hkx
        cases hs
        have hisr : zisr (zty k y) = true := by
          revert hty
          cases zty k y <;> simp [zisr]
        have hv9 := X.rf ad none
        have hnar : narrow (zty k y) (zcv G ad (zq none)) = zcv G ad (zq none) := by
          revert hty
          rcases hv9 with q | ⟨q, q2⟩
          · rw [q]; cases zty k y <;> simp [narrow]
          · rw [q2]; cases zty k y <;> simp [narrow]
        have hfit : fits (zty k y) (zcv G ad (zq none)) = true := by
          revert hty
          rcases hv9 with q | ⟨q, q2⟩
          · rw [q]; cases zty k y <;> simp [fits]
          · rw [q2]; cases zty k y <;> simp [fits]
        have hc0 := zcls_at k hx12
        have hcn := zcls_n k hx12
        have ek : (zK h)[a]? = some (k, m9) := (zok_new (by omega)).mp (zokh (zokt hst))
        have ews := zws_get G ad ek
        rw [zen_obj G ad h a hx12] at ews
        have e0 : zcv G ad (zr (a, k, m9)) = .ref (ad a) := zcv_new G ad (by omega)
        have hlen : y < ((List.range (znf k)).map (zfv G ad h a k)).length := by simp; exact hy
        have ew := zws_wR_obj G ad ek hx12 hy hisr none
        have k0 : ∀ (H1 : Heap) (locs1 : List Loc), va_P (gD G) vwCl ((zws G ad h).set a (ad a, .inr (k, ((List.range (znf k)).map (zfv G ad h a k)).set y (zcv G ad (zq none))))) H1 → va_D (zAf G) ((zws G ad h).set a (ad a, .inr (k, ((List.range (znf k)).map (zfv G ad h a k)).set y (zcv G ad (zq none))))) → va_S (zAf G) s.heap H1 locs1 → W p l e R s m args below meth c H1 locs1 cells slots Q (F0 m (pc + 3) lc (st'.map (zcv G ad))) := fun H1 locs1 g1 g2 g3 => by
          exact kk ad H1 locs1 lc _ cells slots hf hag hn0 ⟨by rw [ew]; exact g1, by rw [ew]; exact g2, zRok_wR hrep.2.2.1 (fun r q => by cases q), hrep.2.2.2.1, zRk_wR hrep.2.2.2.2 (fun r q => by cases q)⟩ g3 hl (zokt (zokt hst)) hlv hcc hss
        show W p l e R s m args below meth c H locs cells slots Q (F0 m pc lc ((zcv G ad (zq none)) :: zcv G ad (zr (a, k, m9)) :: st'.map (zcv G ad)))
        rw [e0]
        cases hfin : ((zcls k).2.1 y).2.2.2 with
        | false => exact va_put (C := (zcls k).1) (T := (zcls k).2.1) (N := (zcls k).2.2) (rest := st'.map (zcv G ad)) hx hb hts (zlays k hx12) (zty k) (ztyok k hx12) (znmok k hx12) hown X.1 hrep.1 hrep.2.1 hS a ews hc0 y (by rw [hcn]; exact hy) (hts _ (zwd_in hw)) (fun _ q => q) hfin (ztyok k hx12 y (by rw [hcn]; exact hy)) hnar hfit hlen hd k0
        | true =>
          rw [hfin, if_pos rfl] at hfi
          obtain ⟨hi1, hi2⟩ : ini = true ∧ ((zcls k).2.1 y).1 = own := by simpa using hfi
          exact va_putF (C := (zcls k).1) (T := (zcls k).2.1) (N := (zcls k).2.2) (rest := st'.map (zcv G ad)) hx hb hts (zlays k hx12) (zty k) (ztyok k hx12) (znmok k hx12) hown X.1 hrep.1 hrep.2.1 hS a ews hc0 y (by rw [hcn]; exact hy) (hts _ (zwd_in hw)) (fun _ q => q) hfin (hini hi1) hi2 (ztyok k hx12 y (by rw [hcn]; exact hy)) hnar hfit hlen hd k0
      · cases hs
    · rename_i b kb nb a k m9 st9
      split at hs
      · rename_i hkx
        simp only [Bool.and_eq_true, Bool.not_eq_true'] at hkx
        obtain ⟨hkx, hk34⟩ := hkx
        have hkx := Nat.eq_of_beq_eq_true hkx
        subst hkx
        cases hs
        have hisr : zisr (zty k y) = true := by
          revert hty
          cases zty k y <;> simp [zisr]
        have hv9 := X.rf ad (some (b, kb, nb))
        have hnar : narrow (zty k y) (zcv G ad (zq (some (b, kb, nb)))) = zcv G ad (zq (some (b, kb, nb))) := by
          revert hty
          rcases hv9 with q | ⟨q, q2⟩
          · rw [q]; cases zty k y <;> simp [narrow]
          · rw [q2]; cases zty k y <;> simp [narrow]
        have hfit : fits (zty k y) (zcv G ad (zq (some (b, kb, nb)))) = true := by
          revert hty
          rcases hv9 with q | ⟨q, q2⟩
          · rw [q]; cases zty k y <;> simp [fits]
          · rw [q2]; cases zty k y <;> simp [fits]
        have hc0 := zcls_at k hx12
        have hcn := zcls_n k hx12
        have ek : (zK h)[a]? = some (k, m9) := (zok_new (by omega)).mp (zokh (zokt hst))
        have ews := zws_get G ad ek
        rw [zen_obj G ad h a hx12] at ews
        have e0 : zcv G ad (zr (a, k, m9)) = .ref (ad a) := zcv_new G ad (by omega)
        have hlen : y < ((List.range (znf k)).map (zfv G ad h a k)).length := by simp; exact hy
        have ew := zws_wR_obj G ad ek hx12 hy hisr (some (b, kb, nb))
        have k0 : ∀ (H1 : Heap) (locs1 : List Loc), va_P (gD G) vwCl ((zws G ad h).set a (ad a, .inr (k, ((List.range (znf k)).map (zfv G ad h a k)).set y (zcv G ad (zq (some (b, kb, nb))))))) H1 → va_D (zAf G) ((zws G ad h).set a (ad a, .inr (k, ((List.range (znf k)).map (zfv G ad h a k)).set y (zcv G ad (zq (some (b, kb, nb))))))) → va_S (zAf G) s.heap H1 locs1 → W p l e R s m args below meth c H1 locs1 cells slots Q (F0 m (pc + 3) lc (st'.map (zcv G ad))) := fun H1 locs1 g1 g2 g3 => by
          exact kk ad H1 locs1 lc _ cells slots hf hag hn0 ⟨by rw [ew]; exact g1, by rw [ew]; exact g2, zRok_wR hrep.2.2.1 (fun r q => by cases q; exact zokh hst), hrep.2.2.2.1, zRk_wR hrep.2.2.2.2 (fun r q => by cases q; exact Nat.ne_of_beq_eq_false hk34)⟩ g3 hl (zokt (zokt hst)) hlv hcc hss
        show W p l e R s m args below meth c H locs cells slots Q (F0 m pc lc ((zcv G ad (zq (some (b, kb, nb)))) :: zcv G ad (zr (a, k, m9)) :: st'.map (zcv G ad)))
        rw [e0]
        cases hfin : ((zcls k).2.1 y).2.2.2 with
        | false => exact va_put (C := (zcls k).1) (T := (zcls k).2.1) (N := (zcls k).2.2) (rest := st'.map (zcv G ad)) hx hb hts (zlays k hx12) (zty k) (ztyok k hx12) (znmok k hx12) hown X.1 hrep.1 hrep.2.1 hS a ews hc0 y (by rw [hcn]; exact hy) (hts _ (zwd_in hw)) (fun _ q => q) hfin (ztyok k hx12 y (by rw [hcn]; exact hy)) hnar hfit hlen hd k0
        | true =>
          rw [hfin, if_pos rfl] at hfi
          obtain ⟨hi1, hi2⟩ : ini = true ∧ ((zcls k).2.1 y).1 = own := by simpa using hfi
          exact va_putF (C := (zcls k).1) (T := (zcls k).2.1) (N := (zcls k).2.2) (rest := st'.map (zcv G ad)) hx hb hts (zlays k hx12) (zty k) (ztyok k hx12) (znmok k hx12) hown X.1 hrep.1 hrep.2.1 hS a ews hc0 y (by rw [hcn]; exact hy) (hts _ (zwd_in hw)) (fun _ q => q) hfin (hini hi1) hi2 (ztyok k hx12 y (by rw [hcn]; exact hy)) hnar hfit hlen hd k0
      · cases hs
    · cases hs
  · split at hs
    · rename_i v a k m9 st9
      split at hs
      · rename_i hkx
        have hkx := Nat.eq_of_beq_eq_true hkx
        subst hkx
        obtain ⟨hbo, e1⟩ := zcond hs
        cases e1
        have hisr : zisr (zty k y) = false := by
          revert hty
          cases zty k y <;> simp [zisr]
        have hv9 : v = 0 ∨ v = 1 := by simpa [zbool] using hbo
        have hnar : narrow (zty k y) (.int v) = .int v := by
          revert hty
          rcases hv9 with rfl | rfl <;> cases zty k y <;> simp [narrow]
        have hfit : fits (zty k y) (.int v) = true := by
          revert hty
          rcases hv9 with rfl | rfl <;> cases zty k y <;> simp [fits]
        have hc0 := zcls_at k hx12
        have hcn := zcls_n k hx12
        have ek : (zK h)[a]? = some (k, m9) := (zok_new (by omega)).mp (zokh (zokt hst))
        have ews := zws_get G ad ek
        rw [zen_obj G ad h a hx12] at ews
        have e0 : zcv G ad (zr (a, k, m9)) = .ref (ad a) := zcv_new G ad (by omega)
        have hlen : y < ((List.range (znf k)).map (zfv G ad h a k)).length := by simp; exact hy
        have ew := zws_wI_obj G ad ek hx12 hy hisr v
        have k0 : ∀ (H1 : Heap) (locs1 : List Loc), va_P (gD G) vwCl ((zws G ad h).set a (ad a, .inr (k, ((List.range (znf k)).map (zfv G ad h a k)).set y (.int v)))) H1 → va_D (zAf G) ((zws G ad h).set a (ad a, .inr (k, ((List.range (znf k)).map (zfv G ad h a k)).set y (.int v)))) → va_S (zAf G) s.heap H1 locs1 → W p l e R s m args below meth c H1 locs1 cells slots Q (F0 m (pc + 3) lc (st'.map (zcv G ad))) := fun H1 locs1 g1 g2 g3 => by
          exact kk ad H1 locs1 lc _ cells slots hf hag hn0 ⟨by rw [ew]; exact g1, by rw [ew]; exact g2, hrep.2.2⟩ g3 hl (zokt (zokt hst)) hlv hcc hss
        show W p l e R s m args below meth c H locs cells slots Q (F0 m pc lc ((.int v) :: zcv G ad (zr (a, k, m9)) :: st'.map (zcv G ad)))
        rw [e0]
        cases hfin : ((zcls k).2.1 y).2.2.2 with
        | false => exact va_put (C := (zcls k).1) (T := (zcls k).2.1) (N := (zcls k).2.2) (rest := st'.map (zcv G ad)) hx hb hts (zlays k hx12) (zty k) (ztyok k hx12) (znmok k hx12) hown X.1 hrep.1 hrep.2.1 hS a ews hc0 y (by rw [hcn]; exact hy) (hts _ (zwd_in hw)) (fun _ q => q) hfin (ztyok k hx12 y (by rw [hcn]; exact hy)) hnar hfit hlen hd k0
        | true =>
          rw [hfin, if_pos rfl] at hfi
          obtain ⟨hi1, hi2⟩ : ini = true ∧ ((zcls k).2.1 y).1 = own := by simpa using hfi
          exact va_putF (C := (zcls k).1) (T := (zcls k).2.1) (N := (zcls k).2.2) (rest := st'.map (zcv G ad)) hx hb hts (zlays k hx12) (zty k) (ztyok k hx12) (znmok k hx12) hown X.1 hrep.1 hrep.2.1 hS a ews hc0 y (by rw [hcn]; exact hy) (hts _ (zwd_in hw)) (fun _ q => q) hfin (hini hi1) hi2 (ztyok k hx12 y (by rw [hcn]; exact hy)) hnar hfit hlen hd k0
      · cases hs
    · cases hs
  · rename_i hz1 hz2
    split at hs
    · rename_i v a k m9 st9
      split at hs
      · rename_i hkx
        have hkx := Nat.eq_of_beq_eq_true hkx
        subst hkx
        cases hs
        have hint : zty k y = .int := by
          revert hty
          cases zty k y <;> simp <;> intro q <;> first | exact hz1 q | exact hz2 q
        have hisr : zisr (zty k y) = false := by rw [hint]; rfl
        have hnar : narrow (zty k y) (.int v) = .int v := by rw [hint]; rfl
        have hfit : fits (zty k y) (.int v) = true := by rw [hint]; rfl
        have hc0 := zcls_at k hx12
        have hcn := zcls_n k hx12
        have ek : (zK h)[a]? = some (k, m9) := (zok_new (by omega)).mp (zokh (zokt hst))
        have ews := zws_get G ad ek
        rw [zen_obj G ad h a hx12] at ews
        have e0 : zcv G ad (zr (a, k, m9)) = .ref (ad a) := zcv_new G ad (by omega)
        have hlen : y < ((List.range (znf k)).map (zfv G ad h a k)).length := by simp; exact hy
        have ew := zws_wI_obj G ad ek hx12 hy hisr v
        have k0 : ∀ (H1 : Heap) (locs1 : List Loc), va_P (gD G) vwCl ((zws G ad h).set a (ad a, .inr (k, ((List.range (znf k)).map (zfv G ad h a k)).set y (.int v)))) H1 → va_D (zAf G) ((zws G ad h).set a (ad a, .inr (k, ((List.range (znf k)).map (zfv G ad h a k)).set y (.int v)))) → va_S (zAf G) s.heap H1 locs1 → W p l e R s m args below meth c H1 locs1 cells slots Q (F0 m (pc + 3) lc (st'.map (zcv G ad))) := fun H1 locs1 g1 g2 g3 => by
          exact kk ad H1 locs1 lc _ cells slots hf hag hn0 ⟨by rw [ew]; exact g1, by rw [ew]; exact g2, hrep.2.2⟩ g3 hl (zokt (zokt hst)) hlv hcc hss
        show W p l e R s m args below meth c H locs cells slots Q (F0 m pc lc ((.int v) :: zcv G ad (zr (a, k, m9)) :: st'.map (zcv G ad)))
        rw [e0]
        cases hfin : ((zcls k).2.1 y).2.2.2 with
        | false => exact va_put (C := (zcls k).1) (T := (zcls k).2.1) (N := (zcls k).2.2) (rest := st'.map (zcv G ad)) hx hb hts (zlays k hx12) (zty k) (ztyok k hx12) (znmok k hx12) hown X.1 hrep.1 hrep.2.1 hS a ews hc0 y (by rw [hcn]; exact hy) (hts _ (zwd_in hw)) (fun _ q => q) hfin (ztyok k hx12 y (by rw [hcn]; exact hy)) hnar hfit hlen hd k0
        | true =>
          rw [hfin, if_pos rfl] at hfi
          obtain ⟨hi1, hi2⟩ : ini = true ∧ ((zcls k).2.1 y).1 = own := by simpa using hfi
          exact va_putF (C := (zcls k).1) (T := (zcls k).2.1) (N := (zcls k).2.2) (rest := st'.map (zcv G ad)) hx hb hts (zlays k hx12) (zty k) (ztyok k hx12) (znmok k hx12) hown X.1 hrep.1 hrep.2.1 hS a ews hc0 y (by rw [hcn]; exact hy) (hts _ (zwd_in hw)) (fun _ q => q) hfin (hini hi1) hi2 (ztyok k hx12 y (by rw [hcn]; exact hy)) hnar hfit hlen hd k0
      · cases hs
    · cases hs
theorem zone_getstatic {n : Nat} (E : CallFix p m c cc nL s args zTs own) (X : zCX G s) (hcd : cd[i]? = some (pc, (.getstatic n), len, (x, y, z, w), c1, tb)) (hck : zck own cc ini nL cd hn i (pc, (.getstatic n), len, (x, y, z, w), c1, tb) = true) (hini : ini = true → meth.name = "<init>")
    (hR : 10 ≤ R.frames ∧ 200 ≤ R.locals ∧ zc h' ≤ c0 + R.cells ∧ zs h' ≤ s0 + R.slots) (hs : zsem zTX (.getstatic n) x y z w c1 tb i ls st h = zNx j ls' st' h')
    (kk : zCfg p l e R s m args below meth c Q G cd nL ad0 n0 c0 s0 j ls' st' h') : zCfg p l e R s m args below meth c Q G cd nL ad0 n0 c0 s0 i ls st h := by
  obtain ⟨hx, hb, hml, hown, hts⟩ := E
  intro ad H locs lc pc9 cells slots hpc hag hn0 hrep hS hl hst hlv hcc hss
  have e9 : pc = pc9 := by
    simp only [zpcs, hcd, Option.map_some, Option.some.injEq] at hpc
    exact hpc
  subst e9
  simp only [zck, Bool.and_eq_true, decide_eq_true_eq, zfl] at hck
  obtain ⟨hd, ⟨rfl, hf⟩, hw⟩ := hck
  dsimp only [zsem] at hs
  split at hs
  · cases hs
    refine va_gets (v := .ref (gR G)) (rest := st.map (zcv G ad)) hx hb X.2.2.2.1 hS hown (hts _ (zwd_in hw)) (fun _ q => q) hd ?_
    exact kk ad H locs lc _ cells slots hf hag hn0 hrep hS hl (zokc trivial hst) hlv hcc hss
  · cases hs
    refine va_gets (v := .int 1) (rest := st.map (zcv G ad)) hx hb X.2.2.2.2.2.1 hS hown (hts _ (zwd_in hw)) (fun _ q => q) hd ?_
    exact kk ad H locs lc _ cells slots hf hag hn0 hrep hS hl (zokc trivial hst) hlv hcc hss
  · rename_i hz0 hz1
    cases hs
    have hw2 : zwd hn (Cond.fieldLink own n "jdk/internal/util/Preconditions" "SIOOBE_FORMATTER" "Ljava/util/function/BiFunction;") = true := by
      split at hw
      · exact absurd rfl hz0
      · exact absurd rfl hz1
      · exact hw
    refine va_gets (v := gO G) (rest := st.map (zcv G ad)) hx hb X.2.2.2.2.2.2.1 hS hown (hts _ (zwd_in hw2)) (fun _ q => q) hd ?_
    exact kk ad H locs lc _ cells slots hf hag hn0 hrep hS hl (zokc trivial hst) hlv hcc hss
end STEP
