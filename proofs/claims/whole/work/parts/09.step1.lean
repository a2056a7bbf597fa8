/-! ===== one instruction ===== -/
theorem zokc {G : zCx} {ks : List (Nat × Nat)} {v : zV} {st : List zV} (h1 : zok G ks v) (h2 : ∀ u ∈ st, zok G ks u) : ∀ u ∈ v :: st, zok G ks u := fun u hu => (List.mem_cons.mp hu).elim (fun e => by rw [e]; exact h1) (h2 u)
theorem zokt {G : zCx} {ks : List (Nat × Nat)} {v : zV} {st : List zV} (h2 : ∀ u ∈ v :: st, zok G ks u) : ∀ u ∈ st, zok G ks u := fun u hu => h2 u (List.mem_cons_of_mem _ hu)
theorem zokh {G : zCx} {ks : List (Nat × Nat)} {v : zV} {st : List zV} (h2 : ∀ u ∈ v :: st, zok G ks u) : zok G ks v := h2 v List.mem_cons_self
theorem zokl {G : zCx} {ks : List (Nat × Nat)} {ls : zLV} {i : Nat} {v : zV} (h : ∀ u, some u ∈ ls → zok G ks u) (e : zget ls i = some v) : zok G ks v := h v (List.mem_of_getElem? (zget_some e))
theorem zst_ok {G : zCx} {ks : List (Nat × Nat)} {ls : zLV} {i : Nat} {v : zV} (h : ∀ u, some u ∈ ls → zok G ks u) (hv : zok G ks v) : ∀ u, some u ∈ zst ls i v → zok G ks u := by
  intro u hu
  obtain ⟨j, hj⟩ := List.getElem?_of_mem hu
  rcases zst_get hj with ⟨-, rfl⟩ | ⟨-, h2, -⟩
  · exact hv
  · exact h u (List.mem_of_getElem? h2)
theorem zst2_ok {G : zCx} {ks : List (Nat × Nat)} {ls : zLV} {i : Nat} {v : zV} (h : ∀ u, some u ∈ ls → zok G ks u) (hv : zok G ks v) : ∀ u, some u ∈ zst2 ls i v → zok G ks u := by
  intro u hu
  obtain ⟨j, hj⟩ := List.getElem?_of_mem hu
  rcases zst2_get hj with ⟨-, rfl⟩ | ⟨-, -, h2, -⟩
  · exact hv
  · exact h u (List.mem_of_getElem? h2)
theorem zin_spec {x : Int32} {n : Nat} (h : zin x n = true) : vp_in x n := by
  simp only [zin, Bool.and_eq_true, Bool.not_eq_true', decide_eq_false_iff_not, decide_eq_true_eq] at h
  rintro (q | q)
  · exact h.1 q
  · omega
theorem zcond {α : Type} {b : Bool} {x y : α} (h : cond b (some x) none = some y) : b = true ∧ x = y := by
  cases b with
  | true => exact ⟨rfl, Option.some.inj h⟩
  | false => cases h
theorem zcondN {α : Type} {b : Bool} {x y : α} (h : cond b none (some x) = some y) : b = false ∧ x = y := by
  cases b with
  | true => cases h
  | false => exact ⟨rfl, Option.some.inj h⟩
/-- a place of a method's run: wherever the Statement's machine stands there, it comes to Q -/
def zCfg (p : Program) (l : Launch) (e : Env) (R : Room) (s : State) (m : MethodId) (args : Array Value) (below : List Frame) (meth : Method) (c : Code) (Q : State → Prop) (G : zCx) (cd : List zA) (nL : Nat) (ad0 : Nat → Nat) (n0 c0 s0 : Nat) (i : Nat) (ls : zLV) (st : List zV) (h : zH) : Prop :=
  ∀ (ad : Nat → Nat) (H : Heap) (locs : List Loc) (lc : Array Slot) (pc cells slots : Nat), zpcs cd i = some pc → (∀ n, n < n0 → ad n = ad0 n) → n0 ≤ (zK h).length → zRep G ad h H → va_S (zAf G) s.heap H locs → zLc G ad nL ls lc → (∀ v ∈ st, zok G (zK h) v) → (∀ v, some v ∈ ls → zok G (zK h) v) → cells + c0 = zc h → slots + s0 = zs h →
    W p l e R s m args below meth c H locs cells slots Q (F0 m pc lc (st.map (zcv G ad)))
section STEP
variable {p : Program} {l : Launch} {e : Env} {R : Room} {s : State} {m : MethodId} {args : Array Value} {below : List Frame} {meth : Method} {c : Code} {Q : State → Prop}
variable {G : zCx} {cd : List zA} {nL : Nat} {own : String} {cc : ByteArray} {ad0 : Nat → Nat} {n0 c0 s0 i j : Nat} {ls ls' : zLV} {st st' : List zV} {h h' : zH} {hn : Nat × Nat} {ini : Bool} {pc len x y z w : Nat} {c1 : Int32 × Int64} {tb : List (Int32 × Nat)}
theorem zone_iconst {n : Int} (E : CallFix p m c cc nL s args zTs own) (X : zCX G s) (hcd : cd[i]? = some (pc, (.iconst n), len, (x, y, z, w), c1, tb)) (hck : zck own cc ini nL cd hn i (pc, (.iconst n), len, (x, y, z, w), c1, tb) = true) (hini : ini = true → meth.name = "<init>")
    (hR : 10 ≤ R.frames ∧ 200 ≤ R.locals ∧ zc h' ≤ c0 + R.cells ∧ zs h' ≤ s0 + R.slots) (hs : zsem zTX (.iconst n) x y z w c1 tb i ls st h = zNx j ls' st' h')
    (kk : zCfg p l e R s m args below meth c Q G cd nL ad0 n0 c0 s0 j ls' st' h') : zCfg p l e R s m args below meth c Q G cd nL ad0 n0 c0 s0 i ls st h := by
  obtain ⟨hx, hb, hml, hown, hts⟩ := E
  intro ad H locs lc pc9 cells slots hpc hag hn0 hrep hS hl hst hlv hcc hss
  have e9 : pc = pc9 := by
    simp only [zpcs, hcd, Option.map_some, Option.some.injEq] at hpc
    exact hpc
  subst e9
  simp only [zck, Bool.and_eq_true, decide_eq_true_eq, zfl] at hck
  obtain ⟨hd, ⟨rfl, hf⟩, hv⟩ := hck
  dsimp only [zsem] at hs
  cases hs
  refine lv_iconst hx hb hd hv ?_
  exact kk ad H locs lc _ cells slots hf hag hn0 hrep hS hl (zokc trivial hst) hlv hcc hss
theorem zone_bipush {n : Int} (E : CallFix p m c cc nL s args zTs own) (X : zCX G s) (hcd : cd[i]? = some (pc, (.bipush n), len, (x, y, z, w), c1, tb)) (hck : zck own cc ini nL cd hn i (pc, (.bipush n), len, (x, y, z, w), c1, tb) = true) (hini : ini = true → meth.name = "<init>")
    (hR : 10 ≤ R.frames ∧ 200 ≤ R.locals ∧ zc h' ≤ c0 + R.cells ∧ zs h' ≤ s0 + R.slots) (hs : zsem zTX (.bipush n) x y z w c1 tb i ls st h = zNx j ls' st' h')
    (kk : zCfg p l e R s m args below meth c Q G cd nL ad0 n0 c0 s0 j ls' st' h') : zCfg p l e R s m args below meth c Q G cd nL ad0 n0 c0 s0 i ls st h := by
  obtain ⟨hx, hb, hml, hown, hts⟩ := E
  intro ad H locs lc pc9 cells slots hpc hag hn0 hrep hS hl hst hlv hcc hss
  have e9 : pc = pc9 := by
    simp only [zpcs, hcd, Option.map_some, Option.some.injEq] at hpc
    exact hpc
  subst e9
  simp only [zck, Bool.and_eq_true, decide_eq_true_eq, zfl] at hck
  obtain ⟨hd, ⟨rfl, hf⟩, hv⟩ := hck
  dsimp only [zsem] at hs
  cases hs
  refine lv_bipush hx hb hd hv ?_
  exact kk ad H locs lc _ cells slots hf hag hn0 hrep hS hl (zokc trivial hst) hlv hcc hss
theorem zone_sipush {n : Int} (E : CallFix p m c cc nL s args zTs own) (X : zCX G s) (hcd : cd[i]? = some (pc, (.sipush n), len, (x, y, z, w), c1, tb)) (hck : zck own cc ini nL cd hn i (pc, (.sipush n), len, (x, y, z, w), c1, tb) = true) (hini : ini = true → meth.name = "<init>")
    (hR : 10 ≤ R.frames ∧ 200 ≤ R.locals ∧ zc h' ≤ c0 + R.cells ∧ zs h' ≤ s0 + R.slots) (hs : zsem zTX (.sipush n) x y z w c1 tb i ls st h = zNx j ls' st' h')
    (kk : zCfg p l e R s m args below meth c Q G cd nL ad0 n0 c0 s0 j ls' st' h') : zCfg p l e R s m args below meth c Q G cd nL ad0 n0 c0 s0 i ls st h := by
  obtain ⟨hx, hb, hml, hown, hts⟩ := E
  intro ad H locs lc pc9 cells slots hpc hag hn0 hrep hS hl hst hlv hcc hss
  have e9 : pc = pc9 := by
    simp only [zpcs, hcd, Option.map_some, Option.some.injEq] at hpc
    exact hpc
  subst e9
  simp only [zck, Bool.and_eq_true, decide_eq_true_eq, zfl] at hck
  obtain ⟨hd, ⟨rfl, hf⟩, hv⟩ := hck
  dsimp only [zsem] at hs
  cases hs
  refine lv_sipush hx hb hd hv ?_
  exact kk ad H locs lc _ cells slots hf hag hn0 hrep hS hl (zokc trivial hst) hlv hcc hss
theorem zone_lconst {n : Fin 2} (E : CallFix p m c cc nL s args zTs own) (X : zCX G s) (hcd : cd[i]? = some (pc, (.lconst n), len, (x, y, z, w), c1, tb)) (hck : zck own cc ini nL cd hn i (pc, (.lconst n), len, (x, y, z, w), c1, tb) = true) (hini : ini = true → meth.name = "<init>")
    (hR : 10 ≤ R.frames ∧ 200 ≤ R.locals ∧ zc h' ≤ c0 + R.cells ∧ zs h' ≤ s0 + R.slots) (hs : zsem zTX (.lconst n) x y z w c1 tb i ls st h = zNx j ls' st' h')
    (kk : zCfg p l e R s m args below meth c Q G cd nL ad0 n0 c0 s0 j ls' st' h') : zCfg p l e R s m args below meth c Q G cd nL ad0 n0 c0 s0 i ls st h := by
  obtain ⟨hx, hb, hml, hown, hts⟩ := E
  intro ad H locs lc pc9 cells slots hpc hag hn0 hrep hS hl hst hlv hcc hss
  have e9 : pc = pc9 := by
    simp only [zpcs, hcd, Option.map_some, Option.some.injEq] at hpc
    exact hpc
  subst e9
  simp only [zck, Bool.and_eq_true, decide_eq_true_eq, zfl] at hck
  obtain ⟨hd, ⟨rfl, hf⟩, hv⟩ := hck
  dsimp only [zsem] at hs
  cases hs
  refine lv_lconst hx hb hd hv ?_
  exact kk ad H locs lc _ cells slots hf hag hn0 hrep hS hl (zokc trivial hst) hlv hcc hss
theorem zone_aconst_null (E : CallFix p m c cc nL s args zTs own) (X : zCX G s) (hcd : cd[i]? = some (pc, .aconst_null, len, (x, y, z, w), c1, tb)) (hck : zck own cc ini nL cd hn i (pc, .aconst_null, len, (x, y, z, w), c1, tb) = true) (hini : ini = true → meth.name = "<init>")
    (hR : 10 ≤ R.frames ∧ 200 ≤ R.locals ∧ zc h' ≤ c0 + R.cells ∧ zs h' ≤ s0 + R.slots) (hs : zsem zTX .aconst_null x y z w c1 tb i ls st h = zNx j ls' st' h')
    (kk : zCfg p l e R s m args below meth c Q G cd nL ad0 n0 c0 s0 j ls' st' h') : zCfg p l e R s m args below meth c Q G cd nL ad0 n0 c0 s0 i ls st h := by
  obtain ⟨hx, hb, hml, hown, hts⟩ := E
  intro ad H locs lc pc9 cells slots hpc hag hn0 hrep hS hl hst hlv hcc hss
  have e9 : pc = pc9 := by
    simp only [zpcs, hcd, Option.map_some, Option.some.injEq] at hpc
    exact hpc
  subst e9
  simp only [zck, Bool.and_eq_true, decide_eq_true_eq, zfl] at hck
  obtain ⟨hd, rfl, hf⟩ := hck
  dsimp only [zsem] at hs
  cases hs
  refine lv_null hx hb hd ?_
  exact kk ad H locs lc _ cells slots hf hag hn0 hrep hS hl (zokc trivial hst) hlv hcc hss
theorem zone_ldc2_w {n : Nat} (E : CallFix p m c cc nL s args zTs own) (X : zCX G s) (hcd : cd[i]? = some (pc, (.ldc2_w n), len, (x, y, z, w), c1, tb)) (hck : zck own cc ini nL cd hn i (pc, (.ldc2_w n), len, (x, y, z, w), c1, tb) = true) (hini : ini = true → meth.name = "<init>")
    (hR : 10 ≤ R.frames ∧ 200 ≤ R.locals ∧ zc h' ≤ c0 + R.cells ∧ zs h' ≤ s0 + R.slots) (hs : zsem zTX (.ldc2_w n) x y z w c1 tb i ls st h = zNx j ls' st' h')
    (kk : zCfg p l e R s m args below meth c Q G cd nL ad0 n0 c0 s0 j ls' st' h') : zCfg p l e R s m args below meth c Q G cd nL ad0 n0 c0 s0 i ls st h := by
  obtain ⟨hx, hb, hml, hown, hts⟩ := E
  intro ad H locs lc pc9 cells slots hpc hag hn0 hrep hS hl hst hlv hcc hss
  have e9 : pc = pc9 := by
    simp only [zpcs, hcd, Option.map_some, Option.some.injEq] at hpc
    exact hpc
  subst e9
  simp only [zck, Bool.and_eq_true, decide_eq_true_eq, zfl] at hck
  obtain ⟨hd, ⟨rfl, hf⟩, hv⟩ := hck
  dsimp only [zsem] at hs
  cases hs
  refine lv_ldc2 hx hb hown (hts _ (zwd_in hv)) hd ?_
  exact kk ad H locs lc _ cells slots hf hag hn0 hrep hS hl (zokc trivial hst) hlv hcc hss
theorem zone_ldc {n : Nat} (E : CallFix p m c cc nL s args zTs own) (X : zCX G s) (hcd : cd[i]? = some (pc, (.ldc n), len, (x, y, z, w), c1, tb)) (hck : zck own cc ini nL cd hn i (pc, (.ldc n), len, (x, y, z, w), c1, tb) = true) (hini : ini = true → meth.name = "<init>")
    (hR : 10 ≤ R.frames ∧ 200 ≤ R.locals ∧ zc h' ≤ c0 + R.cells ∧ zs h' ≤ s0 + R.slots) (hs : zsem zTX (.ldc n) x y z w c1 tb i ls st h = zNx j ls' st' h')
    (kk : zCfg p l e R s m args below meth c Q G cd nL ad0 n0 c0 s0 j ls' st' h') : zCfg p l e R s m args below meth c Q G cd nL ad0 n0 c0 s0 i ls st h := by
  obtain ⟨hx, hb, hml, hown, hts⟩ := E
  intro ad H locs lc pc9 cells slots hpc hag hn0 hrep hS hl hst hlv hcc hss
  have e9 : pc = pc9 := by
    simp only [zpcs, hcd, Option.map_some, Option.some.injEq] at hpc
    exact hpc
  subst e9
  simp only [zck, Bool.and_eq_true, decide_eq_true_eq, zfl] at hck
  obtain ⟨hd, ⟨rfl, hf⟩, hv⟩ := hck
  dsimp only [zsem] at hs
  cases z with
  | zero =>
    cases hs
    refine lv_ldc hx hb hown (hts _ (zwd_in hv)) hd ?_
    exact kk ad H locs lc _ cells slots hf hag hn0 hrep hS hl (zokc trivial hst) hlv hcc hss
  | succ z =>
    cases hs
    simp only [Bool.and_eq_true, decide_eq_true_eq] at hv
    obtain ⟨hy, hv⟩ := hv
    obtain ⟨⟨o9, k9, t9⟩, e1, e2⟩ := Option.map_eq_some_iff.mp hv
    cases e2
    refine va_ldcS hx hb hown (q := gS G y) (X.2.2.1 y _ e1) hd ?_
    exact kk ad H locs lc _ cells slots hf hag hn0 hrep hS hl (zokc hy hst) hlv hcc hss
theorem zone_ldc_w {n : Nat} (E : CallFix p m c cc nL s args zTs own) (X : zCX G s) (hcd : cd[i]? = some (pc, (.ldc_w n), len, (x, y, z, w), c1, tb)) (hck : zck own cc ini nL cd hn i (pc, (.ldc_w n), len, (x, y, z, w), c1, tb) = true) (hini : ini = true → meth.name = "<init>")
    (hR : 10 ≤ R.frames ∧ 200 ≤ R.locals ∧ zc h' ≤ c0 + R.cells ∧ zs h' ≤ s0 + R.slots) (hs : zsem zTX (.ldc_w n) x y z w c1 tb i ls st h = zNx j ls' st' h')
    (kk : zCfg p l e R s m args below meth c Q G cd nL ad0 n0 c0 s0 j ls' st' h') : zCfg p l e R s m args below meth c Q G cd nL ad0 n0 c0 s0 i ls st h := by
  obtain ⟨hx, hb, hml, hown, hts⟩ := E
  intro ad H locs lc pc9 cells slots hpc hag hn0 hrep hS hl hst hlv hcc hss
  have e9 : pc = pc9 := by
    simp only [zpcs, hcd, Option.map_some, Option.some.injEq] at hpc
    exact hpc
  subst e9
  simp only [zck, Bool.and_eq_true, decide_eq_true_eq, zfl] at hck
  obtain ⟨hd, ⟨rfl, hf⟩, hv⟩ := hck
  dsimp only [zsem] at hs
  cases z with
  | zero =>
    cases hs
    refine lv_ldcw hx hb hown (hts _ (zwd_in hv)) hd ?_
    exact kk ad H locs lc _ cells slots hf hag hn0 hrep hS hl (zokc trivial hst) hlv hcc hss
  | succ z =>
    cases hs
    simp only [Bool.and_eq_true, decide_eq_true_eq] at hv
    obtain ⟨hy, hv⟩ := hv
    obtain ⟨⟨o9, k9, t9⟩, e1, e2⟩ := Option.map_eq_some_iff.mp hv
    cases e2
    have e5 := X.2.2.1 y _ e1
    have k0 : W p l e R s m args below meth c H locs cells slots Q (F0 m (pc + 3) lc (.ref (gS G y) :: st.map (zcv G ad))) := by
      exact kk ad H locs lc _ cells slots hf hag hn0 hrep hS hl (zokc hy hst) hlv hcc hss
    intro T hT XX
    obtain ⟨t, a1, b1⟩ := k0 T hT XX
    have e6 : (Cond.stringRef o9 k9 t9).before args s = true := by have q := e5.1; simpa [Cond.before, Cond.holds, Cond.value] using q
    have e7 : (Term.string o9 k9).eval args s none [] s = some (.ref (gS G y)) := (Term.string_eval_of_vm rfl).trans e5.2
    exact ⟨t, XX.ldcStringW hx hown (text := t9) (a := gS G y) e6 e7 (g := F0 m pc lc (st.map (zcv G ad))) rfl (by rw [hb]; exact hd) t a1, b1⟩
theorem zone_iload_n {n : Fin 4} (E : CallFix p m c cc nL s args zTs own) (X : zCX G s) (hcd : cd[i]? = some (pc, (.iload_n n), len, (x, y, z, w), c1, tb)) (hck : zck own cc ini nL cd hn i (pc, (.iload_n n), len, (x, y, z, w), c1, tb) = true) (hini : ini = true → meth.name = "<init>")
    (hR : 10 ≤ R.frames ∧ 200 ≤ R.locals ∧ zc h' ≤ c0 + R.cells ∧ zs h' ≤ s0 + R.slots) (hs : zsem zTX (.iload_n n) x y z w c1 tb i ls st h = zNx j ls' st' h')
    (kk : zCfg p l e R s m args below meth c Q G cd nL ad0 n0 c0 s0 j ls' st' h') : zCfg p l e R s m args below meth c Q G cd nL ad0 n0 c0 s0 i ls st h := by
  obtain ⟨hx, hb, hml, hown, hts⟩ := E
  intro ad H locs lc pc9 cells slots hpc hag hn0 hrep hS hl hst hlv hcc hss
  have e9 : pc = pc9 := by
    simp only [zpcs, hcd, Option.map_some, Option.some.injEq] at hpc
    exact hpc
  subst e9
  simp only [zck, Bool.and_eq_true, decide_eq_true_eq, zfl] at hck
  obtain ⟨hd, ⟨rfl, hf⟩, hv⟩ := hck
  dsimp only [zsem] at hs
  split at hs
  · rename_i v e1
    cases hs
    refine lv_iload_n hx hb hd hv (hl.2.2.2 x _ (zget_some e1)) ?_
    exact kk ad H locs lc _ cells slots hf hag hn0 hrep hS hl (zokc trivial hst) hlv hcc hss
  · cases hs
theorem zone_lload_n {n : Fin 4} (E : CallFix p m c cc nL s args zTs own) (X : zCX G s) (hcd : cd[i]? = some (pc, (.lload_n n), len, (x, y, z, w), c1, tb)) (hck : zck own cc ini nL cd hn i (pc, (.lload_n n), len, (x, y, z, w), c1, tb) = true) (hini : ini = true → meth.name = "<init>")
    (hR : 10 ≤ R.frames ∧ 200 ≤ R.locals ∧ zc h' ≤ c0 + R.cells ∧ zs h' ≤ s0 + R.slots) (hs : zsem zTX (.lload_n n) x y z w c1 tb i ls st h = zNx j ls' st' h')
    (kk : zCfg p l e R s m args below meth c Q G cd nL ad0 n0 c0 s0 j ls' st' h') : zCfg p l e R s m args below meth c Q G cd nL ad0 n0 c0 s0 i ls st h := by
  obtain ⟨hx, hb, hml, hown, hts⟩ := E
  intro ad H locs lc pc9 cells slots hpc hag hn0 hrep hS hl hst hlv hcc hss
  have e9 : pc = pc9 := by
    simp only [zpcs, hcd, Option.map_some, Option.some.injEq] at hpc
    exact hpc
  subst e9
  simp only [zck, Bool.and_eq_true, decide_eq_true_eq, zfl] at hck
  obtain ⟨hd, ⟨rfl, hf⟩, hv⟩ := hck
  dsimp only [zsem] at hs
  split at hs
  · rename_i v e1
    cases hs
    refine lv_lload_n hx hb hd hv (hl.2.2.2 x _ (zget_some e1)) ?_
    exact kk ad H locs lc _ cells slots hf hag hn0 hrep hS hl (zokc trivial hst) hlv hcc hss
  · cases hs
theorem zone_iload {n : Nat} (E : CallFix p m c cc nL s args zTs own) (X : zCX G s) (hcd : cd[i]? = some (pc, (.iload n), len, (x, y, z, w), c1, tb)) (hck : zck own cc ini nL cd hn i (pc, (.iload n), len, (x, y, z, w), c1, tb) = true) (hini : ini = true → meth.name = "<init>")
    (hR : 10 ≤ R.frames ∧ 200 ≤ R.locals ∧ zc h' ≤ c0 + R.cells ∧ zs h' ≤ s0 + R.slots) (hs : zsem zTX (.iload n) x y z w c1 tb i ls st h = zNx j ls' st' h')
    (kk : zCfg p l e R s m args below meth c Q G cd nL ad0 n0 c0 s0 j ls' st' h') : zCfg p l e R s m args below meth c Q G cd nL ad0 n0 c0 s0 i ls st h := by
  obtain ⟨hx, hb, hml, hown, hts⟩ := E
  intro ad H locs lc pc9 cells slots hpc hag hn0 hrep hS hl hst hlv hcc hss
  have e9 : pc = pc9 := by
    simp only [zpcs, hcd, Option.map_some, Option.some.injEq] at hpc
    exact hpc
  subst e9
  simp only [zck, Bool.and_eq_true, decide_eq_true_eq, zfl] at hck
  obtain ⟨hd, ⟨rfl, hf⟩, hv⟩ := hck
  dsimp only [zsem] at hs
  split at hs
  · rename_i v e1
    cases hs
    refine lv_iload hx hb (by rw [hv] at hd; exact hd) (hl.2.2.2 x _ (zget_some e1)) ?_
    exact kk ad H locs lc _ cells slots hf hag hn0 hrep hS hl (zokc trivial hst) hlv hcc hss
  · cases hs
theorem zone_lload {n : Nat} (E : CallFix p m c cc nL s args zTs own) (X : zCX G s) (hcd : cd[i]? = some (pc, (.lload n), len, (x, y, z, w), c1, tb)) (hck : zck own cc ini nL cd hn i (pc, (.lload n), len, (x, y, z, w), c1, tb) = true) (hini : ini = true → meth.name = "<init>")
    (hR : 10 ≤ R.frames ∧ 200 ≤ R.locals ∧ zc h' ≤ c0 + R.cells ∧ zs h' ≤ s0 + R.slots) (hs : zsem zTX (.lload n) x y z w c1 tb i ls st h = zNx j ls' st' h')
    (kk : zCfg p l e R s m args below meth c Q G cd nL ad0 n0 c0 s0 j ls' st' h') : zCfg p l e R s m args below meth c Q G cd nL ad0 n0 c0 s0 i ls st h := by
  obtain ⟨hx, hb, hml, hown, hts⟩ := E
  intro ad H locs lc pc9 cells slots hpc hag hn0 hrep hS hl hst hlv hcc hss
  have e9 : pc = pc9 := by
    simp only [zpcs, hcd, Option.map_some, Option.some.injEq] at hpc
    exact hpc
  subst e9
  simp only [zck, Bool.and_eq_true, decide_eq_true_eq, zfl] at hck
  obtain ⟨hd, ⟨rfl, hf⟩, hv⟩ := hck
  dsimp only [zsem] at hs
  split at hs
  · rename_i v e1
    cases hs
    refine lv_lload hx hb (by rw [hv] at hd; exact hd) (hl.2.2.2 x _ (zget_some e1)) ?_
    exact kk ad H locs lc _ cells slots hf hag hn0 hrep hS hl (zokc trivial hst) hlv hcc hss
  · cases hs
theorem zone_aload_n {n : Fin 4} (E : CallFix p m c cc nL s args zTs own) (X : zCX G s) (hcd : cd[i]? = some (pc, (.aload_n n), len, (x, y, z, w), c1, tb)) (hck : zck own cc ini nL cd hn i (pc, (.aload_n n), len, (x, y, z, w), c1, tb) = true) (hini : ini = true → meth.name = "<init>")
    (hR : 10 ≤ R.frames ∧ 200 ≤ R.locals ∧ zc h' ≤ c0 + R.cells ∧ zs h' ≤ s0 + R.slots) (hs : zsem zTX (.aload_n n) x y z w c1 tb i ls st h = zNx j ls' st' h')
    (kk : zCfg p l e R s m args below meth c Q G cd nL ad0 n0 c0 s0 j ls' st' h') : zCfg p l e R s m args below meth c Q G cd nL ad0 n0 c0 s0 i ls st h := by
  obtain ⟨hx, hb, hml, hown, hts⟩ := E
  intro ad H locs lc pc9 cells slots hpc hag hn0 hrep hS hl hst hlv hcc hss
  have e9 : pc = pc9 := by
    simp only [zpcs, hcd, Option.map_some, Option.some.injEq] at hpc
    exact hpc
  subst e9
  simp only [zck, Bool.and_eq_true, decide_eq_true_eq, zfl] at hck
  obtain ⟨hd, ⟨rfl, hf⟩, hv⟩ := hck
  dsimp only [zsem] at hs
  split at hs
  · rename_i r e1
    cases hs
    have e2 := hl.2.2.2 x _ (zget_some e1)
    have k9 := zokl hlv e1
    have k0 : W p l e R s m args below meth c H locs cells slots Q (F0 m (pc + 1) lc (zcv G ad (zq r) :: st.map (zcv G ad))) := by
      exact kk ad H locs lc _ cells slots hf hag hn0 hrep hS hl (zokc k9 hst) hlv hcc hss
    rcases X.rf ad r with hcv | ⟨a, hcv⟩
    · rw [hcv] at e2 k0; refine lv_aload_nN hx hb hd hv e2 ?_; exact k0
    · rw [hcv] at e2 k0; refine lv_aload_n hx hb hd hv e2 ?_; exact k0
  · cases hs
theorem zone_aload {n : Nat} (E : CallFix p m c cc nL s args zTs own) (X : zCX G s) (hcd : cd[i]? = some (pc, (.aload n), len, (x, y, z, w), c1, tb)) (hck : zck own cc ini nL cd hn i (pc, (.aload n), len, (x, y, z, w), c1, tb) = true) (hini : ini = true → meth.name = "<init>")
    (hR : 10 ≤ R.frames ∧ 200 ≤ R.locals ∧ zc h' ≤ c0 + R.cells ∧ zs h' ≤ s0 + R.slots) (hs : zsem zTX (.aload n) x y z w c1 tb i ls st h = zNx j ls' st' h')
    (kk : zCfg p l e R s m args below meth c Q G cd nL ad0 n0 c0 s0 j ls' st' h') : zCfg p l e R s m args below meth c Q G cd nL ad0 n0 c0 s0 i ls st h := by
  obtain ⟨hx, hb, hml, hown, hts⟩ := E
  intro ad H locs lc pc9 cells slots hpc hag hn0 hrep hS hl hst hlv hcc hss
  have e9 : pc = pc9 := by
    simp only [zpcs, hcd, Option.map_some, Option.some.injEq] at hpc
    exact hpc
  subst e9
  simp only [zck, Bool.and_eq_true, decide_eq_true_eq, zfl] at hck
  obtain ⟨hd, ⟨rfl, hf⟩, hv⟩ := hck
  dsimp only [zsem] at hs
  split at hs
  · rename_i r e1
    cases hs
    have e2 := hl.2.2.2 x _ (zget_some e1)
    have k9 := zokl hlv e1
    have k0 : W p l e R s m args below meth c H locs cells slots Q (F0 m (pc + 2) lc (zcv G ad (zq r) :: st.map (zcv G ad))) := by
      exact kk ad H locs lc _ cells slots hf hag hn0 hrep hS hl (zokc k9 hst) hlv hcc hss
    rcases X.rf ad r with hcv | ⟨a, hcv⟩
    · rw [hcv] at e2 k0; refine lv_aloadN hx hb (by rw [hv] at hd; exact hd) e2 ?_; exact k0
    · rw [hcv] at e2 k0; refine lv_aload hx hb (by rw [hv] at hd; exact hd) e2 ?_; exact k0
  · cases hs
end STEP
