/-! ===== methods and calls ===== -/
/-- a method of the Statement: its name, its bytes, its answer's type, its handlers, its kind (0 static, 1 an object's, 2 a constructor) -/
abbrev zYt : Type := MethodName × ByteArray × Option FieldType × Option (List (Nat × Nat × Nat × Nat)) × Nat
def zwc (y : zYt) (nL : Nat) : Cond := match y.2.2.2.1 with
  | none => Cond.code y.1 y.2.1 nL y.2.2.1
  | some hh => Cond.codeWith y.1 y.2.1 nL y.2.2.1 hh
def zWs (y : zYt) (nL : Nat) : List Cond := zwc y nL :: zTs
def zrm (d mc ms : Nat) : Room := { frames := 10 + d, cells := mc, slots := ms, locals := 200 + 60 * d }
def zxn (x : Nat) : String := match x with
  | 0 => "java/lang/IllegalArgumentException"
  | _ => "java/util/NoSuchElementException"
def zkn (w : Nat) : String := match w with
  | 30 => "java/lang/String"
  | ci => (zcls ci).1
def zPc (G : zCx) (ad : Nat → Nat) (as : List zV) (h : zH) : Array Value → State → Prop := fun v U => v = (as.map (zcv G ad)).toArray ∧ zCX G U ∧ zRep G ad h U.heap
def zQr (G : zCx) (ad : Nat → Nat) (h : zH) (v : Option zV) (h' : zH) : Array Value → State → Outcome → State → Prop := fun _ st oc t => (∃ ad' : Nat → Nat, (∀ j, j < (zK h).length → ad' j = ad j) ∧ oc = .returned (v.map (zcv G ad')) ∧ zRep G ad' h' t.heap) ∧ va_F (zAf G) st t
def zXr (G : zCx) (ad : Nat → Nat) (h : zH) (x : Nat) (h' : zH) : String → State → State → Prop := fun E st t => E = zxn x ∧ (∃ ad' : Nat → Nat, (∀ j, j < (zK h).length → ad' j = ad j) ∧ zRep G ad' h' t.heap) ∧ va_F (zAf G) st t
theorem zTs_good {w : Cond} (h : w ∈ zTs) : (w.onTables && w.keeps) = true ∨ ∃ ty, w = .arrayClass ty := good_of_word (List.mem_filter.mp h).2
theorem zgood {y : zYt} {nL : Nat} (h : zwc y nL ∈ zTs) : GoodIn zTs (zWs y nL) := fun w hw => (List.mem_cons.mp hw).elim (fun e => by rw [e]; exact ⟨h, zTs_good h⟩) (fun hw => ⟨hw, zTs_good hw⟩)
theorem zblind (G : zCx) (ad : Nat → Nat) (as : List zV) (h : zH) : FrameBlind (zPc G ad as h) := by
  intro a U g mk ⟨h1, h2, h3⟩
  exact ⟨h1, zCX.same h2 rfl rfl, h3⟩
/-- arguments at their places -/
theorem zarg_at {G : zCx} {ad : Nat → Nat} (hO : (gO G).category = 1) : ∀ (as : List zV) (off i : Nat) (v : zV), (zarg as)[i]? = some (some v) → (off + i, zcv G ad v) ∈ lv_args off (as.map (zcv G ad)) := by
  intro as
  induction as with
  | nil => intro off i v h; simp [zarg] at h
  | cons a as ih =>
    intro off i v h
    have hc := zcv_cat (ad := ad) hO a
    rcases a with x | x | r
    · cases i with
      | zero =>
        have e : v = zi x := by simpa [zarg] using h.symm
        subst e
        exact List.mem_cons_self
      | succ i =>
        have h2 : (zarg as)[i]? = some (some v) := by simpa [zarg] using h
        have := ih (off + 1) i v h2
        simp only [List.map_cons, lv_args]
        rw [if_neg (by rw [hc]; simp [zcat])]
        exact List.mem_cons_of_mem _ (by rw [show off + (i + 1) = off + 1 + i by omega]; exact this)
    · cases i with
      | zero =>
        have e : v = zl x := by simpa [zarg] using h.symm
        subst e
        exact List.mem_cons_self
      | succ i =>
        cases i with
        | zero => simp [zarg] at h
        | succ i =>
          have h2 : (zarg as)[i]? = some (some v) := by simpa [zarg] using h
          have := ih (off + 2) i v h2
          simp only [List.map_cons, lv_args]
          rw [if_pos (by rw [hc]; rfl)]
          exact List.mem_cons_of_mem _ (by rw [show off + (i + 1 + 1) = off + 2 + i by omega]; exact this)
    · cases i with
      | zero =>
        have e : v = zq r := by simpa [zarg] using h.symm
        subst e
        exact List.mem_cons_self
      | succ i =>
        have h2 : (zarg as)[i]? = some (some v) := by simpa [zarg] using h
        have := ih (off + 1) i v h2
        simp only [List.map_cons, lv_args]
        rw [if_neg (by rw [hc]; simp [zcat])]
        exact List.mem_cons_of_mem _ (by rw [show off + (i + 1) = off + 1 + i by omega]; exact this)
theorem zarg_len {G : zCx} {ad : Nat → Nat} (hO : (gO G).category = 1) : ∀ (as : List zV), (lg_sl (as.map (zcv G ad))).length = (zarg as).length := by
  intro as
  induction as with
  | nil => rfl
  | cons a as ih =>
    have hc := zcv_cat (ad := ad) hO a
    have e1 : lg_sl ((a :: as).map (zcv G ad)) = (if (zcv G ad a).category = 2 then [Slot.val (zcv G ad a), Slot.second] else [Slot.val (zcv G ad a)]) ++ lg_sl (as.map (zcv G ad)) := by simp [lg_sl]
    rw [e1, List.length_append, ih, hc]
    rcases a with x | x | r
    · simp [zcat, zarg]; omega
    · simp [zcat, zarg]; omega
    · simp [zcat, zarg]; omega
theorem zentry {G : zCx} {ad : Nat → Nat} (hO : (gO G).category = 1) {as : List zV} {n : Nat} (hn : (zarg as).length ≤ n) :
    zLc G ad n (zent as n) ((lg_sl (as.map (zcv G ad)) ++ List.replicate (n - (lg_sl (as.map (zcv G ad))).length) Slot.unset).toArray) := by
  have h := lv_entry (as.map (zcv G ad)) (n := n) (by rw [zarg_len hO]; exact hn)
  refine ⟨h.1, h.2.1, by simp [zent]; omega, fun i v e => ?_⟩
  unfold zent at e
  rcases Nat.lt_or_ge i (zarg as).length with hi | hi
  · rw [List.getElem?_append_left hi] at e
    have := h.2.2 (0 + i, zcv G ad v) (zarg_at hO as 0 i v e)
    simpa using this
  · rw [List.getElem?_append_right hi, List.getElem?_replicate] at e
    split at e <;> cases e
theorem zarg_ok {G : zCx} {ks : List (Nat × Nat)} {v : zV} : ∀ (as : List zV), (∀ v ∈ as, zok G ks v) → some v ∈ zarg as → zok G ks v := by
  intro as
  induction as with
  | nil => intro _ hv; simp [zarg] at hv
  | cons a as ih =>
    intro h hv
    rcases a with x | x | r
    · simp only [zarg, List.mem_cons, Option.some.injEq] at hv
      rcases hv with rfl | hv
      · trivial
      · exact ih (fun v q => h v (List.mem_cons_of_mem _ q)) hv
    · simp only [zarg, List.mem_cons, Option.some.injEq, reduceCtorEq, false_or] at hv
      rcases hv with rfl | hv
      · trivial
      · exact ih (fun v q => h v (List.mem_cons_of_mem _ q)) hv
    · simp only [zarg, List.mem_cons, Option.some.injEq] at hv
      rcases hv with rfl | hv
      · exact h _ List.mem_cons_self
      · exact ih (fun v q => h v (List.mem_cons_of_mem _ q)) hv
theorem zent_ok {G : zCx} {ks : List (Nat × Nat)} {as : List zV} {n : Nat} (h : ∀ v ∈ as, zok G ks v) : ∀ v, some v ∈ zent as n → zok G ks v := by
  intro v hv
  unfold zent at hv
  rcases List.mem_append.mp hv with hv | hv
  · exact zarg_ok as h hv
  · have := List.eq_of_mem_replicate hv
    cases this
/-- a place at which an exception of class E lies over the frame -/
def zCfgX (p : Program) (l : Launch) (e : Env) (R : Room) (s : State) (m : MethodId) (args : Array Value) (below : List Frame) (meth : Method) (c : Code) (Q : State → Prop) (G : zCx) (cd : List zA) (nL : Nat) (ad0 : Nat → Nat) (n0 c0 s0 : Nat) (i : Nat) (ls : zLV) (st : List zV) (h : zH) (E : String) : Prop :=
  ∀ (ad : Nat → Nat) (H : Heap) (locs : List Loc) (lc : Array Slot) (pc cells slots q : Nat) (ce : Cell), zpcs cd i = some pc → (∀ n, n < n0 → ad n = ad0 n) → n0 ≤ (zK h).length → zRep G ad h H → va_S (zAf G) s.heap H locs → zLc G ad nL ls lc → cells + c0 = zc h → slots + s0 = zs h → H[q]? = some ce → ce.vm = .none → s.vm.findClass E = some ce.cls →
    vx_W p l e R s m args below meth c H locs cells slots Q (F0 m pc lc (st.map (zcv G ad))) q
section RUNS
variable {p : Program} {l : Launch} {e : Env} {R : Room} {s : State} {m : MethodId} {args : Array Value} {below : List Frame} {meth : Method} {c : Code} {H : Heap} {locs : List Loc} {cells slots : Nat} {Q : State → Prop}
variable {G : zCx} {ad ad0 : Nat → Nat} {cd : List zA} {nL n0 c0 s0 i pc : Nat} {ls : zLV} {h h' : zH} {as rest : List zV} {lc : Array Slot} {st0 : List Value} {a9 : Array Value} {mc ms : Nat}
theorem zrun_back {v : Option zV} (hrun : va_Run p l e R s m args below meth c H locs cells slots mc ms (F0 m pc lc st0) (rest.map (zcv G ad)) (zQr G ad h v h' a9) (zAf G)) (hS : va_S (zAf G) s.heap H locs) (hf : zpcs cd (i + 1) = some (pc + 3)) (hag : ∀ n, n < n0 → ad n = ad0 n) (hn0 : n0 ≤ (zK h).length)
    (hl : zLc G ad nL ls lc) (hrest : ∀ v ∈ rest, zok G (zK h) v) (hlv : ∀ v, some v ∈ ls → zok G (zK h) v) (hg : zgrow h h') (hv : v = none ∨ ∃ x, v = some (zi x)) (hcc : cells + c0 = zc h) (hss : slots + s0 = zs h) (hmc : mc = zc h' - zc h) (hms : ms = zs h' - zs h)
    (kk : zCfg p l e R s m args below meth c Q G cd nL ad0 n0 c0 s0 (i + 1) ls (v.toList ++ rest) h') : W p l e R s m args below meth c H locs cells slots Q (F0 m pc lc st0) := by
  intro T hT X
  obtain ⟨v9, st₀, t, T', L, h0, X', hL, e1, e2, ⟨⟨ad', ha, hv9, hrep'⟩, hF⟩, st⟩ := hrun T hT X
  obtain ⟨k1, k2, k3⟩ := vx_keep (A0 := zAf G) (A1 := zAf G) h0 e1 hS (fun _ _ h => h) (fun _ h => h) hL hF
  obtain ⟨g1, g2, ext, g3⟩ := hg
  have hlen : (zK h).length ≤ (zK h').length := by rw [g3]; simp
  have ev : v9 = v.map (zcv G ad') := by injection hv9
  have hst : ∀ u ∈ v.toList ++ rest, zok G (zK h') u := by
    intro u hu
    rcases List.mem_append.mp hu with q | q
    · rcases hv with rfl | ⟨x, rfl⟩
      · cases q
      · rw [List.mem_singleton.mp q]; trivial
    · rw [g3]; exact zok_app (hrest u q)
  have K := kk ad' T'.heap (locs ++ L) lc (pc + 3) (cells + mc) (slots + ms) hf (fun n hn => by rw [ha n (by omega)]; exact hag n hn) (by omega) (by rw [e1]; exact hrep') k3 (zLc_ext hl hlv ha) hst (fun u hu => by rw [g3]; exact zok_app (hlv u hu)) (by omega) (by omega)
  obtain ⟨t2, a1, b1⟩ := K T' rfl X'
  refine ⟨t2, st t2 ?_, b1⟩
  have es : (v.toList ++ rest).map (zcv G ad') = v9.toList ++ rest.map (zcv G ad) := by
    rw [List.map_append, zmap_ext hrest ha, ev]
    cases v <;> rfl
  rw [es] at a1
  exact a1
theorem zrun_thrown {x : Nat} (hrun : vx_Run p l e R s m args below meth c H locs cells slots mc ms (F0 m pc lc st0) (rest.map (zcv G ad)) (fun _ _ _ => False) (zXr G ad h x h') (zAf G)) (hS : va_S (zAf G) s.heap H locs) (hpc : zpcs cd i = some pc) (hag : ∀ n, n < n0 → ad n = ad0 n) (hn0 : n0 ≤ (zK h).length)
    (hl : zLc G ad nL ls lc) (hrest : ∀ v ∈ rest, zok G (zK h) v) (hlv : ∀ v, some v ∈ ls → zok G (zK h) v) (hg : zgrow h h') (hcc : cells + c0 = zc h) (hss : slots + s0 = zs h) (hmc : mc = zc h' - zc h) (hms : ms = zs h' - zs h)
    (kk : zCfgX p l e R s m args below meth c Q G cd nL ad0 n0 c0 s0 i ls rest h' (zxn x)) : W p l e R s m args below meth c H locs cells slots Q (F0 m pc lc st0) := by
  intro T hT X
  rcases hrun T hT X with ⟨v9, st₀, t, T', L, h0, X', hL, e1, e2, hF, st⟩ | ⟨q, st₀, t, T', L, E, ce, h0, X', hL, e1, e2, ⟨rfl, ⟨ad', ha, hrep'⟩, hF⟩, hce, hcv, hcl, st⟩
  · exact hF.elim
  · obtain ⟨k1, k2, k3⟩ := vx_keep (A0 := zAf G) (A1 := zAf G) h0 e1 hS (fun _ _ h => h) (fun _ h => h) hL hF
    obtain ⟨g1, g2, ext, g3⟩ := hg
    have hlen : (zK h).length ≤ (zK h').length := by rw [g3]; simp
    have K := kk ad' T'.heap (locs ++ L) lc pc (cells + mc) (slots + ms) q ce hpc (fun n hn => by rw [ha n (by omega)]; exact hag n hn) (by omega) (by rw [e1]; exact hrep') k3 (zLc_ext hl hlv ha) (by omega) (by omega) (by rw [e1]; exact hce) hcv hcl
    obtain ⟨t2, a1, b1⟩ := K T' rfl X'
    refine ⟨t2, st.trans ?_, b1⟩
    rw [zmap_ext hrest ha] at a1
    exact a1
end RUNS
