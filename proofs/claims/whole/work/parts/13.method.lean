/-! ===== a method's certificate; its run gives its contract ===== -/
def zrty (x : Nat) : FieldType := match x with
  | 0 => .int
  | 1 => .boolean
  | 2 => .char
  | _ => .byte
def zwb (hn : Nat × Nat) (w : Cond) : Bool := decide ((zTb hn.1)[hn.2]? = some w) && zbk w
theorem zwb_in {hn : Nat × Nat} {w : Cond} (h : zwb hn w = true) : w ∈ lw_tbl ∧ zbk w = true := by
  simp only [zwb, Bool.and_eq_true, decide_eq_true_eq] at h
  exact ⟨zTb_in (List.mem_of_getElem? h.1), h.2⟩
/-- 'new, dup, ldc, invokespecial, athrow' at pc -/
def ztc (cc : ByteArray) (pc ic is : Nat) : Bool := decide (decode cc (pc + 3) = .ok (.dup, 1)) && ((decide (decode cc (pc + 4) = .ok (.ldc is, 2)) && decide (decode cc (pc + 6) = .ok (.invokespecial ic, 3)) && decide (decode cc (pc + 9) = .ok (.athrow, 1))) || (decide (decode cc (pc + 4) = .ok (.ldc_w is, 3)) && decide (decode cc (pc + 7) = .ok (.invokespecial ic, 3)) && decide (decode cc (pc + 10) = .ok (.athrow, 1))))
noncomputable def zcc (Y : Nat → Option zYt) (ret : Option FieldType) (own : String) (cc : ByteArray) (hn : Nat × Nat) (a : zA) : Bool := match a with
  | (pc, ins, _, (x, y, z, w), _, _) => match ins with
    | .invokevirtual idx => match Y x with
      | some (y', _, _, none, 1) => zwd hn (Cond.methodLink own idx y') && decide (y'.cls = zkn w) && decide (w < 12 ∨ w = 30) && decide ((parseMethodDescriptor y'.desc).map (fun d => d.parameters.length) = some (y - 1)) && decide (1 ≤ y)
      | _ => false
    | .invokestatic idx => match z with
      | 2 => true
      | _ => match Y x with
        | some (y', _, _, _, 0) => zwd hn (Cond.methodLink own idx y') && decide ((parseMethodDescriptor y'.desc).map (fun d => d.parameters.length) = some y)
        | some (y', _, _, _, 3) => zwd hn (Cond.methodLink own idx y') && decide (y = 2)
        | _ => false
    | .invokespecial idx => match z with
      | 1 => true
      | _ => match Y x with
        | some (y', _, none, none, 2) => (zwd hn (Cond.methodLink own idx y') || zwb hn (Cond.methodLinkNest own idx y' "RibLoom")) && decide (w < 12) && decide ((parseMethodDescriptor y'.desc).map (fun d => d.parameters.length) = some (y - 1)) && decide (1 ≤ y)
        | _ => false
    | .ireturn => decide (ret = some (zrty x))
    | .return_ => decide (ret = none)
    | .new ik => match z with
      | 0 => true
      | _ => decide (own = RX10) && decide ((x = 0 ∧ ik = 109) ∨ (x = 1 ∧ ik = 171)) && decide (y < 45) && match zSt[y]? with
        | some (o9, is, _) => decide (o9 = own) && ztc cc pc (if x = 0 then 113 else 175) is
        | none => false
    | _ => true
def zhs (own : String) (cc : ByteArray) (M : zM) (a b si ei : Nat) (q : Nat × Nat × Nat × Nat) (r : Nat × Nat × Nat × Nat × Nat) (E : Nat) : Bool := match q, r with
  | (a2, b2, hp, ct), (s2, e2, ti, E2, xh) => decide (a2 = a ∧ b2 = b ∧ s2 = si ∧ e2 = ei ∧ E2 = E ∧ xh < M.2.1) && decide ((ct = 13 ∧ E = 0) ∨ (ct = 18 ∧ E = 1)) && decide (own = RL) &&
    ((decide (decode cc hp = .ok (.astore xh, 2)) && decide (zpcs M.1 ti = some (hp + 2))) || (decide (xh = 3) && decide (decode cc hp = .ok (.astore_n 3, 1)) && decide (zpcs M.1 ti = some (hp + 1))))
def zcv9 (a b si ei : Nat) : Nat → List zA → Bool
  | _, [] => true
  | i, q :: r => decide ((si ≤ i ∧ i < ei) ↔ (a ≤ q.1 ∧ q.1 < b)) && zcv9 a b si ei (i + 1) r
def zhok (own : String) (cc : ByteArray) (M : zM) (hh : List (Nat × Nat × Nat × Nat)) : Bool := match hh, M.2.2 with
  | [(a, b, hp, ct)], [(si, ei, ti, E, xh)] => zcv9 a b si ei 0 M.1 && zhs own cc M a b si ei (a, b, hp, ct) (si, ei, ti, E, xh) E
  | [(a, b, hp, ct), q2], [(si, ei, ti, E, xh), r2] => zcv9 a b si ei 0 M.1 && zhs own cc M a b si ei (a, b, hp, ct) (si, ei, ti, E, xh) 1 && zhs own cc M a b si ei q2 r2 0
  | _, _ => false
/-- its instructions and its handlers are as the bytes say -/
def zMg (Y : Nat → Option zYt) (M : zM) (y : zYt) : Prop :=
  (∀ i a, M.1[i]? = some a → a.2.1 = .athrow ∨ ∃ hn, zck y.1.cls y.2.1 (decide (y.1.name = "<init>")) M.2.1 M.1 hn i a = true ∧ zcc Y y.2.2.1 y.1.cls y.2.1 hn a = true) ∧
  (match y.2.2.2.1 with
    | none => M.2.2 = (match y.2.2.2.2 with
      | 2 => [(0, 0, 0, 9, 0)]
      | _ => [])
    | some hh => zhok y.1.cls y.2.1 M hh = true)
def zMf (Y : Nat → Option zYt) (M : zM) (y : zYt) : Prop := plainName y.1.cls = true ∧ (y.1.cls ≠ "java/lang/invoke/MethodHandle" ∧ y.1.cls ≠ "java/lang/invoke/VarHandle") ∧ zwc y M.2.1 ∈ zTs ∧ Cond.initialized y.1.cls ∈ zTs ∧ M.2.1 ≤ 41 ∧ zpcs M.1 0 = some 0 ∧
  (match y.2.2.2.2 with
    | 0 => Cond.static y.1 ∈ zTs
    | 1 => Cond.instanceMethod y.1 ∈ zTs ∧ Cond.selects y.1.cls y.1 y.1 ∈ zTs
    | _ => Cond.instanceMethod y.1 ∈ zTs ∧ y.1.name = "<init>") ∧
  zMg Y M y
def zFr (p : Program) (l : Launch) (R : Room) (s : State) (m : MethodId) (args : Array Value) (meth : Method) (c : Code) (G : zCx) (M : zM) (y : zYt) (d : Nat) : Prop :=
  CallFix p m c y.2.1 M.2.1 s args zTs y.1.cls ∧ zCX G s ∧ (y.1.name = "<init>" → meth.name = "<init>") ∧ meth.locks = false ∧ meth.sig.returnType = y.2.2.1 ∧ (match y.2.2.2.1 with
    | none => ∀ x ∈ c.exceptionTable.toList, False
    | some hh => c.exceptionTable.toList = tableOf hh) ∧ l.stackTraces = false ∧ 10 + d ≤ R.frames ∧ 200 + 60 * d ≤ R.locals
/-- what fuel n gives -/
def zSn (Y : Nat → Option zYt) (n : Nat) : Prop := ∀ (d : Nat) (M : zM) (y : zYt) (i : Nat) (ls : zLV) (st : List zV) (h : zH) (o : zO) (h' : zH), zMg Y M y → zrun zTX zMT n d M i ls st h = some (o, h') →
  ∀ (p : Program) (l : Launch) (e : Env) (R : Room) (s : State) (m : MethodId) (args : Array Value) (below : List Frame) (meth : Method) (c : Code) (Q : State → Prop) (G : zCx) (ad0 : Nat → Nat) (n0 c0 s0 : Nat),
    zFr p l R s m args meth c G M y d → zc h' ≤ c0 + R.cells → zs h' ≤ s0 + R.slots →
    (∀ v j ls2 st2, o = Sum.inl v → zstep zTX M.1 j ls2 st2 h' = zRt v → zCfg p l e R s m args below meth c Q G M.1 M.2.1 ad0 n0 c0 s0 j ls2 st2 h') →
    (∀ x j ls2 st2 h2, o = Sum.inr x → M.2.2 = [] → zstep zTX M.1 j ls2 st2 h2 = zTh x → h' = zth h2 → zCfg p l e R s m args below meth c Q G M.1 M.2.1 ad0 n0 c0 s0 j ls2 st2 h2) →
    (∀ x j ls2 st2, o = Sum.inr x → M.2.2 = [] → zCfgX p l e R s m args below meth c Q G M.1 M.2.1 ad0 n0 c0 s0 j ls2 st2 h' (zxn x)) →
    zCfg p l e R s m args below meth c Q G M.1 M.2.1 ad0 n0 c0 s0 i ls st h
def zQm (G : zCx) (ad : Nat → Nat) (h : zH) (o : zO) (h' : zH) : Array Value → State → Outcome → State → Prop := fun a st oc t => ∃ v, o = Sum.inl v ∧ zQr G ad h v h' a st oc t
def zXm (G : zCx) (ad : Nat → Nat) (h : zH) (o : zO) (h' : zH) : String → State → State → Prop := fun E st t => ∃ x, o = Sum.inr x ∧ zXr G ad h x h' E st t
/-- the words of an exception's making -/
theorem zthr_w : ∀ w ∈ vx_atS RX10 113 "java/lang/IllegalArgumentException" ["java/lang/RuntimeException", "java/lang/Exception"], w ∈ lw_tbl ∧ (goodWord w || zbk w) = true := by decide +kernel
set_option maxHeartbeats 1000000 in
theorem zfin_ret {p : Program} {l : Launch} {e : Env} {R : Room} {s : State} {m : MethodId} {args : Array Value} {below : List Frame} {meth : Method} {c : Code} {G : zCx} {M : zM} {y : zYt} {d : Nat} {Y : Nat → Option zYt} (hM : zMg Y M y) (F : zFr p l R s m args meth c G M y d) {ad0 : Nat → Nat} {h h' : zH} {o : zO} {mc ms : Nat} (hmc : mc = zc h' - zc h) (hms : ms = zs h' - zs h)
    {v : Option zV} {j : Nat} {ls2 : zLV} {st2 : List zV} (ho : o = Sum.inl v) (hs : zstep zTX M.1 j ls2 st2 h' = zRt v) : zCfg p l e R s m args below meth c (vx_MQ below (zQm G ad0 h o h') (zXm G ad0 h o h') args s mc ms (zAf G)) G M.1 M.2.1 ad0 (zK h).length (zc h) (zs h) j ls2 st2 h' := by
  obtain ⟨⟨hx, hb, hml, hown, hts⟩, X, -, hlocks, hr, -⟩ := F
  obtain ⟨hcert, -⟩ := hM
  intro ad H locs lc pc cells slots hpc hag hn0 hrep hS hl hst hlv hcc hss
  have e1 : cells = mc := by omega
  have e2 : slots = ms := by omega
  subst e1
  subst e2
  unfold zstep at hs
  cases hcd : M.1[j]? with
  | none => rw [hcd] at hs; cases hs
  | some a =>
    rw [hcd] at hs
    obtain ⟨pc9, ins, len, ⟨x, y9, z, w⟩, c1, tb⟩ := a
    have e9 : pc9 = pc := by
      simp only [zpcs, hcd, Option.map_some, Option.some.injEq] at hpc
      exact hpc
    subst e9
    dsimp only at hs
    have hq : ∀ t : State, t.heap = H → s.WarmedH t.vm → zQm G ad0 h o h' args s (.returned (v.map (zcv G ad))) t := fun t ht _ => ⟨v, ho, ⟨ad, hag, rfl, by rw [ht]; exact hrep⟩, hS.F ht⟩
    rcases hcert j _ hcd with q | ⟨hn, hck, hcc9⟩
    · dsimp only at q
      subst q
      cases hs
    · cases ins with
      | ireturn =>
        simp only [zsem] at hs
        split at hs
        · rename_i v2
          obtain ⟨hfit, e1⟩ := zcond hs
          cases e1
          simp only [zck, Bool.and_eq_true, decide_eq_true_eq] at hck
          obtain ⟨hd, rfl⟩ := hck
          have hr2 : meth.sig.returnType = some (zrty x) := by rw [hr]; simpa [zcc] using hcc9
          have hnar : narrow (zrty x) (.int v2) = .int v2 := by
            match x, hfit with
            | 0, _ => rfl
            | 1, q =>
              have : v2 = 0 ∨ v2 = 1 := by simpa [zfit, zbool] using q
              rcases this with rfl | rfl <;> rfl
            | 2, q =>
              have : v2.toUInt32.toUInt16.toUInt32.toInt32 = v2 := by simpa [zfit] using q
              show Value.int v2.toUInt32.toUInt16.toUInt32.toInt32 = _
              rw [this]
            | n + 3, q =>
              have : v2.toInt8.toInt32 = v2 := by simpa [zfit] using q
              show Value.int v2.toInt8.toInt32 = _
              rw [this]
          exact vx_ret (W.zret hx hb hr2 hnar hq hS.2.2 hd hlocks)
        · cases hs
      | return_ =>
        simp only [zsem] at hs
        split at hs
        · cases hs
          simp only [zck, Bool.and_eq_true, decide_eq_true_eq] at hck
          obtain ⟨hd, rfl⟩ := hck
          have hr2 : meth.sig.returnType = none := by rw [hr]; simpa [zcc] using hcc9
          exact vx_ret (W.vret hx hb hr2 hq hS.2.2 hd hlocks)
        · cases hs
      | _ =>
        exfalso
        simp only [zsem] at hs
        (repeat' (split at hs)) <;> first
          | (cases hs; done)
          | (obtain ⟨-, e⟩ := zcond hs; cases e; done)
          | (obtain ⟨-, e⟩ := zcondN hs; cases e; done)
          | (rcases zcondB hs with e | e <;> cases e; done)
