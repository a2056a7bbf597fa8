/-! ===== contracts out of runs ===== -/
theorem zmetQ {l : Launch} {x : MethodName} {S : Spec} {P : Array Value → State → Prop} {K : Program → Env → List Frame → State → Array Value → Prop} {Q Q' : Array Value → State → Outcome → State → Prop} (h : MetFree l x S P K Q) (hq : ∀ a st o t, Q a st o t → Q' a st o t) : MetFree l x S P K Q' := by
  intro p e ha hc hk s m args below hf hap hP hK
  obtain ⟨n, o, h1, h2, h3, h4⟩ := h p e ha hc hk s m args below hf hap hP hK
  exact ⟨n, o, h1, h2, h3, hq _ _ _ _ h4⟩
set_option maxHeartbeats 1000000 in
theorem zmet {Y : Nat → Option zYt} {n : Nat} (IH : zSn Y n) {l : Launch} (htr : l.stackTraces = false) {M : zM} {y : zYt} (hM : zMf Y M y) {d : Nat} {as : List zV} {h h' : zH} {o : zO} (hrun : zrun zTX zMT n d M 0 (zent as M.2.1) [] h = some (o, h')) (hlen : (zarg as).length ≤ M.2.1) {G : zCx} {ad : Nat → Nat} (hok : ∀ v ∈ as, zok G (zK h) v) {mc ms : Nat} (hmc : mc = zc h' - zc h) (hms : ms = zs h' - zs h) :
    vx_Met l y.1 (zWs y M.2.1) (zrm d mc ms) (zPc G ad as h) (zQm G ad h o h') (zXm G ad h o h') mc ms (zAf G) := by
  have hg := zrun_grow _ _ _ _ _ _ _ _ _ hrun
  obtain ⟨g1, g2, ext, g3⟩ := id hg
  have body : ∀ (p : Program) (e : Env) (s : State) (m : MethodId) (args : Array Value) (below : List Frame) (meth : Method) (c : Code) (s₁ : State), BodyLoose p l y.1 (headSpec (zWs y M.2.1) (zrm d mc ms)) y.2.1 M.2.1 y.2.2.1 e s m args below meth c s₁ → c.maxLocals = M.2.1 → (match y.2.2.2.1 with
      | none => ∀ x ∈ c.exceptionTable.toList, False
      | some hh => c.exceptionTable.toList = tableOf hh) → zPc G ad as h args s →
      W p l e (headSpec (zWs y M.2.1) (zrm d mc ms)).room s m args below meth c s.heap [] 0 0 (vx_MQ below (zQm G ad h o h') (zXm G ad h o h') args s mc ms (zAf G)) (entryFrame m args M.2.1) := by
    intro p e s m args below meth c s₁ B hml htab hv
    obtain ⟨rfl, X, hrep⟩ := hv
    have hts := atoms_spec (ws := zWs y M.2.1) B.pre
    have F : zFr p l (zrm d mc ms) s m (as.map (zcv G ad)).toArray meth c G M y d := ⟨⟨B.exec, B.bytes, hml, findClass_of_methodNamed B.named, fun w hw => hts w (List.mem_cons_of_mem _ hw)⟩, X, fun q => by rw [(name_of_methodNamed B.named B.method).1]; exact q, B.notSynchronized, B.returns, htab, htr, Nat.le_refl _, Nat.le_refl _⟩
    have K := IH d M y 0 (zent as M.2.1) [] h o h' hM.2.2.2.2.2.2.2 hrun p l e (zrm d mc ms) s m (as.map (zcv G ad)).toArray below meth c (vx_MQ below (zQm G ad h o h') (zXm G ad h o h') (as.map (zcv G ad)).toArray s mc ms (zAf G)) G ad (zK h).length (zc h) (zs h) F (by show zc h' ≤ zc h + mc; omega) (by show zs h' ≤ zs h + ms; omega)
      (fun v j ls2 st2 ho hs => zfin_ret hM.2.2.2.2.2.2.2 F hmc hms ho hs)
      (fun x j ls2 st2 h2 ho hM2 hs hh2 => zfin_thr hM.2.2.2.2.2.2.2 F hM2 hmc hms (Nat.le_refl _) (Nat.le_refl _) ho hs hh2)
      (fun x j ls2 st2 ho hM2 => by
        intro ad2 H locs lc pc cells slots q ce hpc hag hn0 hrep2 hS hl hcc hss hce hcv hcl
        refine vx_out ?_ B.notSynchronized hce hcv hcl (fun t ht _ => ⟨x, ho, rfl, ⟨ad2, hag, by rw [ht]; exact hrep2⟩, hS.F ht⟩) hS.2.2 (by omega) (by omega)
        intro x9 hx9
        cases hh : y.2.2.2.1 with
        | none => rw [hh] at htab; exact (htab x9 hx9).elim
        | some hh9 =>
          have := hM.2.2.2.2.2.2.2.2
          rw [hh] at this
          exact absurd hM2 (zhok_ne this))
    have K2 := K ad s.heap [] _ 0 0 0 hM.2.2.2.2.2.1 (fun _ _ => rfl) (Nat.le_refl _) hrep va_S.rf (zentry X.cat hlen) (fun v hv => by cases hv) (zent_ok hok) (Nat.zero_add _) (Nat.zero_add _)
    rw [lg_entry_eq]
    exact K2
  cases hh : y.2.2.2.1 with
  | none =>
    refine vx_ofW (cc := y.2.1) (maxL := M.2.1) (ret := y.2.2.1) hM.1 (by rw [zWs, zwc, hh]) ?_
    intro p e s m args below meth c s₁ B hml ht hv
    exact body p e s m args below meth c s₁ B hml (by rw [hh]; exact ht) hv
  | some hh9 =>
    refine vx_ofWH (cc := y.2.1) (maxL := M.2.1) (ret := y.2.2.1) (hh := hh9) hM.1 (by rw [zWs, zwc, hh]) ?_
    intro p e s m args below meth c s₁ B hml hv
    refine body p e s m args below meth c s₁ B hml ?_ hv
    rw [hh]
    refine vx_table (x := y.1) B (bytes := y.2.1) (maxL' := M.2.1) (ret' := y.2.2.1) ?_
    have hts := atoms_spec (ws := zWs y M.2.1) B.pre
    refine hts _ ?_
    rw [zWs, zwc, hh]
    exact List.mem_cons_self
theorem zmet_ret {Y : Nat → Option zYt} {n : Nat} (IH : zSn Y n) {l : Launch} (htr : l.stackTraces = false) {M : zM} {y : zYt} (hM : zMf Y M y) {d : Nat} {as : List zV} {h h' : zH} {v : Option zV} (hrun : zrun zTX zMT n d M 0 (zent as M.2.1) [] h = some (Sum.inl v, h')) (hlen : (zarg as).length ≤ M.2.1) {G : zCx} {ad : Nat → Nat} (hok : ∀ v ∈ as, zok G (zK h) v) {mc ms : Nat} (hmc : mc = zc h' - zc h) (hms : ms = zs h' - zs h) :
    Met l y.1 (zWs y M.2.1) (zrm d mc ms) (zPc G ad as h) (zQr G ad h v h') mc ms (zAf G) := by
  refine zmetQ (zmet IH htr hM hrun hlen (ad := ad) hok hmc hms) ?_
  intro a st oc t q
  rcases q with ⟨⟨v2, e1, q⟩, q2⟩ | ⟨q9, -, E, ce, L, ⟨x, e1, -⟩, -⟩
  · cases e1
    exact ⟨q, q2⟩
  · cases e1
theorem zmet_thr {Y : Nat → Option zYt} {n : Nat} (IH : zSn Y n) {l : Launch} (htr : l.stackTraces = false) {M : zM} {y : zYt} (hM : zMf Y M y) {d : Nat} {as : List zV} {h h' : zH} {x : Nat} (hrun : zrun zTX zMT n d M 0 (zent as M.2.1) [] h = some (Sum.inr x, h')) (hlen : (zarg as).length ≤ M.2.1) {G : zCx} {ad : Nat → Nat} (hok : ∀ v ∈ as, zok G (zK h) v) {mc ms : Nat} (hmc : mc = zc h' - zc h) (hms : ms = zs h' - zs h) :
    vx_Met l y.1 (zWs y M.2.1) (zrm d mc ms) (zPc G ad as h) (fun _ _ _ _ => False) (zXr G ad h x h') mc ms (zAf G) := by
  refine zmetQ (zmet IH htr hM hrun hlen (ad := ad) hok hmc hms) ?_
  intro a st oc t q
  rcases q with ⟨⟨v2, e1, q⟩, q2⟩ | ⟨q9, e9, E, ce, L, ⟨x2, e1, q⟩, q2⟩
  · cases e1
  · cases e1
    exact Or.inr ⟨q9, e9, E, ce, L, q, q2⟩
