/-! ===== what a run of the machine comes to, goal first ===== -/
def zwp (d : Nat) (M : zM) (i : Nat) (ls : zLV) (st : List zV) (h : zH) (Q : zO → zH → Prop) : Prop := ∃ (n : Nat) (o : zO) (h' : zH), zrun zTX zMT n d M i ls st h = some (o, h') ∧ Q o h'
/-- a call of method k -/
def zcl (d k : Nat) (as : List zV) (h : zH) (Q : zO → zH → Prop) : Prop := ∃ M : zM, zMc zMT k as = some M ∧ zwp d M 0 (zent as M.2.1) [] h Q
def zgo (cd : List zA) (m i : Nat) (ls : zLV) (st : List zV) (h : zH) : Option (Nat × zLV × List zV × zH) := match m with
  | 0 => some (i, ls, st, h)
  | m + 1 => match zstep zTX cd i ls st h with
    | some (Sum.inl (j, ls', st', h')) => zgo cd m j ls' st' h'
    | _ => none
section WP
variable {d : Nat} {M : zM} {i j : Nat} {ls ls' : zLV} {st st' : List zV} {h h' : zH} {Q : zO → zH → Prop}
theorem zwp.nx (hs : zstep zTX M.1 i ls st h = zNx j ls' st' h') (w : zwp d M j ls' st' h' Q) : zwp d M i ls st h Q := by
  obtain ⟨n, o, h2, e, q⟩ := w
  exact ⟨n + 1, o, h2, by rw [zrun, hs]; exact e, q⟩
theorem zwp.go {m : Nat} (hs : zgo M.1 m i ls st h = some (j, ls', st', h')) (w : zwp d M j ls' st' h' Q) : zwp d M i ls st h Q := by
  induction m generalizing i ls st h with
  | zero =>
    simp only [zgo, Option.some.injEq, Prod.mk.injEq] at hs
    obtain ⟨rfl, rfl, rfl, rfl⟩ := hs
    exact w
  | succ m ih =>
    rw [zgo] at hs
    cases e : zstep zTX M.1 i ls st h with
    | none => rw [e] at hs; cases hs
    | some q =>
      rw [e] at hs
      rcases q with ⟨j2, l2, s2, h2⟩ | q
      · exact zwp.nx e (ih hs)
      · cases hs
theorem zwp.ok {c : Bool} (hs : zstep zTX M.1 i ls st h = cond c (zNx j ls' st' h') none) (hc : c = true) (w : zwp d M j ls' st' h' Q) : zwp d M i ls st h Q := by
  subst hc
  exact zwp.nx hs w
theorem zwp.no {c : Bool} (hs : zstep zTX M.1 i ls st h = cond c none (zNx j ls' st' h')) (hc : c = false) (w : zwp d M j ls' st' h' Q) : zwp d M i ls st h Q := by
  subst hc
  exact zwp.nx hs w
theorem zwp.br {c : Bool} {j2 : Nat} {l2 : zLV} {s2 : List zV} {h2 : zH} (hs : zstep zTX M.1 i ls st h = cond c (zNx j ls' st' h') (zNx j2 l2 s2 h2)) (wt : c = true → zwp d M j ls' st' h' Q) (wf : c = false → zwp d M j2 l2 s2 h2 Q) : zwp d M i ls st h Q := by
  cases c with
  | true => exact zwp.nx hs (wt rfl)
  | false => exact zwp.nx hs (wf rfl)
theorem zwp.ret {c : Bool} {v : Option zV} (hs : zstep zTX M.1 i ls st h = cond c (zRt v) none) (hc : c = true) (q : Q (Sum.inl v) h) : zwp d M i ls st h Q := by
  subst hc
  exact ⟨1, _, _, by rw [zrun, hs]; rfl, q⟩
theorem zwp.rv (hs : zstep zTX M.1 i ls st h = zRt none) (q : Q (Sum.inl none) h) : zwp d M i ls st h Q := ⟨1, _, _, by rw [zrun, hs], q⟩
theorem zwp.th {e : Nat} (hs : zstep zTX M.1 i ls st h = zTh e) (hm : M.2.2 = []) (q : Q (Sum.inr e) (zth h)) : zwp d M i ls st h Q := ⟨1, _, _, by rw [zrun, hs]; dsimp only; rw [hm], q⟩
theorem zwp.mono {Q2 : zO → zH → Prop} (w : zwp d M i ls st h Q) (hq : ∀ o h', Q o h' → Q2 o h') : zwp d M i ls st h Q2 := by
  obtain ⟨n, o, h2, e, q⟩ := w
  exact ⟨n, o, h2, e, hq _ _ q⟩
theorem zcl.mono {k : Nat} {as : List zV} {Q2 : zO → zH → Prop} (w : zcl d k as h Q) (hq : ∀ o h', Q o h' → Q2 o h') : zcl d k as h Q2 := by
  obtain ⟨M, e, w⟩ := w
  exact ⟨M, e, w.mono hq⟩
theorem zwp.le {e : Nat} (w : zwp d M i ls st h Q) (hd : d ≤ e) : zwp e M i ls st h Q := by
  obtain ⟨n, o, h2, e, q⟩ := w
  exact ⟨n, o, h2, zrun_dle e hd, q⟩
theorem zcl.le {k e : Nat} {as : List zV} (w : zcl d k as h Q) (hd : d ≤ e) : zcl e k as h Q := by
  obtain ⟨M, e, w⟩ := w
  exact ⟨M, e, w.le hd⟩
/-- a call that may also throw -/
theorem zwp.cx {c : Bool} {k : Nat} {as rest : List zV} {Qc : zO → zH → Prop} (hs : zstep zTX M.1 i ls st h = cond c (zCl k as rest) none) (hc : c = true) (w : zcl d k as h Qc)
    (kk : ∀ (v : Option zV) (h' : zH), Qc (Sum.inl v) h' → zwp (d + 1) M (i + 1) ls (v.toList ++ rest) h' Q)
    (kx : ∀ (e : Nat) (h' : zH), Qc (Sum.inr e) h' → match zhnd M.2.2 i e with
      | some q => zwp (d + 1) M q.1 (zkil ls q.2) [] h' Q
      | none => M.2.2 = [] ∧ Q (Sum.inr e) h') : zwp (d + 1) M i ls st h Q := by
  subst hc
  have hs : zstep zTX M.1 i ls st h = zCl k as rest := hs
  obtain ⟨M', hk, n, o, h2, e, q⟩ := w
  cases o with
  | inl v =>
    obtain ⟨n2, o2, h3, e2, q2⟩ := kk v h2 q
    refine ⟨n + n2 + 1, o2, h3, ?_, q2⟩
    rw [zrun, hs]
    dsimp only
    rw [hk]
    dsimp only
    rw [zrun_le e (m := n + n2) (by omega)]
    exact zrun_le e2 (by omega)
  | inr x =>
    have q1 := kx x h2 q
    cases hh : zhnd M.2.2 i x with
    | none =>
      rw [hh] at q1
      refine ⟨n + 1, Sum.inr x, h2, ?_, q1.2⟩
      rw [zrun, hs]
      dsimp only
      rw [hk]
      dsimp only
      rw [e]
      dsimp only
      rw [hh]
      dsimp only
      rw [q1.1]
    | some j =>
      rw [hh] at q1
      obtain ⟨n2, o2, h3, e2, q2⟩ := q1
      refine ⟨n + n2 + 1, o2, h3, ?_, q2⟩
      rw [zrun, hs]
      dsimp only
      rw [hk]
      dsimp only
      rw [zrun_le e (m := n + n2) (by omega)]
      dsimp only
      rw [hh]
      exact zrun_le e2 (by omega)
/-- a call that returns -/
theorem zwp.ca {c : Bool} {k : Nat} {as rest : List zV} {Qc : Option zV → zH → Prop} (hs : zstep zTX M.1 i ls st h = cond c (zCl k as rest) none) (hc : c = true) (w : zcl d k as h (fun o h' => ∃ v, o = Sum.inl v ∧ Qc v h'))
    (kk : ∀ (v : Option zV) (h' : zH), Qc v h' → zwp (d + 1) M (i + 1) ls (v.toList ++ rest) h' Q) : zwp (d + 1) M i ls st h Q := by
  refine zwp.cx hs hc w (fun v h' q => ?_) (fun e h' q => ?_)
  · obtain ⟨v2, e, q⟩ := q
    cases e
    exact kk _ _ q
  · obtain ⟨v2, e, q⟩ := q
    cases e
end WP
/-- fewer known locals -/
def zle : zLV → zLV → Prop
  | [], [] => True
  | none :: a, _ :: b => zle a b
  | some v :: a, w :: b => w = some v ∧ zle a b
  | _, _ => False
