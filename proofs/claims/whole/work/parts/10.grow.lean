/-! ===== what a run keeps ===== -/
theorem zcondB {α : Type} {b : Bool} {x y z : α} (h : cond b (some x) (some y) = some z) : x = z ∨ y = z := by
  cases b with
  | true => exact Or.inl (Option.some.inj h)
  | false => exact Or.inr (Option.some.inj h)
def zgrow (h h' : zH) : Prop := zc h ≤ zc h' ∧ zs h ≤ zs h' ∧ ∃ ext, zK h' = zK h ++ ext
theorem zgrow.rf (h : zH) : zgrow h h := ⟨Nat.le_refl _, Nat.le_refl _, [], (List.append_nil _).symm⟩
theorem zgrow.wI (h : zH) (a k : Nat) (v : Int32) : zgrow h (zwI h a k v) := zgrow.rf h
theorem zgrow.wR (h : zH) (a k : Nat) (v : Option zF) : zgrow h (zwR h a k v) := zgrow.rf h
theorem zgrow.wL (h : zH) (a k : Nat) (v : Int64) : zgrow h (zwL h a k v) := zgrow.rf h
theorem zgrow.wA (h : zH) (a : Nat) (v : Nat → Int32) : zgrow h (zwA h a v) := zgrow.rf h
theorem zgrow.al (h : zH) (k len n : Nat) : zgrow h (zal h k len n) := ⟨Nat.le_succ _, Nat.le_add_right _ _, [(k, len)], rfl⟩
theorem zgrow.th (h : zH) : zgrow h (zth h) := ⟨Nat.le_succ _, Nat.le_add_right _ _, [], (List.append_nil _).symm⟩
theorem zgrow.tr {a b c : zH} (h1 : zgrow a b) (h2 : zgrow b c) : zgrow a c := by
  obtain ⟨a1, a2, e1, a3⟩ := h1
  obtain ⟨b1, b2, e2, b3⟩ := h2
  exact ⟨Nat.le_trans a1 b1, Nat.le_trans a2 b2, e1 ++ e2, by rw [b3, a3, List.append_assoc]⟩
set_option maxHeartbeats 4000000 in
theorem zstep_grow {tx : zTx} {cd : List zA} {i j : Nat} {ls ls' : zLV} {st st' : List zV} {h h' : zH} (hs : zstep tx cd i ls st h = zNx j ls' st' h') : zgrow h h' := by
  unfold zstep at hs
  split at hs
  · cases hs
  · rename_i pc ins len x y z w c tb hcd
    clear hcd
    cases ins <;> simp only [zsem] at hs <;> (repeat' (split at hs)) <;> first
      | (cases hs; done)
      | (cases hs; first | exact zgrow.rf _ | exact zgrow.wI _ _ _ _ | exact zgrow.wR _ _ _ _ | exact zgrow.al _ _ _ _)
      | (obtain ⟨-, e⟩ := zcond hs; first | (cases e; done) | (cases e; first | exact zgrow.rf _ | exact zgrow.wI _ _ _ _ | exact zgrow.wR _ _ _ _ | exact zgrow.wL _ _ _ _ | exact zgrow.wA _ _ _ | exact zgrow.al _ _ _ _))
      | (obtain ⟨-, e⟩ := zcondN hs; cases e; exact zgrow.rf _)
      | (rcases zcondB hs with e | e <;> cases e <;> exact zgrow.rf _)
theorem zrun_grow {tx : zTx} {MT : Nat → Option zM} : ∀ (n d : Nat) (M : zM) (i : Nat) (ls : zLV) (st : List zV) (h : zH) (o : zO) (h' : zH), zrun tx MT n d M i ls st h = some (o, h') → zgrow h h' := by
  intro n
  induction n with
  | zero => intro d M i ls st h o h' e; simp [zrun] at e
  | succ n ih =>
    intro d M i ls st h o h' e
    rw [zrun] at e
    cases hs : zstep tx M.1 i ls st h with
    | none => rw [hs] at e; cases e
    | some q =>
      rw [hs] at e
      rcases q with ⟨j, ls', st', h2⟩ | ⟨k, as, rest⟩ | v2 | x
      · exact (zstep_grow hs).tr (ih _ _ _ _ _ _ _ _ e)
      · cases d with
        | zero => cases e
        | succ d =>
          dsimp only at e
          cases hk : zMc MT k as with
          | none => rw [hk] at e; cases e
          | some M' =>
            rw [hk] at e
            dsimp only at e
            cases hc : zrun tx MT n d M' 0 (zent as M'.2.1) [] h with
            | none => rw [hc] at e; cases e
            | some q =>
              rw [hc] at e
              obtain ⟨o2, h2⟩ := q
              have g1 := ih _ _ _ _ _ _ _ _ hc
              cases o2 with
              | inl v => exact g1.tr (ih _ _ _ _ _ _ _ _ e)
              | inr x =>
                dsimp only at e
                cases hh : zhnd M.2.2 i x with
                | none =>
                  rw [hh] at e
                  dsimp only at e
                  split at e
                  · cases e; exact g1
                  · cases e
                | some j => rw [hh] at e; exact g1.tr (ih _ _ _ _ _ _ _ _ e)
      · cases e; exact zgrow.rf _
      · dsimp only at e
        split at e
        · cases e; exact zgrow.th _
        · cases e
set_option maxHeartbeats 4000000 in
theorem zstep_ret {tx : zTx} {cd : List zA} {i : Nat} {ls : zLV} {st : List zV} {h : zH} {v : Option zV} (hs : zstep tx cd i ls st h = zRt v) : v = none ∨ ∃ x, v = some (zi x) := by
  unfold zstep at hs
  split at hs
  · cases hs
  · rename_i pc ins len x y z w c tb hcd
    clear hcd
    cases ins <;> simp only [zsem] at hs <;> (repeat' (split at hs)) <;> first
      | (cases hs; done)
      | (cases hs; exact Or.inl rfl)
      | (obtain ⟨-, e⟩ := zcond hs; first | (cases e; done) | (cases e; exact Or.inr ⟨_, rfl⟩))
      | (obtain ⟨-, e⟩ := zcondN hs; cases e)
      | (rcases zcondB hs with e | e <;> cases e)
theorem zrun_ret {tx : zTx} {MT : Nat → Option zM} : ∀ (n d : Nat) (M : zM) (i : Nat) (ls : zLV) (st : List zV) (h : zH) (v : Option zV) (h' : zH), zrun tx MT n d M i ls st h = some (Sum.inl v, h') → v = none ∨ ∃ x, v = some (zi x) := by
  intro n
  induction n with
  | zero => intro d M i ls st h o h' e; simp [zrun] at e
  | succ n ih =>
    intro d M i ls st h v h' e
    rw [zrun] at e
    cases hs : zstep tx M.1 i ls st h with
    | none => rw [hs] at e; cases e
    | some q =>
      rw [hs] at e
      rcases q with ⟨j, ls', st', h2⟩ | ⟨k, as, rest⟩ | v2 | x
      · exact ih _ _ _ _ _ _ _ _ e
      · cases d with
        | zero => cases e
        | succ d =>
          dsimp only at e
          cases hk : zMc MT k as with
          | none => rw [hk] at e; cases e
          | some M' =>
            rw [hk] at e
            dsimp only at e
            cases hc : zrun tx MT n d M' 0 (zent as M'.2.1) [] h with
            | none => rw [hc] at e; cases e
            | some q =>
              rw [hc] at e
              obtain ⟨o2, h2⟩ := q
              cases o2 with
              | inl v => exact ih _ _ _ _ _ _ _ _ e
              | inr x =>
                dsimp only at e
                cases hh : zhnd M.2.2 i x with
                | none =>
                  rw [hh] at e
                  dsimp only at e
                  split at e
                  · cases e
                  · cases e
                | some j => rw [hh] at e; exact ih _ _ _ _ _ _ _ _ e
      · cases e; exact zstep_ret hs
      · dsimp only at e
        split at e <;> cases e
theorem zrun_thr {tx : zTx} {MT : Nat → Option zM} : ∀ (n d : Nat) (M : zM) (i : Nat) (ls : zLV) (st : List zV) (h : zH) (v : Nat) (h' : zH), zrun tx MT n d M i ls st h = some (Sum.inr v, h') → M.2.2 = [] := by
  intro n
  induction n with
  | zero => intro d M i ls st h o h' e; simp [zrun] at e
  | succ n ih =>
    intro d M i ls st h v h' e
    rw [zrun] at e
    cases hs : zstep tx M.1 i ls st h with
    | none => rw [hs] at e; cases e
    | some q =>
      rw [hs] at e
      rcases q with ⟨j, ls', st', h2⟩ | ⟨k, as, rest⟩ | v2 | x
      · exact ih _ _ _ _ _ _ _ _ e
      · cases d with
        | zero => cases e
        | succ d =>
          dsimp only at e
          cases hk : zMc MT k as with
          | none => rw [hk] at e; cases e
          | some M' =>
            rw [hk] at e
            dsimp only at e
            cases hc : zrun tx MT n d M' 0 (zent as M'.2.1) [] h with
            | none => rw [hc] at e; cases e
            | some q =>
              rw [hc] at e
              obtain ⟨o2, h2⟩ := q
              cases o2 with
              | inl v => exact ih _ _ _ _ _ _ _ _ e
              | inr x =>
                dsimp only at e
                cases hh : zhnd M.2.2 i x with
                | none =>
                  rw [hh] at e
                  dsimp only at e
                  split at e
                  · assumption
                  · cases e
                | some j => rw [hh] at e; exact ih _ _ _ _ _ _ _ _ e
      · cases e
      · dsimp only at e
        split at e
        · assumption
        · cases e
