/-! ===== a run needs no more than the locals it reads ===== -/
theorem zle_get : ∀ (a b : zLV) (i : Nat) (v : zV), zle a b → zget a i = some v → zget b i = some v := by
  intro a
  induction a with
  | nil => intro b i v _ h; simp [zget] at h
  | cons x a ih =>
    intro b i v hl h
    cases b with
    | nil => cases x <;> exact hl.elim
    | cons y b =>
      cases i with
      | zero =>
        cases x with
        | none => simp [zget] at h
        | some u =>
          obtain ⟨e, -⟩ := hl
          rw [e]
          exact h
      | succ i =>
        have hl2 : zle a b := by
          cases x with
          | none => exact hl
          | some u => exact hl.2
        exact ih b i v hl2 h
theorem zle_set : ∀ (a b : zLV) (i : Nat) (v : Option zV), zle a b → zle (a.set i v) (b.set i v) := by
  intro a
  induction a with
  | nil => intro b i v hl; cases b with
    | nil => exact trivial
    | cons y b => exact hl.elim
  | cons x a ih =>
    intro b i v hl
    cases b with
    | nil => cases x <;> exact hl.elim
    | cons y b =>
      have hl2 : zle a b := by
        cases x with
        | none => exact hl
        | some u => exact hl.2
      cases i with
      | zero => cases v with
        | none => exact hl2
        | some v => exact ⟨rfl, hl2⟩
      | succ i =>
        cases x with
        | none => exact ih b i v hl2
        | some u => exact ⟨hl.1, ih b i v hl2⟩
theorem zle_setr : ∀ (a b : zLV) (i : Nat), zle a b → (∀ v, a[i]? ≠ some (some v)) → zle a (b.set i none) := by
  intro a
  induction a with
  | nil => intro b i hl _; cases b with
    | nil => exact trivial
    | cons y b => exact hl.elim
  | cons x a ih =>
    intro b i hl hn
    cases b with
    | nil => cases x <;> exact hl.elim
    | cons y b =>
      have hl2 : zle a b := by
        cases x with
        | none => exact hl
        | some u => exact hl.2
      cases i with
      | zero => cases x with
        | none => exact hl2
        | some v => exact absurd rfl (hn v)
      | succ i =>
        have := ih b i hl2 hn
        cases x with
        | none => exact this
        | some u => exact ⟨hl.1, this⟩
theorem zle_at : ∀ (a b : zLV) (i : Nat) (v : zV), zle a b → a[i]? = some (some v) → b[i]? = some (some v) := by
  intro a b i v hl h
  have h1 : zget a i = some v := by simp [zget, h]
  have h2 := zle_get a b i v hl h1
  unfold zget at h2
  split at h2
  · rename_i u e; rw [e]; rw [Option.some.inj h2]
  · cases h2
theorem zle_clr {a b : zLV} {i : Nat} (hl : zle a b) : zle (zclr a i) (zclr b i) := by
  cases i with
  | zero => exact hl
  | succ j =>
    unfold zclr
    dsimp only
    split
    · rename_i v e
      rw [zle_at a b j _ hl e]
      exact zle_set a b j none hl
    · rename_i h1
      split
      · rename_i v e
        refine zle_setr a b j hl (fun u hu => ?_)
        have := zle_at a b j u hl hu
        rw [e] at this
        cases this
        exact h1 _ hu
      · exact hl
theorem zle_st {a b : zLV} {i : Nat} {v : zV} (hl : zle a b) : zle (zst a i v) (zst b i v) := zle_set _ _ _ _ (zle_clr hl)
theorem zle_st2 {a b : zLV} {i : Nat} {v : zV} (hl : zle a b) : zle (zst2 a i v) (zst2 b i v) := zle_set _ _ _ _ (zle_set _ _ _ _ (zle_clr hl))
theorem zle_kil {a b : zLV} {i : Nat} (hl : zle a b) : zle (zkil a i) (zkil b i) := zle_set _ _ _ _ (zle_clr hl)
def zqle (q q2 : zSR) : Prop := match q, q2 with
  | Sum.inl (j, a, s, h), Sum.inl (j2, b, s2, h2) => j = j2 ∧ zle a b ∧ s = s2 ∧ h = h2
  | Sum.inr a, Sum.inr b => a = b
  | _, _ => False
set_option maxHeartbeats 8000000 in
theorem zsem_le {tx : zTx} {ins : Instr} {x y z w : Nat} {c : Int32 × Int64} {tb : List (Int32 × Nat)} {i : Nat} {a b : zLV} {st : List zV} {h : zH} {q : zSR} (hl : zle a b) (hs : zsem tx ins x y z w c tb i a st h = some q) : ∃ q2, zsem tx ins x y z w c tb i b st h = some q2 ∧ zqle q q2 := by
  cases ins <;> simp only [zsem] at hs ⊢ <;> (repeat' (split at hs)) <;> first
    | (cases hs; done)
    | (cases hs; exact ⟨_, rfl, rfl, hl, rfl, rfl⟩)
    | (cases hs; exact ⟨_, rfl, rfl, zle_st hl, rfl, rfl⟩)
    | (cases hs; exact ⟨_, rfl, rfl, zle_st2 hl, rfl, rfl⟩)
    | (cases hs; exact ⟨_, rfl, rfl⟩)
    | (rename_i e; cases hs; rw [zle_get _ _ _ _ hl e]; exact ⟨_, rfl, rfl, hl, rfl, rfl⟩)
    | (rename_i e; cases hs; rw [zle_get _ _ _ _ hl e]; exact ⟨_, rfl, rfl, zle_st hl, rfl, rfl⟩)
    | (obtain ⟨hb, e⟩ := zcond hs; cases e; rw [hb]; first | exact ⟨_, rfl, rfl, hl, rfl, rfl⟩ | exact ⟨_, rfl, rfl⟩)
    | (obtain ⟨hb, e⟩ := zcondN hs; cases e; rw [hb]; exact ⟨_, rfl, rfl, hl, rfl, rfl⟩)
    | (rename_i a9 st9; cases hc : zcmp _ a9 _ <;> rw [hc] at hs <;> cases hs <;> exact ⟨_, rfl, rfl, hl, rfl, rfl⟩)
    | (rename_i a9 b9 st9; cases hc : zcmp _ b9 a9 <;> rw [hc] at hs <;> cases hs <;> exact ⟨_, rfl, rfl, hl, rfl, rfl⟩)
    | (rename_i e; rw [e]; first | (cases hs; exact ⟨_, rfl, rfl, hl, rfl, rfl⟩) | (obtain ⟨hb, e2⟩ := zcond hs; cases e2; rw [hb]; first | exact ⟨_, rfl, rfl, hl, rfl, rfl⟩ | exact ⟨_, rfl, rfl⟩))
theorem zstep_le {tx : zTx} {cd : List zA} {i : Nat} {a b : zLV} {st : List zV} {h : zH} {q : zSR} (hl : zle a b) (hs : zstep tx cd i a st h = some q) : ∃ q2, zstep tx cd i b st h = some q2 ∧ zqle q q2 := by
  unfold zstep at hs ⊢
  split at hs
  · cases hs
  · exact zsem_le hl hs
theorem zrun_fg {tx : zTx} {MT : Nat → Option zM} : ∀ (n d : Nat) (M : zM) (i : Nat) (a b : zLV) (st : List zV) (h : zH) (r : zO × zH), zle a b → zrun tx MT n d M i a st h = some r → zrun tx MT n d M i b st h = some r := by
  intro n
  induction n with
  | zero => intro d M i a b st h r _ e; simp [zrun] at e
  | succ n ih =>
    intro d M i a b st h r hl e
    rw [zrun] at e ⊢
    cases hs : zstep tx M.1 i a st h with
    | none => rw [hs] at e; cases e
    | some q =>
      rw [hs] at e
      obtain ⟨q2, e2, hq⟩ := zstep_le hl hs
      rw [e2]
      rcases q with ⟨j, ls', st', h'⟩ | q
      · rcases q2 with ⟨j2, l2, s2, h2⟩ | q2
        · obtain ⟨rfl, hl2, rfl, rfl⟩ := hq
          exact ih _ _ _ _ _ _ _ _ hl2 e
        · exact hq.elim
      · rcases q2 with q2 | q2
        · exact hq.elim
        · have hq : q = q2 := hq
          subst hq
          rcases q with ⟨k, as, rest⟩ | v | x
          · cases d with
            | zero => exact e
            | succ d =>
              dsimp only at e ⊢
              cases hk : zMc MT k as with
              | none => rw [hk] at e; exact e
              | some M' =>
                rw [hk] at e
                dsimp only at e ⊢
                cases hc : zrun tx MT n d M' 0 (zent as M'.2.1) [] h with
                | none => rw [hc] at e; cases e
                | some q =>
                  rw [hc] at e
                  obtain ⟨o, h2⟩ := q
                  cases o with
                  | inl v => exact ih _ _ _ _ _ _ _ _ hl e
                  | inr x =>
                    dsimp only at e ⊢
                    cases hh : zhnd M.2.2 i x with
                    | none => rw [hh] at e; exact e
                    | some j => rw [hh] at e; exact ih _ _ _ _ _ _ _ _ (zle_kil hl) e
          · exact e
          · exact e
theorem zwp.fg {d : Nat} {M : zM} {i : Nat} {a b : zLV} {st : List zV} {h : zH} {Q : zO → zH → Prop} (hl : zle a b) (w : zwp d M i a st h Q) : zwp d M i b st h Q := by
  obtain ⟨n, o, h2, e, q⟩ := w
  exact ⟨n, o, h2, zrun_fg _ _ _ _ _ _ _ _ _ hl e, q⟩
