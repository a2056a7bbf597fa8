/-! ===== the law: rules for its cases ===== -/
/-- the script's place never changes -/
theorem zstep_X {tx : zTx} {cd : List zA} {i j : Nat} {ls ls' : zLV} {st st' : List zV} {h h' : zH} (hs : zstep tx cd i ls st h = zNx j ls' st' h') : zX h' = zX h := by
  unfold zstep at hs
  split at hs
  · cases hs
  · rename_i pc ins len x y z w c tb hcd
    clear hcd
    cases ins <;> simp only [zsem] at hs <;> (repeat' (split at hs)) <;> first
      | (cases hs; done)
      | (cases hs; rfl)
      | (obtain ⟨-, e⟩ := zcond hs; first | (cases e; done) | (cases e; rfl))
      | (obtain ⟨-, e⟩ := zcondN hs; cases e; rfl)
      | (rcases zcondB hs with e | e <;> cases e <;> rfl)
theorem zrun_X {tx : zTx} {MT : Nat → Option zM} : ∀ (n d : Nat) (M : zM) (i : Nat) (ls : zLV) (st : List zV) (h : zH) (o : zO) (h' : zH), zrun tx MT n d M i ls st h = some (o, h') → zX h' = zX h := by
  intro n
  induction n with
  | zero => intro d M i ls st h o h' e; simp [zrun] at e
  | succ n ih =>
    intro d M i ls st h o h' e
    rw [zrun] at e
    cases hs : zstep tx M.1 i ls st h with
    | none => rw [hs] at e; cases e
    | some q =>
      rw [hs] at e
      rcases q with ⟨j, ls', st', h2⟩ | ⟨k, as, rest⟩ | v2 | x
      · exact (ih _ _ _ _ _ _ _ _ e).trans (zstep_X hs)
      · cases d with
        | zero => cases e
        | succ d =>
          dsimp only at e
          cases hk : zMc MT k as with
          | none => rw [hk] at e; cases e
          | some M' =>
            rw [hk] at e
            dsimp only at e
            cases hc : zrun tx MT n d M' 0 (zent as M'.2.1) [] h with
            | none => rw [hc] at e; cases e
            | some q =>
              rw [hc] at e
              obtain ⟨o2, h2⟩ := q
              have g1 := ih _ _ _ _ _ _ _ _ hc
              cases o2 with
              | inl v => exact (ih _ _ _ _ _ _ _ _ e).trans g1
              | inr x =>
                dsimp only at e
                cases hh : zhnd M.2.2 i x with
                | none =>
                  rw [hh] at e
                  dsimp only at e
                  split at e
                  · cases e; exact g1
                  · cases e
                | some j => rw [hh] at e; exact (ih _ _ _ _ _ _ _ _ e).trans g1
      · cases e; rfl
      · dsimp only at e
        split at e
        · cases e; rfl
        · cases e
theorem zcl.X {d k : Nat} {as : List zV} {h : zH} {Q : zO → zH → Prop} (w : zcl d k as h Q) : zcl d k as h (fun o h' => Q o h' ∧ zX h' = zX h) := by
  obtain ⟨M, e, n, o, h', r, q⟩ := w
  exact ⟨M, e, n, o, h', r, q, zrun_X _ _ _ _ _ _ _ _ _ r⟩
/-- a block of a method's code -/
def zsb (B : List zA) (lo i : Nat) (ls : zLV) (st : List zV) (h : zH) : Option zSR := match Nat.ble lo i with
  | true => match B[i - lo]? with
    | some (_, ins, _, (x, y, z, w), c, tb) => zsem zTX ins x y z w c tb i ls st h
    | none => none
  | false => none
def zgb (B : List zA) (lo m i : Nat) (ls : zLV) (st : List zV) (h : zH) : Option (Nat × zLV × List zV × zH) := match m with
  | 0 => some (i, ls, st, h)
  | m + 1 => match zsb B lo i ls st h with
    | some (Sum.inl (j, ls', st', h')) => zgb B lo m j ls' st' h'
    | _ => none
/-- the locals of the law: the script, the class, the reference, the answer's row, where it stands, two numbers -/
abbrev zLw (n c : Nat) (a b : Option zV) : zLV := [some (zr ((0, 32, n) : zF)), some (zr ((0, 10, 0) : zF)), some (zr ((52, 11, 0) : zF)), some (zr ((90, 23, 1) : zF)), some (zi (nI (6 * c))), a, b]
section LW
variable {d : Nat} {M : zM} {B : List zA} {lo i j len : Nat} {ls ls' : zLV} {st st' rest : List zV} {h h' : zH} {Q : zO → zH → Prop} {ρ : Nat → Nat → Option zF}
theorem zsb_e {r : Option zSR} (hB : (M.1.drop lo).take len = B) (hi : (Nat.ble lo i && Nat.blt (i - lo) len) = true) (hr : zsb B lo i ls st h = r) : zstep zTX M.1 i ls st h = r := by
  rw [Bool.and_eq_true] at hi
  have h1 : lo ≤ i := Nat.le_of_ble_eq_true hi.1
  have h2 : i - lo < len := Nat.le_of_ble_eq_true hi.2
  have e : B[i - lo]? = M.1[i]? := by
    rw [← hB, List.getElem?_take, if_pos h2, List.getElem?_drop, show lo + (i - lo) = i by omega]
  rw [← hr]
  unfold zstep zsb
  rw [hi.1, e]
  cases M.1[i]? <;> rfl
theorem zsb_s {q : zSR} (hB : (M.1.drop lo).take len = B) (e : zsb B lo i ls st h = some q) : zstep zTX M.1 i ls st h = some q := by
  have e0 := e
  unfold zsb at e
  split at e
  · rename_i h1
    split at e
    · rename_i h2
      have h3 : i - lo < B.length := (List.getElem?_eq_some_iff.mp h2).1
      have h4 : B.length ≤ len := by rw [← hB, List.length_take]; exact Nat.min_le_left _ _
      exact zsb_e hB (by rw [h1, Bool.true_and]; exact Nat.ble_eq_true_of_le (Nat.lt_of_lt_of_le h3 h4)) e0
    · cases e
  · cases e
theorem zwp.gb {m : Nat} (hB : (M.1.drop lo).take len = B) (hs : zgb B lo m i ls st h = some (j, ls', st', h')) (w : zwp d M j ls' st' h' Q) : zwp d M i ls st h Q := by
  induction m generalizing i ls st h with
  | zero =>
    simp only [zgb, Option.some.injEq, Prod.mk.injEq] at hs
    obtain ⟨rfl, rfl, rfl, rfl⟩ := hs
    exact w
  | succ m ih =>
    rw [zgb] at hs
    cases e : zsb B lo i ls st h with
    | none => rw [e] at hs; cases hs
    | some q =>
      rw [e] at hs
      rcases q with ⟨j2, l2, s2, h2⟩ | q
      · exact zwp.nx (zsb_s hB e) (ih hs)
      · cases hs
/-- an int of the script -/
theorem zc_sx {n c k : Nat} {a b : Option zV} {X : Nat → Int32} (hB : (M.1.drop lo).take len = B) (h4 : zgb B lo 4 i (zLw n c a b) st h = some (i + 4, zLw n c a b, zi (nI (6 * c) + nI k) :: zr ((0, 32, n) : zF) :: st, h)) (h5 : ∀ j : Int32, zsb B lo (i + 4) (zLw n c a b) (zi j :: zr ((0, 32, n) : zF) :: st) h = cond (zin j n) (zNx (i + 4 + 1) (zLw n c a b) (zi (zX h j.toNatClampNeg) :: st) h) none) (hX : zX h = X) (hc : 6 * c + 6 ≤ n) (hn : n ≤ 384) (hk : k < 6) (w : zwp d M (i + 5) (zLw n c a b) (zi (X (6 * c + k)) :: st) h Q) : zwp d M i (zLw n c a b) st h Q := by
  refine zwp.gb hB h4 ?_
  have e := h5 (nI (6 * c) + nI k)
  rw [nI_add] at e ⊢
  have z : zin (nI (6 * c + k)) n = true := by
    unfold zin
    rw [nI_clamp (by omega)]
    have h1 : ¬ nI (6 * c + k) < 0 := nI_pos (by omega)
    simp [h1]
    omega
  rw [z, nI_clamp (by omega), hX] at e
  exact zwp.nx (zsb_s hB e) w
variable {e k : Nat} {as : List zV} {b : Bool}
theorem zl_ci {q : Int32 × zH} (w : zcl e k as h (zQi ρ q)) (he : e ≤ d) (hs : zstep zTX M.1 i ls st h = cond b (zCl k as rest) none) (hb : b = true) (kk : zRq q.2 ρ → zX q.2 = zX h → zwp (d + 1) M (i + 1) ls (zi q.1 :: rest) q.2 Q) : zwp (d + 1) M i ls st h Q := by
  refine zwp.cx hs hb (w.X.le he) (fun v h' q1 => ?_) (fun x h' q1 => ?_)
  · obtain ⟨⟨⟨q2, q3⟩, q4⟩, q5⟩ := q1
    cases q2
    subst q3
    exact kk q4 q5
  · cases q1.1.1.1
theorem zl_cp {v : Int32} (w : zcl e k as h (zQp h v)) (he : e ≤ d) (hs : zstep zTX M.1 i ls st h = cond b (zCl k as rest) none) (hb : b = true) (kk : zwp (d + 1) M (i + 1) ls (zi v :: rest) h Q) : zwp (d + 1) M i ls st h Q := by
  refine zwp.cx hs hb (w.le he) (fun v h' q1 => ?_) (fun x h' q1 => ?_)
  · obtain ⟨q2, q3⟩ := q1
    cases q2
    subst q3
    exact kk
  · cases q1.1
theorem zl_cv {q : zH} (w : zcl e k as h (zQv ρ q)) (he : e ≤ d) (hs : zstep zTX M.1 i ls st h = cond b (zCl k as rest) none) (hb : b = true) (kk : zRq q ρ → zX q = zX h → zwp (d + 1) M (i + 1) ls rest q Q) : zwp (d + 1) M i ls st h Q := by
  refine zwp.cx hs hb (w.X.le he) (fun v h' q1 => ?_) (fun x h' q1 => ?_)
  · obtain ⟨⟨⟨q2, q3⟩, q4⟩, q5⟩ := q1
    cases q2
    subst q3
    exact kk q4 q5
  · cases q1.1.1.1
/-- is it other than 0? -/
theorem zl_b3 {x : Int32} (hs : zstep zTX M.1 i ls (zi x :: st) h = cond (decide (x = 0)) (zNx (i + 3) ls st h) (zNx (i + 1) ls st h)) (k0 : zwp d M j ls (zi 0 :: st) h Q → zwp d M (i + 3) ls st h Q) (k1 : zwp d M j ls (zi 1 :: st) h Q → zwp d M (i + 1) ls st h Q) (w : zwp d M j ls (zi (if x = 0 then 0 else 1) :: st) h Q) : zwp d M i ls (zi x :: st) h Q := by
  by_cases q : x = 0
  · rw [if_pos q] at w
    rw [decide_eq_true q] at hs
    exact zwp.nx hs (k0 w)
  · rw [if_neg q] at w
    rw [decide_eq_false q] at hs
    exact zwp.nx hs (k1 w)
theorem zs_sw {v a : Int32} {t : Nat} {tb : List (Int32 × Nat)} (kt : zwp d M t ls st h Q) (kf : zwp d M (zsw tb j a) ls st h Q) : zwp d M (zsw ((v, t) :: tb) j a) ls st h Q := by
  show zwp d M (if a = v then t else zsw tb j a) ls st h Q
  by_cases q : a = v
  · rw [if_pos q]; exact kt
  · rw [if_neg q]; exact kf
end LW
theorem lg_cmp_rf (a : Int64) : lg_cmp a a = 0 := by
  unfold lg_cmp
  simp
/-- how much is made: without the image's cells, with them -/
def zJ (ρ : Nat → Nat → Option zF) (c : Nat) (h : zH) : Prop := (ρ 0 7 = none ∧ zI h 0 8 = nI 0 ∧ (zK h).length = 91 ∧ zc h ≤ 91 + c ∧ zs h ≤ 60000 + 6 * c) ∨ (ρ 0 7 = some (91, 2, 0) ∧ zLdS ρ 91 ∧ zc h ≤ 103 + c ∧ zs h ≤ 62000 + 6 * c)
/-- what holds at the law's loop -/
def zIv (X : Nat → Int32) (c : Nat) (h : zH) : Prop := ∃ ρ pp tp P L, zRel c h pp P L ∧ zRq h ρ ∧ zSh ρ ∧ ((pp = 2 ∧ tp = 9) ∨ (pp = 9 ∧ tp = 2)) ∧ ρ 0 3 = some (pp, 3, 0) ∧ ρ 0 4 = some (tp, 3, 0) ∧ zJ ρ c h ∧ zX h = X
section IV
variable {ρ ρ1 : Nat → Nat → Option zF} {c pp tp pp2 : Nat} {h h2 : zH} {P : zPl} {L : zLg}
theorem zJ.nx (j : zJ ρ c h) (g : zGd h h2) : zJ ρ (c + 1) h2 := by
  obtain ⟨g1, g2, g3, g4, g5⟩ := g
  rcases j with ⟨j1, j2, j3, j4, j5⟩ | ⟨j1, j2, j3, j4⟩
  · exact Or.inl ⟨j1, g5.trans j2, by rw [g1]; exact j3, by omega, by omega⟩
  · exact Or.inr ⟨j1, j2, by omega, by omega⟩
theorem zJ.lo (j : zJ ρ c h) (e : ρ1 0 7 = ρ 0 7 ∧ (zLdS ρ 91 → zLdS ρ1 91)) (g : zGe h h2) (g8 : zI h2 0 8 = zI h 0 8 ∨ zI h2 0 8 = nI 0) : zJ ρ1 (c + 1) h2 := by
  obtain ⟨g1, g2, g3, g4⟩ := g
  rcases j with ⟨j1, j2, j3, j4, j5⟩ | ⟨j1, j2, j3, j4⟩
  · refine Or.inl ⟨e.1.trans j1, ?_, by rw [g1]; exact j3, by omega, by omega⟩
    rcases g8 with q | q
    · exact q.trans j2
    · exact q
  · exact Or.inr ⟨e.1.trans j1, e.2 j2, by omega, by omega⟩
theorem zJ.im (j : zJ ρ c h) (h8 : zI h 0 8 = nI 1) : ρ 0 7 = some (91, 2, 0) ∧ zLdS ρ 91 := by
  rcases j with ⟨j1, j2, j3, j4, j5⟩ | ⟨j1, j2, j3, j4⟩
  · rw [j2] at h8; exact absurd h8 (by decide)
  · exact ⟨j1, j2⟩
theorem zLdS_u {a y : Nat} {r : Option zF} (ha : a < 91) (w : zLdS ρ 91) : zLdS (zρu ρ a y r) 91 := by
  obtain ⟨w1, w2, w3, w4, w5, w6, w7, w8, w9, w10, w11, w12, w13⟩ := w
  refine ⟨w1, ?_, ?_, ?_, ?_, ?_, ?_, w8, ?_, ?_, ?_, ?_, ?_⟩
  · rw [zρu_o (Or.inl (by omega))]; exact w2
  · rw [zρu_o (Or.inl (by omega))]; exact w3
  · rw [zρu_o (Or.inl (by omega))]; exact w4
  · rw [zρu_o (Or.inl (by omega))]; exact w5
  · rw [zρu_o (Or.inl (by omega))]; exact w6
  · rw [zρu_o (Or.inl (by omega))]; exact w7
  · rw [zρu_o (Or.inl (by omega))]; exact w9
  · rw [zρu_o (Or.inl (by omega))]; exact w10
  · rw [zρu_o (Or.inl (by omega))]; exact w11
  · rw [zρu_o (Or.inl (by omega))]; exact w12
  · rw [zρu_o (Or.inl (by omega))]; exact w13
/-- the references behind a loom -/
theorem zIv_l {r : Int32 ⊕ Nat} (hρ : zSh ρ) (hpt : (pp = 2 ∧ tp = 9) ∨ (pp = 9 ∧ tp = 2)) (h3 : ρ 0 3 = some (pp, 3, 0)) (h4 : ρ 0 4 = some (tp, 3, 0)) (gp : (r = Sum.inl 0 ∧ pp2 = tp) ∨ (r ≠ Sum.inl 0 ∧ pp2 = pp)) : zSh (zρl ρ pp tp r) ∧ ((pp2 = 2 ∧ 11 - pp2 = 9) ∨ (pp2 = 9 ∧ 11 - pp2 = 2)) ∧ zρl ρ pp tp r 0 3 = some (pp2, 3, 0) ∧ zρl ρ pp tp r 0 4 = some (11 - pp2, 3, 0) ∧ (zρl ρ pp tp r 0 7 = ρ 0 7 ∧ (zLdS ρ 91 → zLdS (zρl ρ pp tp r) 91)) := by
  have et : tp = 11 - pp := by omega
  have ep : pp = 11 - tp := by omega
  rcases gp with ⟨e, e2⟩ | ⟨e, e2⟩
  · subst e2
    rw [e, zρl_0]
    refine ⟨zSh_u (zSh_u (zSh_u hρ rfl) rfl) rfl, by omega, zρu_s, ?_, ?_, fun w => zLdS_u (by omega) (zLdS_u (by omega) (zLdS_u (by omega) w))⟩
    · rw [zρu_o (Or.inr (by decide)), zρu_s, ← ep]
    · rw [zρu_o (Or.inr (by decide)), zρu_o (Or.inr (by decide)), zρu_o (Or.inl (by decide))]
  · subst e2
    cases r with
    | inl v =>
      have n : ¬ v = 0 := fun z => e (by rw [z])
      rw [zρl_1 _ _ _ n]
      refine ⟨zSh_u hρ rfl, by omega, ?_, ?_, ?_, fun w => zLdS_u (by omega) w⟩
      · rw [zρu_o (Or.inl (by decide))]; exact h3
      · rw [zρu_o (Or.inl (by decide)), ← et]; exact h4
      · rw [zρu_o (Or.inl (by decide))]
    | inr x =>
      refine ⟨hρ, by omega, h3, ?_, rfl, fun w => w⟩
      show ρ 0 4 = _
      rw [← et]; exact h4
/-- the image's cells lie behind all others -/
def evOk (m : Nat) (e : zEv) : Bool := if e.1 = 0 then decide (m ≤ e.2.2.2.2.1) else if e.1 = 1 then decide (m ≤ e.2.1) else if e.1 = 2 then decide (m ≤ e.2.1 ∨ (e.2.1 = 0 ∧ e.2.2.1 = 7)) else if e.1 = 3 then decide (m ≤ e.2.1) else false
def evLo (m : Nat) : List zEv → Bool
  | [] => true
  | e :: E => evOk m e && evLo m E
theorem zap_lo {m : Nat} {e : zEv} (h : zH) (he : evOk m e = true) {b : Nat} (hb : b < m) : zI (zap e h) b = zI h b ∧ ∀ k, ¬ (b = 0 ∧ k = 7) → zR (zap e h) b k = zR h b k := by
  obtain ⟨t, a, y, v, x, f⟩ := e
  unfold evOk at he
  unfold zap
  by_cases q : t = 0
  · rw [if_pos q] at he ⊢
    have he := of_decide_eq_true he
    dsimp only at he
    refine ⟨zrow_ne (by dsimp only; omega), fun k _ => ?_⟩
    show zrow (zR h) x (fun _ => none) b k = zR h b k
    rw [zrow_ne (by omega)]
  · rw [if_neg q] at he ⊢
    by_cases q1 : t = 1
    · rw [if_pos q1] at he ⊢
      have he := of_decide_eq_true he
      dsimp only at he
      exact ⟨zup_ne (by dsimp only; omega), fun k _ => rfl⟩
    · rw [if_neg q1] at he ⊢
      by_cases q2 : t = 2
      · rw [if_pos q2] at he ⊢
        have he := of_decide_eq_true he
        dsimp only at he
        refine ⟨rfl, fun k hk => ?_⟩
        show (if b = a then (if k = y then _ else zR h b k) else zR h b k) = zR h b k
        by_cases z : b = a
        · rw [if_pos z, if_neg (by omega)]
        · rw [if_neg z]
      · rw [if_neg q2] at he ⊢
        by_cases q3 : t = 3
        · rw [if_pos q3] at he ⊢
          have he := of_decide_eq_true he
          dsimp only at he
          exact ⟨rfl, fun k _ => congrFun (zup_ne (by dsimp only; omega)) k⟩
        · rw [if_neg q3] at he
          cases he
theorem zof_lo {m : Nat} (h : zH) : ∀ E, evLo m E = true → ∀ b, b < m → zI (zof h E) b = zI h b ∧ ∀ k, ¬ (b = 0 ∧ k = 7) → zR (zof h E) b k = zR h b k := by
  intro E
  induction E with
  | nil => intro _ b _; exact ⟨rfl, fun _ _ => rfl⟩
  | cons ev E ih =>
    intro he b hb
    rw [evLo, Bool.and_eq_true] at he
    obtain ⟨i1, i2⟩ := ih he.2 b hb
    obtain ⟨j1, j2⟩ := zap_lo (zof h E) he.1 hb
    exact ⟨j1.trans i1, fun k hk => (j2 k hk).trans (i2 k hk)⟩
theorem e_img_lo : evLo 91 e_img = true := by decide +kernel
theorem zfx_b {a y : Nat} (h : zfx a y = true) : a < 56 ∧ ¬ (a = 0 ∧ y = 7) ∧ zmu a y = false := by
  unfold zfx zρ0 at h
  split at h <;> first
    | (cases h; done)
    | (exact ⟨by decide, by decide, rfl⟩)
theorem zimg (w : zRel c h pp P L) (hR : zRq h ρ) (hρ : zSh ρ) (h3 : ρ 0 3 = some (pp, 3, 0)) (h4 : ρ 0 4 = some (tp, 3, 0)) (h8 : zI h 0 8 = nI 0) : zSh (zR (zof h e_img)) ∧ zR (zof h e_img) 0 3 = some (pp, 3, 0) ∧ zR (zof h e_img) 0 4 = some (tp, 3, 0) ∧ zLdS (zR (zof h e_img)) 91 ∧ zRel c (zof h e_img) pp P L ∧ zc (zof h e_img) = zc h + 12 ∧ zs (zof h e_img) = zs h + 1598 := by
  have lo := zof_lo h e_img e_img_lo
  have sm : zSm (fun b _ => 91 ≤ b) h (zof h e_img) := fun b k n => by rw [(lo b (by omega)).1]
  refine ⟨fun a y hz => ?_, ?_, ?_, ⟨rfl, rfl, rfl, rfl, rfl, rfl, rfl, ⟨rfl, rfl, rfl, rfl, rfl, rfl⟩⟩, ?_, rfl, ?_⟩
  · obtain ⟨z1, z2, z3⟩ := zfx_b hz
    rw [(lo a (by omega)).2 y z2, hR a y z3]
    exact hρ a y hz
  · rw [(lo 0 (by omega)).2 3 (by omega), hR 0 3 rfl]; exact h3
  · rw [(lo 0 (by omega)).2 4 (by omega), hR 0 4 rfl]; exact h4
  · obtain ⟨w0, hP, hL, wC, wM, cC, cM, wa, ⟨b, b1, b8, b59, -⟩, ⟨t, wt⟩, w02, wk⟩ := w
    have hR := hP.1
    have eb : b = 0 := (nI_eq (a := b) (b := 0) (by omega) (by omega)).mp (b8.symm.trans h8)
    subst eb
    refine ⟨w0, hP, hL, wC.sm sm (fun b k e1 e2 => by omega), wM.sm sm (fun b k e => by omega), cC.sm sm (fun b k e1 e2 => by omega) hR hL, cM.sm sm (fun b k e => by omega) hR hL, wa.sm sm (fun b k e => by omega), ⟨0, Nat.zero_le _, ?_, ?_, fun e => absurd e (by decide)⟩, ⟨t, wt.sm sm (fun b k e => by omega)⟩, ?_, wk.sm sm (fun b k e => by omega)⟩
    · rw [sm _ _ (by omega)]; exact b8
    · rw [sm _ _ (by omega)]; exact b59
    · rw [sm _ _ (by omega), sm _ _ (by omega)]; exact w02
  · have : zs (zof h e_img) = zs h + 8 + 9 + 12 + 2 + 2 + 9 + 9 + 8 + 8 + 8 + 3 + 1520 := rfl
    omega
end IV
