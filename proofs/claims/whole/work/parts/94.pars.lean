/-! ===== the parser as a function ===== -/
abbrev pRs : Type := (Nat × Nat) ⊕ (Nat × List Nat)
def pB (r : pRs) (f : Nat → List Nat → pRs) : pRs := match r with
  | Sum.inl q => Sum.inl q
  | Sum.inr q => f q.1 q.2
theorem pB_r (x : Nat) (C : List Nat) (f : Nat → List Nat → pRs) : pB (Sum.inr (x, C)) f = f x C := rfl
theorem pB_l (q : Nat × Nat) (f : Nat → List Nat → pRs) : pB (Sum.inl q) f = Sum.inl q := rfl
section PA
variable (wv : Bool) (B : Nat → Nat) (N : Nat)
def tOp (x : Nat) : Nat := if tM B N x 42 = true then 8 else if tM B N x 47 = true then 9 else 0
def tOs (x : Nat) : Nat := if tM B N x 43 = true then 6 else if tM B N x 45 = true then 7 else 0
def tOt (x : Nat) : Nat := if tM B N x 60 = true then 4 else if tM B N x 61 = true then 5 else 0
def tOa (x : Nat) : Nat := if tW B N x 16 = true then 2 else 0
def tOo (x : Nat) : Nat := if tW B N x 15 = true then 1 else 0
def pPart (rx : Nat → Nat → pRs) (a x : Nat) : pRs :=
  if tK B N x = 3 then (if 4 < tE B N x - tP B N x then Sum.inl (2, tP B N x) else Sum.inr (tE B N x, [tV B N x]))
  else if tK B N x = 2 then (if pVal wv B N x = 5 then Sum.inl (3, tP B N x) else Sum.inr (tE B N x, [10000 + pVal wv B N x]))
  else if tM B N x 40 = true then pB (rx (a + 1) (tE B N x)) (fun y C => if tM B N y 41 = true then Sum.inr (tE B N y, C) else Sum.inl (1, tP B N y))
  else Sum.inl (1, tP B N x)
def pL (op : Nat → Nat) (sub : Nat → pRs) : Nat → Nat → List Nat → pRs
  | 0, x, C => Sum.inr (x, C)
  | n + 1, x, C => if op x = 0 then Sum.inr (x, C) else pB (sub (tE B N x)) (fun y D => pL op sub n y (C ++ D ++ [20000 + op x]))
/-- one, then any number of times an operation and one more -/
def pM (op : Nat → Nat) (sub : Nat → pRs) (x : Nat) : pRs := pB (sub x) (fun y C => pL B N op sub (N + 1 - y) y C)
def pProd (rx : Nat → Nat → pRs) (a x : Nat) : pRs := pM B N (tOp B N) (pPart wv B N rx a) x
def pSum (rx : Nat → Nat → pRs) (a x : Nat) : pRs := pM B N (tOs B N) (pProd wv B N rx a) x
def pTest (rx : Nat → Nat → pRs) (a x : Nat) : pRs := pB (pSum wv B N rx a x) (fun y C => if tOt B N y = 0 then Sum.inr (y, C) else pB (pSum wv B N rx a (tE B N y)) (fun z D => Sum.inr (z, C ++ D ++ [20000 + tOt B N y])))
def pNt (rx : Nat → Nat → pRs) (a : Nat) : Nat → Nat → Nat → pRs
  | 0, _, _ => Sum.inl (1, 0)
  | f + 1, m, x => if tW B N x 7 = true then (if m = 6 then Sum.inl (2, tP B N x) else pNt rx a f (m + 1) (tE B N x)) else pB (pTest wv B N rx a x) (fun y C => Sum.inr (y, C ++ List.replicate m 20003))
def pNot (rx : Nat → Nat → pRs) (a x : Nat) : pRs := pNt wv B N rx a 7 0 x
def pAnd (rx : Nat → Nat → pRs) (a x : Nat) : pRs := pM B N (tOa B N) (pNot wv B N rx a) x
def pOr (rx : Nat → Nat → pRs) (a x : Nat) : pRs := pM B N (tOo B N) (pAnd wv B N rx a) x
def pExpr (rx : Nat → Nat → pRs) (a x : Nat) : pRs := if tK B N x = 3 ∨ tK B N x = 2 ∨ tM B N x 40 = true then (if a = 6 then Sum.inl (2, tP B N x) else pOr wv B N rx a x) else Sum.inl (1, tP B N x)
def pEx : Nat → Nat → Nat → pRs
  | 0 => fun _ _ => Sum.inl (1, 0)
  | n + 1 => fun a x => pExpr wv B N (pEx n) a x
end PA
/-- a result that is told: a fault is none of 0; else it went on, and told no more than it read -/
def pG (N x : Nat) (r : pRs) : Prop := match r with
  | Sum.inl q => 1 ≤ q.1 ∧ q.1 ≤ 3
  | Sum.inr q => x < q.1 ∧ q.1 ≤ N ∧ q.2.length + x ≤ q.1
theorem pG_f {N x k p : Nat} (h1 : 1 ≤ k) (h2 : k ≤ 3) : pG N x (Sum.inl (k, p)) := ⟨h1, h2⟩
section PG
variable {wv : Bool} {B : Nat → Nat} {N : Nat}
theorem pB_G {x : Nat} {r : pRs} {f : Nat → List Nat → pRs} (h : pG N x r) (g : ∀ y C, x < y → y ≤ N → C.length + x ≤ y → pG N x (f y C)) : pG N x (pB r f) := by
  cases r with
  | inl q => exact h
  | inr q => exact g q.1 q.2 h.1 h.2.1 h.2.2
theorem tM_k {x c : Nat} (h : tM B N x c = true) : tK B N x = 4 ∧ B (tP B N x) = c := of_decide_eq_true h
theorem tW_k {x c : Nat} (h : tW B N x c = true) : tK B N x = 2 := (of_decide_eq_true h).1
theorem tOp_k {x : Nat} (h : tOp B N x ≠ 0) : tK B N x = 4 := by
  unfold tOp at h
  split at h
  · rename_i q; exact (tM_k q).1
  · split at h
    · rename_i q; exact (tM_k q).1
    · exact absurd rfl h
theorem tOs_k {x : Nat} (h : tOs B N x ≠ 0) : tK B N x = 4 := by
  unfold tOs at h
  split at h
  · rename_i q; exact (tM_k q).1
  · split at h
    · rename_i q; exact (tM_k q).1
    · exact absurd rfl h
theorem tOt_k {x : Nat} (h : tOt B N x ≠ 0) : tK B N x = 4 := by
  unfold tOt at h
  split at h
  · rename_i q; exact (tM_k q).1
  · split at h
    · rename_i q; exact (tM_k q).1
    · exact absurd rfl h
theorem tOa_k {x : Nat} (h : tOa B N x ≠ 0) : tK B N x = 2 := by
  unfold tOa at h
  split at h
  · rename_i q; exact tW_k q
  · exact absurd rfl h
theorem tOo_k {x : Nat} (h : tOo B N x ≠ 0) : tK B N x = 2 := by
  unfold tOo at h
  split at h
  · rename_i q; exact tW_k q
  · exact absurd rfl h
/-- an operation is a token -/
def pOpk (B : Nat → Nat) (N : Nat) (op : Nat → Nat) : Prop := ∀ x, op x ≠ 0 → tK B N x ≠ 0
theorem pL_G {op : Nat → Nat} {sub : Nat → pRs} (ho : pOpk B N op) (hs : ∀ y, y ≤ N → pG N y (sub y)) {x0 : Nat} : ∀ f x C, N - x < f → x0 < x → x ≤ N → C.length + x0 ≤ x → pG N x0 (pL B N op sub f x C) := by
  intro f
  induction f with
  | zero => intro x C h; omega
  | succ f ih =>
    intro x C h1 h2 h3 h4
    rw [pL]
    by_cases q : op x = 0
    · rw [if_pos q]; exact ⟨h2, h3, h4⟩
    · rw [if_neg q]
      have e1 := tE_1 (B := B) h3 (ho x q)
      have e2 := (tE_le (B := B) h3).2.1
      have g := hs (tE B N x) e2
      cases hr : sub (tE B N x) with
      | inl p => rw [hr] at g; exact g
      | inr p =>
        rw [hr] at g
        obtain ⟨g1, g2, g3⟩ := g
        show pG N x0 (pL B N op sub f p.1 (C ++ p.2 ++ [20000 + op x]))
        refine ih p.1 _ (by omega) (by omega) g2 ?_
        rw [List.length_append, List.length_append, List.length_singleton]
        omega
theorem pM_G {op : Nat → Nat} {sub : Nat → pRs} (ho : pOpk B N op) (hs : ∀ y, y ≤ N → pG N y (sub y)) {x : Nat} (hx : x ≤ N) : pG N x (pM B N op sub x) := by
  unfold pM
  exact pB_G (hs x hx) (fun y C h1 h2 h3 => pL_G ho hs _ y C (by omega) h1 h2 h3)
theorem pPart_G {rx : Nat → Nat → pRs} (hr : ∀ a y, y ≤ N → pG N y (rx a y)) (a : Nat) {x : Nat} (hx : x ≤ N) : pG N x (pPart wv B N rx a x) := by
  have e2 := tE_le (B := B) hx
  unfold pPart
  split
  · rename_i q
    have e1 := tE_1 (B := B) hx (by omega)
    split
    · exact pG_f (by decide) (by decide)
    · refine ⟨?_, e2.2.1, ?_⟩
      · show x < tE B N x; omega
      · show 1 + x ≤ tE B N x; omega
  · split
    · rename_i q
      have e1 := tE_1 (B := B) hx (by omega)
      split
      · exact pG_f (by decide) (by decide)
      · refine ⟨?_, e2.2.1, ?_⟩
        · show x < tE B N x; omega
        · show 1 + x ≤ tE B N x; omega
    · split
      · rename_i q
        have e1 := tE_1 (B := B) hx (by have := (tM_k q).1; omega)
        have g := hr (a + 1) (tE B N x) e2.2.1
        cases h : rx (a + 1) (tE B N x) with
        | inl p => rw [h] at g; exact g
        | inr p =>
          rw [h] at g
          obtain ⟨g1, g2, g3⟩ := g
          show pG N x (if tM B N p.1 41 = true then Sum.inr (tE B N p.1, p.2) else Sum.inl (1, tP B N p.1))
          split
          · rename_i q2
            have e3 := tE_1 (B := B) g2 (by have := (tM_k q2).1; omega)
            have e4 := (tE_le (B := B) g2).2.1
            refine ⟨?_, e4, ?_⟩
            · show x < tE B N p.1; omega
            · show p.2.length + x ≤ tE B N p.1; omega
          · exact pG_f (by decide) (by decide)
      · exact pG_f (by decide) (by decide)
theorem tOp_o : pOpk B N (tOp B N) := fun x h => by rw [tOp_k h]; decide
theorem tOs_o : pOpk B N (tOs B N) := fun x h => by rw [tOs_k h]; decide
theorem tOt_o : pOpk B N (tOt B N) := fun x h => by rw [tOt_k h]; decide
theorem tOa_o : pOpk B N (tOa B N) := fun x h => by rw [tOa_k h]; decide
theorem tOo_o : pOpk B N (tOo B N) := fun x h => by rw [tOo_k h]; decide
section RX
variable {rx : Nat → Nat → pRs}
theorem pProd_G (hr : ∀ a y, y ≤ N → pG N y (rx a y)) (a : Nat) {x : Nat} (hx : x ≤ N) : pG N x (pProd wv B N rx a x) := pM_G tOp_o (fun y hy => pPart_G hr a hy) hx
theorem pSum_G (hr : ∀ a y, y ≤ N → pG N y (rx a y)) (a : Nat) {x : Nat} (hx : x ≤ N) : pG N x (pSum wv B N rx a x) := pM_G tOs_o (fun y hy => pProd_G hr a hy) hx
theorem pTest_G (hr : ∀ a y, y ≤ N → pG N y (rx a y)) (a : Nat) {x : Nat} (hx : x ≤ N) : pG N x (pTest wv B N rx a x) := by
  unfold pTest
  refine pB_G (pSum_G hr a hx) (fun y C h1 h2 h3 => ?_)
  split
  · exact ⟨h1, h2, h3⟩
  · rename_i q
    have e1 := tE_1 (B := B) h2 (tOt_o y q)
    have e2 := (tE_le (B := B) h2).2.1
    have g := pSum_G (wv := wv) (B := B) hr a e2
    cases h : pSum wv B N rx a (tE B N y) with
    | inl p => rw [h] at g; exact g
    | inr p =>
      rw [h] at g
      obtain ⟨g1, g2, g3⟩ := g
      refine ⟨?_, g2, ?_⟩
      · show x < p.1; omega
      · show (C ++ p.2 ++ [20000 + tOt B N y]).length + x ≤ p.1
        rw [List.length_append, List.length_append, List.length_singleton]
        omega
theorem pNt_G (hr : ∀ a y, y ≤ N → pG N y (rx a y)) (a : Nat) {x0 : Nat} : ∀ f m x, m + f = 7 → x0 + m ≤ x → x ≤ N → pG N x0 (pNt wv B N rx a f m x) := by
  intro f
  induction f with
  | zero => intro m x _ _ _; exact pG_f (by decide) (by decide)
  | succ f ih =>
    intro m x h1 h2 h3
    rw [pNt]
    split
    · rename_i q
      have e1 := tE_1 (B := B) h3 (by have := tW_k q; omega)
      have e2 := (tE_le (B := B) h3).2.1
      split
      · exact pG_f (by decide) (by decide)
      · exact ih (m + 1) _ (by omega) (by omega) e2
    · have g := pTest_G (wv := wv) (B := B) hr a h3
      cases h : pTest wv B N rx a x with
      | inl p => rw [h] at g; exact g
      | inr p =>
        rw [h] at g
        obtain ⟨g1, g2, g3⟩ := g
        refine ⟨?_, g2, ?_⟩
        · show x0 < p.1; omega
        · show (p.2 ++ List.replicate m 20003).length + x0 ≤ p.1
          rw [List.length_append, List.length_replicate]
          omega
theorem pNot_G (hr : ∀ a y, y ≤ N → pG N y (rx a y)) (a : Nat) {x : Nat} (hx : x ≤ N) : pG N x (pNot wv B N rx a x) := pNt_G hr a 7 0 x rfl (by omega) hx
theorem pAnd_G (hr : ∀ a y, y ≤ N → pG N y (rx a y)) (a : Nat) {x : Nat} (hx : x ≤ N) : pG N x (pAnd wv B N rx a x) := pM_G tOa_o (fun y hy => pNot_G hr a hy) hx
theorem pOr_G (hr : ∀ a y, y ≤ N → pG N y (rx a y)) (a : Nat) {x : Nat} (hx : x ≤ N) : pG N x (pOr wv B N rx a x) := pM_G tOo_o (fun y hy => pAnd_G hr a hy) hx
theorem pExpr_G (hr : ∀ a y, y ≤ N → pG N y (rx a y)) (a : Nat) {x : Nat} (hx : x ≤ N) : pG N x (pExpr wv B N rx a x) := by
  unfold pExpr
  split
  · split
    · exact pG_f (by decide) (by decide)
    · exact pOr_G hr a hx
  · exact pG_f (by decide) (by decide)
end RX
theorem pEx_G : ∀ n a y, y ≤ N → pG N y (pEx wv B N n a y) := by
  intro n
  induction n with
  | zero => intro a y _; exact pG_f (by decide) (by decide)
  | succ n ih => intro a y hy; exact pExpr_G ih a hy
end PG
/-! ===== how deep it stacks ===== -/
/-- the depth behind a code, if it goes -/
def qDf : List Nat → Nat → Option Nat
  | [], d => some d
  | c :: C, d => if c < 10000 then (if d < 50 then qDf C (d + 1) else none) else if c < 20000 then (if c < 10005 ∧ d < 50 then qDf C (d + 1) else none) else if c = 20003 then (if 1 ≤ d then qDf C d else none) else (if c < 20010 ∧ 20000 < c ∧ 2 ≤ d then qDf C (d - 1) else none)
theorem qDf_p : ∀ C d, qDf C d = some 1 → qDp C d = true := by
  intro C
  induction C with
  | nil => intro d h; rw [qDf] at h; rw [qDp]; cases h; rfl
  | cons c C ih =>
    intro d h
    rw [qDf] at h
    rw [qDp]
    by_cases q1 : c < 10000
    · rw [if_pos q1] at h ⊢
      by_cases z : d < 50
      · rw [if_pos z] at h; rw [decide_eq_true z, Bool.true_and]; exact ih _ h
      · rw [if_neg z] at h; cases h
    · rw [if_neg q1] at h ⊢
      by_cases q2 : c < 20000
      · rw [if_pos q2] at h ⊢
        by_cases z : c < 10005 ∧ d < 50
        · rw [if_pos z] at h; rw [decide_eq_true z.1, decide_eq_true z.2, Bool.true_and, Bool.true_and]; exact ih _ h
        · rw [if_neg z] at h; cases h
      · rw [if_neg q2] at h ⊢
        by_cases q3 : c = 20003
        · rw [if_pos q3] at h ⊢
          by_cases z : 1 ≤ d
          · rw [if_pos z] at h; rw [decide_eq_true z, Bool.true_and]; exact ih _ h
          · rw [if_neg z] at h; cases h
        · rw [if_neg q3] at h ⊢
          by_cases z : c < 20010 ∧ 20000 < c ∧ 2 ≤ d
          · rw [if_pos z] at h; rw [decide_eq_true z.1, decide_eq_true z.2.1, decide_eq_true z.2.2, Bool.true_and, Bool.true_and, Bool.true_and]; exact ih _ h
          · rw [if_neg z] at h; cases h
theorem qDf_a : ∀ C D d e, qDf C d = some e → qDf (C ++ D) d = qDf D e := by
  intro C
  induction C with
  | nil => intro D d e h; rw [qDf] at h; cases h; rfl
  | cons c C ih =>
    intro D d e h
    rw [qDf] at h
    rw [List.cons_append, qDf]
    by_cases q1 : c < 10000
    · rw [if_pos q1] at h ⊢
      by_cases z : d < 50
      · rw [if_pos z] at h ⊢; exact ih _ _ _ h
      · rw [if_neg z] at h; cases h
    · rw [if_neg q1] at h ⊢
      by_cases q2 : c < 20000
      · rw [if_pos q2] at h ⊢
        by_cases z : c < 10005 ∧ d < 50
        · rw [if_pos z] at h ⊢; exact ih _ _ _ h
        · rw [if_neg z] at h; cases h
      · rw [if_neg q2] at h ⊢
        by_cases q3 : c = 20003
        · rw [if_pos q3] at h ⊢
          by_cases z : 1 ≤ d
          · rw [if_pos z] at h ⊢; exact ih _ _ _ h
          · rw [if_neg z] at h; cases h
        · rw [if_neg q3] at h ⊢
          by_cases z : c < 20010 ∧ 20000 < c ∧ 2 ≤ d
          · rw [if_pos z] at h ⊢; exact ih _ _ _ h
          · rw [if_neg z] at h; cases h
theorem qDf_op {o d : Nat} (h1 : 1 ≤ o) (h2 : o < 10) (h3 : o ≠ 3) (hd : 2 ≤ d) : qDf [20000 + o] d = some (d - 1) := by
  rw [qDf, if_neg (by omega), if_neg (by omega), if_neg (by omega), if_pos (by omega), qDf]
theorem qDf_n : ∀ m d, 1 ≤ d → qDf (List.replicate m 20003) d = some d := by
  intro m
  induction m with
  | zero => intro d _; rfl
  | succ m ih =>
    intro d hd
    rw [List.replicate_succ, qDf, if_neg (by decide), if_neg (by decide), if_pos rfl, if_pos hd]
    exact ih d hd
/-- it needs m places more -/
def pDs (m : Nat) (r : pRs) : Prop := ∀ x D, r = Sum.inr (x, D) → ∀ d, d + m ≤ 50 → qDf D d = some (d + 1)
section PD
variable {wv : Bool} {B : Nat → Nat} {N : Nat}
def pOpv (op : Nat → Nat) : Prop := ∀ x, op x ≠ 0 → 1 ≤ op x ∧ op x < 10 ∧ op x ≠ 3
theorem pDs_f {m n : Nat} {r : pRs} (h : pDs m r) (hm : m ≤ n) : pDs n r := fun x D e d hd => h x D e d (by omega)
theorem pL_D {op : Nat → Nat} {sub : Nat → pRs} {m : Nat} (ho : pOpv op) (hs : ∀ y, pDs m (sub y)) : ∀ f x C, (∀ d, d + (m + 1) ≤ 50 → qDf C d = some (d + 1)) → pDs (m + 1) (pL B N op sub f x C) := by
  intro f
  induction f with
  | zero =>
    intro x C h y D e d hd
    rw [pL] at e
    cases e
    exact h d hd
  | succ f ih =>
    intro x C h
    rw [pL]
    by_cases q : op x = 0
    · rw [if_pos q]
      intro y D e d hd
      cases e
      exact h d hd
    · rw [if_neg q]
      cases hr : sub (tE B N x) with
      | inl p => intro y D e; cases e
      | inr p =>
        rw [show pB (Sum.inr p) (fun y D => pL B N op sub f y (C ++ D ++ [20000 + op x])) = pL B N op sub f p.1 (C ++ p.2 ++ [20000 + op x]) from rfl]
        obtain ⟨o1, o2, o3⟩ := ho x q
        refine ih p.1 _ (fun d hd => ?_)
        have e1 := h d hd
        have e2 := hs (tE B N x) p.1 p.2 hr (d + 1) (by omega)
        rw [List.append_assoc, qDf_a _ _ _ _ e1, qDf_a _ _ _ _ e2, qDf_op o1 o2 o3 (by omega)]
        rfl
theorem pM_D {op : Nat → Nat} {sub : Nat → pRs} {m : Nat} (ho : pOpv op) (hs : ∀ y, pDs m (sub y)) (x : Nat) : pDs (m + 1) (pM B N op sub x) := by
  unfold pM
  cases hr : sub x with
  | inl p => intro y D e; cases e
  | inr p => exact pL_D ho hs _ p.1 p.2 (fun d hd => hs x p.1 p.2 hr d (by omega))
theorem pPart_D {rx : Nat → Nat → pRs} {a m : Nat} (hm : 1 ≤ m) (hr : ∀ y, pDs m (rx (a + 1) y)) (x : Nat) : pDs m (pPart wv B N rx a x) := by
  unfold pPart
  split
  · rename_i q
    have hv := tV_lt (B := B) q
    split
    · intro y D e; cases e
    · intro y D e d hd
      cases e
      rw [qDf, if_pos hv, if_pos (by omega), qDf]
  · split
    · have hv := pVal_le wv B N x
      split
      · intro y D e; cases e
      · rename_i q
        intro y D e d hd
        cases e
        rw [qDf, if_neg (by omega), if_pos (by omega), if_pos (by omega), qDf]
    · split
      · cases h : rx (a + 1) (tE B N x) with
        | inl p => intro y D e; cases e
        | inr p =>
          intro y D e
          have e : (if tM B N p.1 41 = true then (Sum.inr (tE B N p.1, p.2) : pRs) else Sum.inl (1, tP B N p.1)) = Sum.inr (y, D) := e
          split at e
          · cases e
            exact hr _ p.1 p.2 h
          · cases e
      · intro y D e; cases e
theorem tOp_v : pOpv (tOp B N) := by
  intro x h
  unfold tOp at h ⊢
  split
  · omega
  · split
    · omega
    · rename_i q1 q2; rw [if_neg q1, if_neg q2] at h; exact absurd rfl h
theorem tOs_v : pOpv (tOs B N) := by
  intro x h
  unfold tOs at h ⊢
  split
  · omega
  · split
    · omega
    · rename_i q1 q2; rw [if_neg q1, if_neg q2] at h; exact absurd rfl h
theorem tOt_v : pOpv (tOt B N) := by
  intro x h
  unfold tOt at h ⊢
  split
  · omega
  · split
    · omega
    · rename_i q1 q2; rw [if_neg q1, if_neg q2] at h; exact absurd rfl h
theorem tOa_v : pOpv (tOa B N) := by
  intro x h
  unfold tOa at h ⊢
  split
  · omega
  · rename_i q1; rw [if_neg q1] at h; exact absurd rfl h
theorem tOo_v : pOpv (tOo B N) := by
  intro x h
  unfold tOo at h ⊢
  split
  · omega
  · rename_i q1; rw [if_neg q1] at h; exact absurd rfl h
section RX
variable {rx : Nat → Nat → pRs} {a m : Nat}
theorem pSum_D (hm : 1 ≤ m) (hr : ∀ y, pDs m (rx (a + 1) y)) (x : Nat) : pDs (m + 2) (pSum wv B N rx a x) := pM_D tOs_v (fun y => pM_D tOp_v (fun y => pPart_D hm hr y) y) x
theorem pTest_D (hm : 1 ≤ m) (hr : ∀ y, pDs m (rx (a + 1) y)) (x : Nat) : pDs (m + 3) (pTest wv B N rx a x) := by
  unfold pTest
  cases h : pSum wv B N rx a x with
  | inl p => intro y D e; cases e
  | inr p =>
    intro y D e
    have e : (if tOt B N p.1 = 0 then (Sum.inr (p.1, p.2) : pRs) else pB (pSum wv B N rx a (tE B N p.1)) (fun z D => Sum.inr (z, p.2 ++ D ++ [20000 + tOt B N p.1]))) = Sum.inr (y, D) := e
    have s1 := pSum_D (wv := wv) (B := B) (N := N) hm hr x p.1 p.2 h
    split at e
    · cases e
      intro d hd
      exact s1 d (by omega)
    · rename_i q
      cases h2 : pSum wv B N rx a (tE B N p.1) with
      | inl p2 => rw [h2] at e; cases e
      | inr p2 =>
        rw [h2] at e
        cases e
        intro d hd
        obtain ⟨o1, o2, o3⟩ := tOt_v p.1 q
        have s2 := pSum_D (wv := wv) (B := B) (N := N) hm hr (tE B N p.1) p2.1 p2.2 h2 (d + 1) (by omega)
        rw [List.append_assoc, qDf_a _ _ _ _ (s1 d (by omega)), qDf_a _ _ _ _ s2, qDf_op o1 o2 o3 (by omega)]
        rfl
theorem pNt_D (hm : 1 ≤ m) (hr : ∀ y, pDs m (rx (a + 1) y)) : ∀ f k x, pDs (m + 3) (pNt wv B N rx a f k x) := by
  intro f
  induction f with
  | zero => intro k x y D e; cases e
  | succ f ih =>
    intro k x
    rw [pNt]
    split
    · split
      · intro y D e; cases e
      · exact ih _ _
    · cases h : pTest wv B N rx a x with
      | inl p => intro y D e; cases e
      | inr p =>
        intro y D e d hd
        cases e
        have s1 := pTest_D (wv := wv) (B := B) (N := N) hm hr x p.1 p.2 h d hd
        show qDf (p.2 ++ List.replicate k 20003) d = _
        rw [qDf_a _ _ _ _ s1, qDf_n k _ (by omega)]
theorem pOr_D (hm : 1 ≤ m) (hr : ∀ y, pDs m (rx (a + 1) y)) (x : Nat) : pDs (m + 5) (pOr wv B N rx a x) := pM_D tOo_v (fun y => pM_D tOa_v (fun y => pNt_D hm hr 7 0 y) y) x
end RX
theorem pEx_D : ∀ n a y, a ≤ 6 → pDs (1 + 5 * (6 - a)) (pEx wv B N n a y) := by
  intro n
  induction n with
  | zero => intro a y _ x D e; cases e
  | succ n ih =>
    intro a y ha
    show pDs (1 + 5 * (6 - a)) (pExpr wv B N (pEx wv B N n) a y)
    unfold pExpr
    split
    · split
      · intro x D e; cases e
      · rename_i q
        have := pOr_D (wv := wv) (B := B) (N := N) (rx := pEx wv B N n) (a := a) (m := 1 + 5 * (6 - (a + 1))) (by omega) (fun y => ih (a + 1) y (by omega)) y
        exact pDs_f this (by omega)
    · intro x D e; cases e
theorem pEx_ok {n x y : Nat} {D : List Nat} (hN : N ≤ 700) (hx : x ≤ N) (e : pEx wv B N n 0 x = Sum.inr (y, D)) : D ≠ [] ∧ qOk D := by
  have h1 := pEx_D (wv := wv) (B := B) (N := N) n 0 x (by omega) y D e 0 (by omega)
  have h2 := pEx_G (wv := wv) (B := B) (N := N) n 0 x hx
  rw [e] at h2
  obtain ⟨g1, g2, g3⟩ := h2
  have g3 : D.length + x ≤ y := g3
  have g2 : y ≤ N := g2
  refine ⟨fun n => ?_, Or.inr ⟨qDf_p D 0 h1, by omega⟩⟩
  rw [n, qDf] at h1
  cases h1
end PD
