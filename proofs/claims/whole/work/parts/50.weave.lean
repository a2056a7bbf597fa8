/-! ===== a clan weaves ===== -/
/-- the rib right before a clan -/
def qPl (R : Nat) (S : Nat → Nat) (c : Nat) : Nat := if c = 0 then S 32 else R - 1 - S 33
/-- a clan goes past it -/
def qGp (R : Nat) (S : Nat → Nat) (c : Nat) : Nat → Nat := zu (zu S 34 (S 34 ||| (if S (qPl R S c) = 0 then 2 ^ qPl R S c else 0))) (32 + c) (S (32 + c) + 1)
/-- between w and w + k: how many aren't gone, the first one, the last one -/
def qF3 (S : Nat → Nat) (w : Nat) : Nat → Nat × Nat × Nat
  | 0 => (0, 0, 0)
  | k + 1 => if S (w + k) = 0 then qF3 S w k else ((qF3 S w k).1 + 1, if (qF3 S w k).1 = 0 then w + k else (qF3 S w k).2.1, w + k)
/-- what both have still before them -/
def qBt (R : Nat) (S : Nat → Nat) : Nat × Nat × Nat := qF3 S (S 32) (R - S 33 - S 32)
def qVw (S : Nat → Nat) (c r l : Nat) (k : Nat) : Int32 := if k = 0 then nI (S r) else if k = 1 then nI r else if k = 2 then nI (S 35) else if k = 3 then nI (S (30 + c)) else nI l
/-- what WEAVES gives at a rib -/
def qWa (P : zPl) (S : Nat → Nat) (c r l : Nat) : Nat := if pD P = [] then 1 + S (30 + c) / 4 else qCl 5 (qVal (qVw S c r l) (pD P))
def qPace (P : zPl) (S : Nat → Nat) (c : Nat) : Nat := if (qBt (pR P) S).1 = 0 then 0 else qWa P S c (if c = 0 then (qBt (pR P) S).2.1 else (qBt (pR P) S).2.2) (qBt (pR P) S).1
def qSk (R c : Nat) : Nat → (Nat → Nat) → (Nat → Nat)
  | 0, S => S
  | n + 1, S => if S 32 + S 33 < R ∧ S (qPl R S c) = 0 then qSk R c n (qGp R S c) else S
def qLp (R c : Nat) : Nat → Nat → (Nat → Nat) → (Nat → Nat)
  | 0, _, S => S
  | n + 1, t, S => if 0 < t ∧ S 32 + S 33 < R then qLp R c n (t - (if S (qPl R S c) = 0 then 0 else 1)) (qGp R S c) else S
def qWv (P : zPl) (S : Nat → Nat) (c : Nat) : Nat → Nat := qLp (pR P) c (pR P) (qPace P S c) (qSk (pR P) c (pR P) S)
theorem qPl_lt {R : Nat} {S : Nat → Nat} (c : Nat) (h : S 32 + S 33 < R) : qPl R S c < R := by
  unfold qPl
  split <;> omega
theorem qF3_in (S : Nat → Nat) (w : Nat) : ∀ k, (qF3 S w k).1 ≤ k ∧ ((qF3 S w k).1 ≠ 0 → w ≤ (qF3 S w k).2.1 ∧ (qF3 S w k).2.1 < w + k ∧ w ≤ (qF3 S w k).2.2 ∧ (qF3 S w k).2.2 < w + k) := by
  intro k
  induction k with
  | zero => exact ⟨Nat.le_refl 0, fun n => absurd rfl n⟩
  | succ k ih =>
    rw [qF3]
    split
    · refine ⟨by omega, fun n => ?_⟩
      have := ih.2 n
      omega
    · refine ⟨by dsimp only; omega, fun _ => ?_⟩
      try dsimp only
      split
      · omega
      · rename_i q
        have := ih.2 q
        omega
theorem qWa_le (P : zPl) {S : Nat → Nat} {c : Nat} (r l : Nat) (h : S (30 + c) ≤ 9) : qWa P S c r l ≤ 5 := by
  unfold qWa
  split
  · omega
  · exact qCl_le _ _
theorem sOk_sk {R : Nat} {S : Nat → Nat} (h : sOk R S) {c : Nat} (hc : c < 2) : S (30 + c) ≤ 9 := by
  have e : c = 0 ∨ c = 1 := by omega
  rcases e with e | e <;> subst e
  · exact h.2.1
  · exact h.2.2.1
theorem qPace_le (P : zPl) {S : Nat → Nat} {c : Nat} (hc : c < 2) (h : sOk (pR P) S) : qPace P S c ≤ 5 := by
  unfold qPace
  split
  · omega
  · exact qWa_le P _ _ (sOk_sk h hc)
theorem q_or2 {a r R : Nat} (ha : a < 2 ^ R) (hr : r < R) (b : Prop) [Decidable b] : a ||| (if b then 2 ^ r else 0) < 2 ^ R := by
  refine Nat.or_lt_two_pow ha ?_
  split
  · exact Nat.pow_lt_pow_right (by omega) hr
  · exact Nat.two_pow_pos R
theorem qGp_at {R : Nat} {S : Nat → Nat} {c : Nat} (hc : c < 2) : (∀ j, j ≠ 34 → j ≠ 32 + c → qGp R S c j = S j) ∧ qGp R S c (32 + c) = S (32 + c) + 1 ∧ qGp R S c 34 = S 34 ||| (if S (qPl R S c) = 0 then 2 ^ qPl R S c else 0) := by
  refine ⟨fun j h1 h2 => ?_, ?_, ?_⟩
  · rw [qGp, zu_ne _ _ h2, zu_ne _ _ h1]
  · rw [qGp, zu_eq]
  · rw [qGp, zu_ne _ _ (by omega), zu_eq]
theorem qGp_sum {R : Nat} {S : Nat → Nat} {c : Nat} (hc : c < 2) : qGp R S c 32 + qGp R S c 33 = S 32 + S 33 + 1 := by
  have g := qGp_at (R := R) (S := S) hc
  have e : c = 0 ∨ c = 1 := by omega
  rcases e with e | e <;> subst e
  · have e1 : qGp R S 0 32 = S 32 + 1 := g.2.1
    rw [e1, g.1 33 (by omega) (by omega)]; omega
  · have e1 : qGp R S 1 33 = S 33 + 1 := g.2.1
    rw [e1, g.1 32 (by omega) (by omega)]; omega
theorem qGp_ok {R : Nat} {S : Nat → Nat} (hR : R ≤ 12) {c : Nat} (hc : c < 2) (h : sOk R S) (n : S 32 + S 33 < R) : sOk R (qGp R S c) := by
  obtain ⟨o0, o1, o2, o3, o4, o5⟩ := h
  have g := qGp_at (R := R) (S := S) hc
  refine ⟨fun r hr => ?_, ?_, ?_, ?_, ?_, ?_⟩
  · rw [g.1 r (by omega) (by omega)]; exact o0 r hr
  · rw [g.1 30 (by omega) (by omega)]; exact o1
  · rw [g.1 31 (by omega) (by omega)]; exact o2
  · rw [qGp_sum hc]; omega
  · rw [g.2.2]; exact q_or2 o4 (qPl_lt c n) _
  · rw [g.1 37 (by omega) (by omega)]; exact o5
theorem qSk_ok {R : Nat} (hR : R ≤ 12) {c : Nat} (hc : c < 2) : ∀ n S, sOk R S → sOk R (qSk R c n S) := by
  intro n
  induction n with
  | zero => intro S h; exact h
  | succ n ih =>
    intro S h
    rw [qSk]
    split
    · rename_i q
      exact ih _ (qGp_ok hR hc h q.1)
    · exact h
theorem qLp_ok {R : Nat} (hR : R ≤ 12) {c : Nat} (hc : c < 2) : ∀ n t S, sOk R S → sOk R (qLp R c n t S) := by
  intro n
  induction n with
  | zero => intro t S h; exact h
  | succ n ih =>
    intro t S h
    rw [qLp]
    split
    · rename_i q
      exact ih _ _ (qGp_ok hR hc h q.2)
    · exact h
theorem qWv_ok {P : zPl} (hP : pOk P) {c : Nat} (hc : c < 2) {S : Nat → Nat} (h : sOk (pR P) S) : sOk (pR P) (qWv P S c) := qLp_ok hP.1 hc _ _ _ (qSk_ok hP.1 hc _ _ h)
section WV
variable {h : zH} {p a : Nat} {S : Nat → Nat} {P : zPl} {c : Nat}
theorem k_any (hP : pOk P) (w : zPC h p P) (s : zSC h a (pR P) S) (ho : sOk (pR P) S) : s_X9_someBetween p a h = some (nI (if S 32 + S 33 < pR P then 1 else 0)) := by
  have hR := hP.1
  obtain ⟨o0, o1, o2, o3, o4, o5⟩ := ho
  rw [s_X9_someBetween, w.1, s.2.2.2.1, s.2.2.2.2.1, nI_add]
  rcases Nat.lt_or_ge (S 32 + S 33) (pR P) with q | q
  · rw [if_neg (nI_ge q (by omega)), if_pos q]; rfl
  · rw [if_pos (nI_le q (by omega)), if_neg (by omega)]; rfl
theorem k_place (hP : pOk P) (w : zPC h p P) (s : zSC h a (pR P) S) (ho : sOk (pR P) S) (hc : c < 2) (n : S 32 + S 33 < pR P) : s_X9_placeOf p a (nI c) h = some (nI (qPl (pR P) S c)) := by
  have hR := hP.1
  rw [s_X9_placeOf, w.1, s.2.2.2.1, s.2.2.2.2.1, qPl]
  have e : c = 0 ∨ c = 1 := by omega
  rcases e with e | e <;> subst e
  · rfl
  · rw [if_pos (by decide), if_neg (by decide), show nI (pR P) - 1 = nI (pR P - 1) from zq_sub (b := 1) (by omega), zq_sub (by omega)]
theorem k_gn (hP : pOk P) (w : zPC h p P) (s : zSC h a (pR P) S) (ho : sOk (pR P) S) (hc : c < 2) (n : S 32 + S 33 < pR P) : s_X9_isGone p a (nI c) h = some (nI (if S (qPl (pR P) S c) = 0 then 1 else 0)) := by
  have hR := hP.1
  have hl := qPl_lt c n
  have b := ho.1 _ hl
  rw [s_X9_isGone, k_place hP w s ho hc n]
  dsimp only [Option.bind]
  rw [zq_ix (by omega) (by omega), s.1 _ hl]
  by_cases q : S (qPl (pR P) S c) = 0
  · rw [if_pos q, q]; rfl
  · rw [if_neg q, if_pos (show ¬ nI (S (qPl (pR P) S c)) = 0 from nI_ne0 (by omega) (by omega))]; rfl
theorem k_gp (hP : pOk P) (w : zPC h p P) (s : zSC h a (pR P) S) (ho : sOk (pR P) S) (hc : c < 2) (n : S 32 + S 33 < pR P) : ∃ h', s_X9_goPast p a (nI c) h = some h' ∧ zSC h' a (pR P) (qGp (pR P) S c) ∧ zfr (fun b _ => a ≤ b ∧ b ≤ a + 5) h h' := by
  have hR := hP.1
  have hl := qPl_lt c n
  have b := ho.1 _ hl
  have b5 := ho.2.2.2.2.2
  rw [s_X9_goPast, k_place hP w s ho hc n]
  dsimp only [Option.bind]
  rw [zq_ix (by omega) (by omega), s.1 _ hl, s.2.2.2.2.2.1]
  have key : ∀ m : Nat, m = (if S (qPl (pR P) S c) = 0 then 2 ^ qPl (pR P) S c else 0) → ∃ h', s_X9_goPast_J19 p a (nI c) (nI (S 34)) (nI m) h = some h' ∧ zSC h' a (pR P) (qGp (pR P) S c) ∧ zfr (fun b _ => a ≤ b ∧ b ≤ a + 5) h h' := by
    intro m hm
    rw [s_X9_goPast_J19, fa_or]
    dsimp only [zlt]
    rw [zq_ix (by omega) (by omega), zq_ix (by omega) (by omega)]
    have f1 : zfr (fun b _ => a ≤ b ∧ b ≤ a + 5) h (zwI h a 5 (nI (S 34 ||| m))) := zfr.wI a 5 _ ⟨by omega, by omega⟩
    have s1 := zSC_gap hR b5 s (S 34 ||| m)
    refine ⟨_, rfl, ?_, f1.w (a + 3) c _ ⟨by omega, by omega⟩⟩
    have k37 : zu S 34 (S 34 ||| m) 37 ≤ 9 := by rw [zu_ne _ _ (by omega)]; exact b5
    have e : c = 0 ∨ c = 1 := by omega
    rcases e with e | e <;> subst e
    · rw [s1.2.2.2.1, zu_ne _ _ (show 32 ≠ 34 by omega), show nI (S 32) + 1 = nI (S 32 + 1) from nI_1 _]
      have := zSC_pa0 hR k37 s1 (S 32 + 1)
      rw [qGp, ← hm]
      exact this
    · rw [s1.2.2.2.2.1, zu_ne _ _ (show 33 ≠ 34 by omega), show nI (S 33) + 1 = nI (S 33 + 1) from nI_1 _]
      have := zSC_pa1 hR k37 s1 (S 33 + 1)
      rw [qGp, ← hm]
      exact this
  by_cases q : S (qPl (pR P) S c) = 0
  · rw [q, if_neg (fun n => n rfl)]
    have e : (1 : Int32) <<< (nI (qPl (pR P) S c) &&& 31) = nI (2 ^ qPl (pR P) S c) := zq_shl (by omega)
    rw [e]
    exact key _ (by rw [if_pos q])
  · rw [if_pos (show ¬ nI (S (qPl (pR P) S c)) = 0 from nI_ne0 (by omega) (by omega))]
    exact key 0 (by rw [if_neg q])
theorem k_lp (ha : a = 19 ∨ a = 30) (hp : p = 2 ∨ p = 9) (hP : pOk P) (hc : c < 2) : ∀ k i t n h S, i + k = pR P → k < n → t ≤ 5 → zPC h p P → zSC h a (pR P) S → sOk (pR P) S → (pR P) ≤ S 32 + S 33 + k → ∃ h', s_X9_weave_L32 p a n (nI c) (nI t) (nI i) h = some h' ∧ zSC h' a (pR P) (qLp (pR P) c k t S) ∧ zfr (fun b _ => a ≤ b ∧ b ≤ a + 5) h h' := by
  have hR := hP.1
  intro k
  induction k with
  | zero =>
    intro i t n h S e hn ht w s ho hk
    obtain ⟨m, rfl, -⟩ := zq_suc hn
    refine ⟨h, ?_, s, zfr.rf _ h⟩
    rw [s_X9_weave_L32, w.1, if_pos (nI_le (by omega) (by omega))]
  | succ k ih =>
    intro i t n h S e hn ht w s ho hk
    obtain ⟨m, rfl, hm⟩ := zq_suc hn
    rw [s_X9_weave_L32, w.1, if_neg (nI_ge (by omega) (by omega)), qLp]
    rcases Nat.eq_zero_or_pos t with q | q
    · subst q
      rw [if_pos (by decide), if_neg (fun n => absurd n.1 (Nat.lt_irrefl 0))]
      exact ⟨h, rfl, s, zfr.rf _ h⟩
    · rw [if_neg (nI_nle q (by omega)), k_any hP w s ho]
      dsimp only [Option.bind]
      by_cases q2 : S 32 + S 33 < pR P
      · rw [if_pos q2, if_neg (by decide), if_pos ⟨q, q2⟩, k_gn hP w s ho hc q2]
        try dsimp only
        obtain ⟨h1, e1, s1, f1⟩ := k_gp hP w s ho hc q2
        have w1 : zPC h1 p P := w.fr f1 (fun b k _ _ => by omega)
        have o1 := qGp_ok hR hc ho q2
        have key : ∀ u : Nat, u ≤ 1 → ∃ h', s_X9_weave_J53 p a (s_X9_weave_L32 p a m) (nI c) (nI i) (nI t) (nI u) h = some h' ∧ zSC h' a (pR P) (qLp (pR P) c k (t - u) (qGp (pR P) S c)) ∧ zfr (fun b _ => a ≤ b ∧ b ≤ a + 5) h h' := by
          intro u hu
          rw [s_X9_weave_J53, e1]
          dsimp only [Option.bind]
          rw [zq_sub (by omega), show nI i + 1 = nI (i + 1) from nI_1 i]
          obtain ⟨h2, e2, s2, f2⟩ := ih (i + 1) (t - u) m h1 _ (by omega) (by omega) (by omega) w1 s1 o1 (by rw [qGp_sum hc]; omega)
          exact ⟨h2, e2, s2, f1.tr f2⟩
        by_cases q3 : S (qPl (pR P) S c) = 0
        · rw [if_pos q3, if_pos q3, if_neg (by decide)]
          exact key 0 (by omega)
        · rw [if_neg q3, if_neg q3, if_pos (by decide)]
          exact key 1 (by omega)
      · rw [if_neg q2, if_pos (by decide), if_neg (fun n => q2 n.2)]
        exact ⟨h, rfl, s, zfr.rf _ h⟩
theorem k_sk (ha : a = 19 ∨ a = 30) (hp : p = 2 ∨ p = 9) (hP : pOk P) (hc : c < 2) : ∀ k i t n h S, i + k = pR P → k < n → t ≤ 5 → zPC h p P → zSC h a (pR P) S → sOk (pR P) S → (pR P) ≤ S 32 + S 33 + k → ∃ h', s_X9_weave_L8 p a n (nI c) (nI t) (nI i) h = some h' ∧ zSC h' a (pR P) (qLp (pR P) c (pR P) t (qSk (pR P) c k S)) ∧ zfr (fun b _ => a ≤ b ∧ b ≤ a + 5) h h' := by
  have hR := hP.1
  intro k
  induction k with
  | zero =>
    intro i t n h S e hn ht w s ho hk
    obtain ⟨m, rfl, -⟩ := zq_suc hn
    rw [s_X9_weave_L8, w.1, if_pos (nI_le (by omega) (by omega))]
    exact k_lp ha hp hP hc (pR P) 0 t zfu h S (by omega) (zq_fu (by omega)) ht w s ho (by omega)
  | succ k ih =>
    intro i t n h S e hn ht w s ho hk
    obtain ⟨m, rfl, hm⟩ := zq_suc hn
    rw [s_X9_weave_L8, w.1, if_neg (nI_ge (by omega) (by omega)), qSk, k_any hP w s ho]
    dsimp only [Option.bind]
    have out : ∃ h', s_X9_weave_L32 p a zfu (nI c) (nI t) (nI 0) h = some h' ∧ zSC h' a (pR P) (qLp (pR P) c (pR P) t S) ∧ zfr (fun b _ => a ≤ b ∧ b ≤ a + 5) h h' := k_lp ha hp hP hc (pR P) 0 t zfu h S (by omega) (zq_fu (by omega)) ht w s ho (by omega)
    by_cases q2 : S 32 + S 33 < pR P
    · rw [if_pos q2, if_neg (by decide), k_gn hP w s ho hc q2]
      try dsimp only
      by_cases q3 : S (qPl (pR P) S c) = 0
      · rw [if_pos q3, if_neg (by decide), if_pos ⟨q2, q3⟩]
        obtain ⟨h1, e1, s1, f1⟩ := k_gp hP w s ho hc q2
        have w1 : zPC h1 p P := w.fr f1 (fun b k _ _ => by omega)
        have o1 := qGp_ok hR hc ho q2
        rw [e1]
        try dsimp only
        rw [show nI i + 1 = nI (i + 1) from nI_1 i]
        obtain ⟨h2, e2, s2, f2⟩ := ih (i + 1) t m h1 _ (by omega) (by omega) (by omega) w1 s1 o1 (by rw [qGp_sum hc]; omega)
        exact ⟨h2, e2, s2, f1.tr f2⟩
      · rw [if_neg q3, if_pos (by decide), if_neg (fun n => q3 n.2)]
        exact out
    · rw [if_neg q2, if_pos (by decide), if_neg (fun n => q2 n.1)]
      exact out
end WV
