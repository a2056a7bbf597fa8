/-! ===== an order of verses: numbers ===== -/
def qMn (f : Nat → Nat) (p : Nat → Bool) : Nat → Nat
  | 0 => 1000
  | o + 1 => if p o = true then (if f o < qMn f p o then f o else qMn f p o) else qMn f p o
theorem qMn_cg {f g : Nat → Nat} {p : Nat → Bool} : ∀ n, (∀ o, o < n → p o = true → f o = g o) → qMn f p n = qMn g p n := by
  intro n
  induction n with
  | zero => intro _; rfl
  | succ n ih =>
    intro h
    rw [qMn, qMn, ih (fun o ho => h o (by omega))]
    by_cases q : p n = true
    · rw [if_pos q, if_pos q, h n (by omega) q]
    · rw [if_neg q, if_neg q]
theorem qMn_le {f : Nat → Nat} {p : Nat → Bool} : ∀ n o, o < n → p o = true → qMn f p n ≤ f o := by
  intro n
  induction n with
  | zero => intro o ho; omega
  | succ n ih =>
    intro o ho hp
    rw [qMn]
    by_cases e : o = n
    · subst e
      rw [if_pos hp]
      split <;> omega
    · have := ih o (by omega) hp
      split
      · split <;> omega
      · exact this
theorem qMn_b {f : Nat → Nat} {p : Nat → Bool} : ∀ n, qMn f p n ≤ 1000 := by
  intro n
  induction n with
  | zero => exact Nat.le_refl _
  | succ n ih =>
    rw [qMn]
    split
    · split <;> omega
    · exact ih
theorem qMn_at {f : Nat → Nat} {p : Nat → Bool} : ∀ n, qMn f p n < 1000 → ∃ o, o < n ∧ p o = true ∧ f o = qMn f p n := by
  intro n
  induction n with
  | zero => intro h; rw [qMn] at h; omega
  | succ n ih =>
    intro h
    rw [qMn] at h ⊢
    by_cases q : p n = true
    · rw [if_pos q] at h ⊢
      by_cases q2 : f n < qMn f p n
      · rw [if_pos q2] at h ⊢
        exact ⟨n, by omega, q, rfl⟩
      · rw [if_neg q2] at h ⊢
        obtain ⟨o, o1, o2, o3⟩ := ih h
        exact ⟨o, by omega, o2, o3⟩
    · rw [if_neg q] at h ⊢
      obtain ⟨o, o1, o2, o3⟩ := ih h
      exact ⟨o, by omega, o2, o3⟩
/-- what it costs at least to go on from v, with s had: fuel first -/
def qE2 (V : Nat) (t : Nat → Nat → Nat) : Nat → Nat → Nat → Nat
  | 0, _, _ => 0
  | n + 1, v, s => if s = 2 ^ V - 1 then 0 else qMn (fun o => t v o + qE2 V t n o (s ||| 2 ^ o)) (fun o => !s.testBit o) V
def qD (V : Nat) (t : Nat → Nat → Nat) (v s : Nat) : Nat := qE2 V t 300 v s
theorem q_sor {s o : Nat} (h : s.testBit o = false) : s < s ||| 2 ^ o := by
  have h1 : s ≤ s ||| 2 ^ o := Nat.left_le_or
  rcases Nat.lt_or_ge s (s ||| 2 ^ o) with e | e
  · exact e
  · have e2 : s ||| 2 ^ o = s := Nat.le_antisymm e h1
    have := fb_bit_set s o o
    rw [e2, h] at this
    simp at this
theorem q_sol {V s o : Nat} (hs : s < 2 ^ V) (ho : o < V) : s ||| 2 ^ o < 2 ^ V := Nat.or_lt_two_pow hs (Nat.pow_lt_pow_right (by omega) ho)
theorem q_nt {b : Bool} (h : (!b) = true) : b = false := by cases b <;> simp_all
theorem qE2_f {V : Nat} {t : Nat → Nat → Nat} : ∀ n m v s, s < 2 ^ V → 2 ^ V - 1 - s < n → 2 ^ V - 1 - s < m → qE2 V t n v s = qE2 V t m v s := by
  intro n
  induction n with
  | zero => intro m v s _ h; omega
  | succ n ih =>
    intro m v s hs h1 h2
    obtain ⟨m, rfl, -⟩ := zq_suc h2
    rw [qE2, qE2]
    by_cases q : s = 2 ^ V - 1
    · rw [if_pos q, if_pos q]
    · rw [if_neg q, if_neg q]
      apply qMn_cg
      intro o ho hp
      have g1 := q_sor (q_nt hp)
      have g2 := q_sol hs ho
      rw [ih m o (s ||| 2 ^ o) g2 (by omega) (by omega)]
theorem q_v8 {V : Nat} (h : V ≤ 8) : 2 ^ V ≤ 256 := Nat.pow_le_pow_right (n := 2) (by omega) h
theorem qD_eq {V : Nat} {t : Nat → Nat → Nat} (hV : V ≤ 8) {v s : Nat} (hs : s < 2 ^ V) : qD V t v s = if s = 2 ^ V - 1 then 0 else qMn (fun o => t v o + qD V t o (s ||| 2 ^ o)) (fun o => !s.testBit o) V := by
  have h8 := q_v8 hV
  unfold qD
  rw [show (300 : Nat) = 299 + 1 from rfl, qE2]
  by_cases q : s = 2 ^ V - 1
  · rw [if_pos q, if_pos q]
  · rw [if_neg q, if_neg q]
    apply qMn_cg
    intro o ho hp
    have g1 := q_sor (q_nt hp)
    have g2 := q_sol hs ho
    rw [qE2_f 299 (299 + 1) o (s ||| 2 ^ o) g2 (by omega) (by omega)]
def qCt (s V : Nat) : Nat := fb_ct (fun i => s.testBit i) V
theorem qCt_s {V s o : Nat} (ho : o < V) (h : s.testBit o = false) : qCt (s ||| 2 ^ o) V = qCt s V + 1 := by
  have e := fb_ct_upd (fun i => s.testBit i) true ho
  have e2 : fb_ct (fun k => if k = o then true else s.testBit k) V = qCt (s ||| 2 ^ o) V := by
    apply fb_ct_cong
    intro k _
    rw [fb_bit_set]
    by_cases q : k = o
    · rw [if_pos q, decide_eq_true q, Bool.or_true]
    · rw [if_neg q, decide_eq_false q, Bool.or_false]
  rw [e2, h, if_neg (by decide), if_pos rfl] at e
  unfold qCt at e ⊢
  omega
theorem qCt_all {V s : Nat} (hs : s < 2 ^ V) (h : qCt s V = V) : s = 2 ^ V - 1 := by
  have h1 := (fb_ct_all (p := fun i => s.testBit i) (n := V)).mp h
  apply Nat.eq_of_testBit_eq
  intro i
  rw [Nat.testBit_two_pow_sub_one]
  by_cases q : i < V
  · rw [h1 i q, decide_eq_true q]
  · rw [decide_eq_false q]
    exact Nat.testBit_lt_two_pow (Nat.lt_of_lt_of_le hs (Nat.pow_le_pow_right (by omega) (by omega)))
theorem qCt_no {V s : Nat} (h : qCt s V < V) : ∃ o, o < V ∧ s.testBit o = false := by
  by_cases q : ∃ o, o < V ∧ s.testBit o = false
  · exact q
  · exfalso
    have : qCt s V = V := (fb_ct_all (p := fun i => s.testBit i) (n := V)).mpr (fun k hk => by
      cases hq : s.testBit k with
      | true => rfl
      | false => exact absurd ⟨k, hk, hq⟩ q)
    omega
theorem qCt_ne {V s : Nat} (h : qCt s V < V) : s ≠ 2 ^ V - 1 := by
  intro e
  obtain ⟨o, o1, o2⟩ := qCt_no h
  rw [e, Nat.testBit_two_pow_sub_one, decide_eq_true o1] at o2
  cases o2
theorem qD_le {V : Nat} {t : Nat → Nat → Nat} (hV : V ≤ 8) (ht : ∀ v o, t v o ≤ 12) : ∀ k v s, s < 2 ^ V → qCt s V + k = V → qD V t v s ≤ 12 * k := by
  intro k
  induction k with
  | zero =>
    intro v s hs hc
    rw [qD_eq hV hs, if_pos (qCt_all hs (by omega))]
    omega
  | succ k ih =>
    intro v s hs hc
    obtain ⟨o, o1, o2⟩ := qCt_no (V := V) (s := s) (by omega)
    rw [qD_eq hV hs, if_neg (qCt_ne (by omega))]
    have h1 := qMn_le (f := fun o => t v o + qD V t o (s ||| 2 ^ o)) (p := fun o => !s.testBit o) V o o1 (by rw [o2]; rfl)
    have h2 := ih o (s ||| 2 ^ o) (q_sol hs o1) (by rw [qCt_s o1 o2]; omega)
    have h3 := ht v o
    refine Nat.le_trans h1 ?_
    show t v o + qD V t o (s ||| 2 ^ o) ≤ 12 * (k + 1)
    omega
/-- which one is next -/
def qNp (V : Nat) (t : Nat → Nat → Nat) (v s o : Nat) : Bool := !s.testBit o && decide (t v o + qD V t o (s ||| 2 ^ o) = qD V t v s)
def qNx (V : Nat) (t : Nat → Nat → Nat) (v s : Nat) : Nat := fa_first (qNp V t v s) V
theorem fa_first_eq {p : Nat → Bool} {x N : Nat} (h : p x = true) (hn : ∀ o, o < x → p o = false) (hx : x < N) : fa_first p N = x := by
  have h1 : fa_first p N < N := by
    rcases Nat.lt_or_ge (fa_first p N) N with e | e
    · exact e
    · have := fa_first_no p N x (by omega)
      rw [h] at this; cases this
  have h2 := fa_first_yes p N h1
  rcases Nat.lt_trichotomy (fa_first p N) x with e | e | e
  · rw [hn _ e] at h2; cases h2
  · exact e
  · have := fa_first_no p N x e
    rw [h] at this; cases this
theorem qNx_in {V : Nat} {t : Nat → Nat → Nat} (hV : V ≤ 8) (ht : ∀ v o, t v o ≤ 12) {v s : Nat} (hs : s < 2 ^ V) (hc : qCt s V < V) : qNx V t v s < V ∧ s.testBit (qNx V t v s) = false ∧ t v (qNx V t v s) + qD V t (qNx V t v s) (s ||| 2 ^ qNx V t v s) = qD V t v s := by
  have b := qD_le hV ht (V - qCt s V) v s hs (by omega)
  have e := qD_eq (t := t) (v := v) hV hs
  rw [if_neg (qCt_ne hc)] at e
  obtain ⟨o, o1, o2, o3⟩ := qMn_at (f := fun o => t v o + qD V t o (s ||| 2 ^ o)) (p := fun o => !s.testBit o) V (by rw [← e]; omega)
  rw [← e] at o3
  have hp : qNp V t v s o = true := by
    unfold qNp
    rw [Bool.and_eq_true, decide_eq_true_eq]
    exact ⟨o2, o3⟩
  have h1 : qNx V t v s < V := by
    rcases Nat.lt_or_ge (qNx V t v s) V with x | x
    · exact x
    · have := fa_first_no (qNp V t v s) V o (by unfold qNx at x; omega)
      rw [hp] at this; cases this
  have h2 : qNp V t v s (qNx V t v s) = true := fa_first_yes (qNp V t v s) V h1
  unfold qNp at h2
  rw [Bool.and_eq_true, decide_eq_true_eq] at h2
  exact ⟨h1, q_nt h2.1, h2.2⟩
def qSt2 (V : Nat) (t : Nat → Nat → Nat) (x : Nat × Nat) : Nat × Nat := (qNx V t x.1 x.2, x.2 ||| 2 ^ qNx V t x.1 x.2)
def qSq (V : Nat) (t : Nat → Nat → Nat) : Nat → Nat × Nat → Nat × Nat
  | 0, x => x
  | j + 1, x => qSq V t j (qSt2 V t x)
theorem qSq_s (V : Nat) (t : Nat → Nat → Nat) : ∀ j x, qSq V t (j + 1) x = qSt2 V t (qSq V t j x) := by
  intro j
  induction j with
  | zero => intro x; rw [qSq, qSq, qSq]
  | succ j ih =>
    intro x
    rw [qSq, ih, ← qSq]
theorem qSq_in {V : Nat} {t : Nat → Nat → Nat} (hV : V ≤ 8) (ht : ∀ v o, t v o ≤ 12) : ∀ j x, x.1 < V → x.2 < 2 ^ V → x.2.testBit 0 = true → qCt x.2 V + j ≤ V → (qSq V t j x).1 < V ∧ (qSq V t j x).2 < 2 ^ V ∧ (qSq V t j x).2.testBit 0 = true ∧ qCt (qSq V t j x).2 V = qCt x.2 V + j := by
  intro j
  induction j with
  | zero => intro x h1 h2 h3 h4; exact ⟨h1, h2, h3, rfl⟩
  | succ j ih =>
    intro x h1 h2 h3 h4
    obtain ⟨a1, a2, a3⟩ := qNx_in hV ht (v := x.1) h2 (by omega)
    have c := qCt_s a1 a2
    have b := ih (qSt2 V t x) a1 (q_sol h2 a1) (by
      show (x.2 ||| 2 ^ qNx V t x.1 x.2).testBit 0 = true
      rw [fb_bit_set, h3, Bool.true_or]) (by
      show qCt (x.2 ||| 2 ^ qNx V t x.1 x.2) V + j ≤ V
      rw [c]; omega)
    rw [qSq]
    refine ⟨b.1, b.2.1, b.2.2.1, ?_⟩
    rw [b.2.2.2]
    show qCt (x.2 ||| 2 ^ qNx V t x.1 x.2) V + j = _
    rw [c]; omega
