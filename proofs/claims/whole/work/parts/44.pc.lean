/-! ===== how many bits, 2 ===== -/
theorem k_bo_L (h : zH) : ∀ b n m l, n < 4096 → n ≤ b → b < m → s_X11_bitsOf_L4 m (nI l) (nI n) h = some (nI (l + qPc n)) := by
  intro b
  induction b with
  | zero =>
    intro n m l _ hb hm
    obtain ⟨m, rfl, -⟩ := zq_suc hm
    have e : n = 0 := by omega
    subst e
    rw [s_X11_bitsOf_L4, if_pos (show nI 0 = 0 from rfl)]
    rfl
  | succ b ih =>
    intro n m l hn hb hm
    obtain ⟨m, rfl, hm2⟩ := zq_suc hm
    rcases Nat.eq_zero_or_pos n with e | e
    · subst e
      rw [s_X11_bitsOf_L4, if_pos (show nI 0 = 0 from rfl)]
      rfl
    · have e1 : ¬ nI n = 0 := nI_ne0 e (by omega)
      obtain ⟨q1, q2⟩ := (co_dec qPc_all hn).resolve_left (by omega)
      rw [s_X11_bitsOf_L4, if_neg e1]
      have ih1 := ih (n &&& (n - 1)) m (l + 1) (by omega) (by omega) (by omega)
      simp (disch := omega) only [zq_0, zq_1, zq_2, zq_3, zq_4, zq_5, zq_6, zq_7, zq_8, zq_9, zq_10, zq_12, zq_13, zq_16, zq_18, zq_20, zq_24, zq_30, zq_31, zq_32, zq_38, zq_39, zq_40, zq_41, zq_42, zq_43, zq_45, zq_47, zq_48, zq_57, zq_59, zq_60, zq_61, zq_63, zq_64, zq_96, zq_97, zq_99, zq_100, zq_122, zq_127, zq_255, zq_700, zq_999, zq_1000, zq_1482, zq_4095, zq_9999, zq_10000, zq_20000, zq_20003, zq_32767, zq_100000, zq_m1, nI_add, nI_leI, nI_ltI, nI_eq, zq_sub, pk_mul, zq_ix, zq_a31, zs_shl, zs_shr, zq_tb, fa_or, fa_and, fb_xorI, zq_pm, zq_eM, zq_Me, zq_MM, zq_of, zlt_e]
      rw [ih1]
      congr 2
      omega
theorem k_bo {n : Nat} (hn : n < 4096) (h : zH) : s_X11_bitsOf (nI n) h = some (nI (qPc n)) := by
  have := k_bo_L h 4096 n zfu 0 hn (by omega) (zq_fu (by omega))
  rw [Nat.zero_add] at this
  exact this
theorem qPc_0 {n : Nat} (hn : n < 4096) : qPc n = 0 ↔ n = 0 := by
  constructor
  · intro e
    apply Nat.eq_of_testBit_eq
    intro i
    rw [Nat.zero_testBit]
    rcases Nat.lt_or_ge i 12 with q | q
    · exact (fb_ct_zero.mp e) i q
    · exact Nat.testBit_lt_two_pow (Nat.lt_of_lt_of_le hn (Nat.pow_le_pow_right (n := 2) (i := 12) (by omega) q))
  · intro e
    subst e
    exact fb_ct_zero.mpr (fun k _ => Nat.zero_testBit k)
/-- fewer bits, if some are left out -/
theorem qPc_sub {a b : Nat} (h : a &&& b = a) : qPc a ≤ qPc b := fb_ct_sub (fun k _ q => by
  rw [← h, Nat.testBit_and, Bool.and_eq_true] at q
  exact q.2)
theorem qPc_sublt {a b : Nat} (ha : a < 4096) (hb : b < 4096) (h : a &&& b = a) (n : a ≠ b) : qPc a < qPc b := by
  have e1 : qPc (b ^^^ a) + qPc a = qPc b := by
    have := fb_ct_or (p := fun i => (b ^^^ a).testBit i) (q := fun i => a.testBit i) (n := 12) (fun k _ q => by
      obtain ⟨q1, q2⟩ := q
      have q3 : b.testBit k = true := by
        rw [← h, Nat.testBit_and, Bool.and_eq_true] at q2
        exact q2.2
      rw [Nat.testBit_xor, q2, q3] at q1
      cases q1)
    rw [qPc, qPc, ← this, qPc]
    refine fb_ct_cong (fun k _ => ?_)
    rw [Nat.testBit_xor]
    have q4 : a.testBit k = (a.testBit k && b.testBit k) := by
      rw [← Nat.testBit_and, h]
    rw [q4]
    cases a.testBit k <;> cases b.testBit k <;> rfl
  have e2 : qPc (b ^^^ a) ≠ 0 := by
    intro e
    have e3 := (qPc_0 (Nat.xor_lt_two_pow (n := 12) hb ha)).mp e
    refine n (Nat.eq_of_testBit_eq (fun i => ?_))
    have e4 : (b ^^^ a).testBit i = false := by rw [e3]; exact Nat.zero_testBit i
    rw [Nat.testBit_xor] at e4
    revert e4
    cases a.testBit i <;> cases b.testBit i <;> simp
  omega
