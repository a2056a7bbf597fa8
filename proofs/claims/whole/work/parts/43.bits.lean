/-! ===== ribs as bits ===== -/
def qAl (S : Nat → Nat) : Nat → Nat
  | 0 => 0
  | r + 1 => qAl S r ||| (if S r = 0 then 0 else 2 ^ r)
def qGo (S : Nat → Nat) : Nat → Nat
  | 0 => 0
  | r + 1 => qGo S r ||| (if S r = 0 then 2 ^ r else 0)
theorem qAl_tb (S : Nat → Nat) (i : Nat) : ∀ R, (qAl S R).testBit i = (decide (i < R) && decide (S i ≠ 0)) := by
  intro R
  induction R with
  | zero => simp [qAl]
  | succ r ih =>
    rw [qAl, Nat.testBit_or, ih]
    by_cases e : i = r
    · subst e
      by_cases q : S i = 0
      · simp [q]
      · simp [q, Nat.testBit_two_pow_self]
    · have e2 : (if S r = 0 then 0 else 2 ^ r).testBit i = false := by
        split
        · exact Nat.zero_testBit i
        · rw [Nat.testBit_two_pow]; simp; omega
      rw [e2, Bool.or_false]
      have e3 : decide (i < r + 1) = decide (i < r) := by simp; omega
      rw [e3]
theorem qGo_tb (S : Nat → Nat) (i : Nat) : ∀ R, (qGo S R).testBit i = (decide (i < R) && decide (S i = 0)) := by
  intro R
  induction R with
  | zero => simp [qGo]
  | succ r ih =>
    rw [qGo, Nat.testBit_or, ih]
    by_cases e : i = r
    · subst e
      by_cases q : S i = 0
      · simp [q, Nat.testBit_two_pow_self]
      · simp [q]
    · have e2 : (if S r = 0 then 2 ^ r else 0).testBit i = false := by
        split
        · rw [Nat.testBit_two_pow]; simp; omega
        · exact Nat.zero_testBit i
      rw [e2, Bool.or_false]
      have e3 : decide (i < r + 1) = decide (i < r) := by simp; omega
      rw [e3]
theorem q_lt_tb {a R : Nat} (h : ∀ i, R ≤ i → a.testBit i = false) : a < 2 ^ R := Nat.lt_pow_two_of_testBit a (fun i hi => h i hi)
theorem qAl_lt (S : Nat → Nat) (R : Nat) : qAl S R < 2 ^ R := q_lt_tb (fun i hi => by rw [qAl_tb]; simp; omega)
theorem qGo_lt (S : Nat → Nat) (R : Nat) : qGo S R < 2 ^ R := q_lt_tb (fun i hi => by rw [qGo_tb]; simp; omega)
theorem q_p12 {R : Nat} (h : R ≤ 12) : 2 ^ R ≤ 4096 := Nat.pow_le_pow_right (n := 2) (by omega) h
theorem qAl_l (S : Nat → Nat) {R : Nat} (h : R ≤ 12) : qAl S R < 4096 := Nat.lt_of_lt_of_le (qAl_lt S R) (q_p12 h)
theorem qGo_l (S : Nat → Nat) {R : Nat} (h : R ≤ 12) : qGo S R < 4096 := Nat.lt_of_lt_of_le (qGo_lt S R) (q_p12 h)
/-- gone is what isn't there -/
theorem qGo_x (S : Nat → Nat) (R : Nat) : qAl S R ^^^ (2 ^ R - 1) = qGo S R := by
  apply Nat.eq_of_testBit_eq
  intro i
  rw [Nat.testBit_xor, qAl_tb, qGo_tb, Nat.testBit_two_pow_sub_one]
  by_cases q : i < R <;> by_cases q2 : S i = 0 <;> simp [q, q2]
theorem qAl_x (S : Nat → Nat) (R : Nat) : (2 ^ R - 1) ^^^ ((2 ^ R - 1) &&& qGo S R) = qAl S R := by
  apply Nat.eq_of_testBit_eq
  intro i
  rw [Nat.testBit_xor, Nat.testBit_and, qAl_tb, qGo_tb, Nat.testBit_two_pow_sub_one]
  by_cases q : i < R <;> by_cases q2 : S i = 0 <;> simp [q, q2]
section BITS
variable {h : zH} {p a R : Nat} {S : Nat → Nat} {P : zPl}
theorem k_alive_L (hR : R ≤ 12) (hS : ∀ r, r < R → zI h (a + 1) r = nI (S r)) (hb : ∀ r, r < R → S r ≤ 99) : ∀ k r n, r + k = R → k < n → s_X8_aliveBits_L4 a n (nI R) (nI (qAl S r)) (nI r) h = some (nI (qAl S R)) := by
  intro k
  induction k with
  | zero =>
    intro r n e hn
    obtain ⟨m, rfl, -⟩ := zq_suc hn
    have e2 : r = R := by omega
    subst e2
    rw [s_X8_aliveBits_L4, if_pos (nI_le (Nat.le_refl _) (by omega))]
  | succ k ih =>
    intro r n e hn
    obtain ⟨m, rfl, hm⟩ := zq_suc hn
    have hr : r < R := by omega
    have hb1 := hb r hr
    have ih1 := ih (r + 1) m (by omega) (by omega)
    rw [s_X8_aliveBits_L4, if_neg (nI_ge hr (by omega)), zq_ix (by omega) (by omega)]
    try dsimp only
    rw [hS r hr]
    rw [qAl] at ih1
    by_cases q : S r = 0
    · rw [if_pos q] at ih1
      simp (disch := omega) only [zq_0, zq_1, zq_2, zq_3, zq_4, zq_5, zq_6, zq_7, zq_8, zq_9, zq_10, zq_12, zq_13, zq_16, zq_18, zq_20, zq_24, zq_30, zq_31, zq_32, zq_38, zq_39, zq_40, zq_41, zq_42, zq_43, zq_45, zq_47, zq_48, zq_57, zq_59, zq_60, zq_61, zq_63, zq_64, zq_96, zq_97, zq_99, zq_100, zq_122, zq_127, zq_255, zq_700, zq_999, zq_1000, zq_1482, zq_4095, zq_9999, zq_10000, zq_20000, zq_20003, zq_32767, zq_100000, zq_m1, nI_add, nI_leI, nI_ltI, nI_eq, zq_sub, pk_mul, zq_ix, zq_a31, zs_shl, zs_shr, zq_tb, fa_or, fa_and, fb_xorI, zq_pm, zq_eM, zq_Me, zq_MM, zq_of, zlt_e, q, Nat.le_refl, if_true]
      exact ih1
    · rw [if_neg q] at ih1
      have q1 : ¬ S r ≤ 0 := by omega
      simp (disch := omega) only [zq_0, zq_1, zq_2, zq_3, zq_4, zq_5, zq_6, zq_7, zq_8, zq_9, zq_10, zq_12, zq_13, zq_16, zq_18, zq_20, zq_24, zq_30, zq_31, zq_32, zq_38, zq_39, zq_40, zq_41, zq_42, zq_43, zq_45, zq_47, zq_48, zq_57, zq_59, zq_60, zq_61, zq_63, zq_64, zq_96, zq_97, zq_99, zq_100, zq_122, zq_127, zq_255, zq_700, zq_999, zq_1000, zq_1482, zq_4095, zq_9999, zq_10000, zq_20000, zq_20003, zq_32767, zq_100000, zq_m1, nI_add, nI_leI, nI_ltI, nI_eq, zq_sub, pk_mul, zq_ix, zq_a31, zs_shl, zs_shr, zq_tb, fa_or, fa_and, fb_xorI, zq_pm, zq_eM, zq_Me, zq_MM, zq_of, zlt_e, q1, if_false]
      exact ih1
theorem k_alive (hR : R ≤ 12) (hS : ∀ r, r < R → zI h (a + 1) r = nI (S r)) (hb : ∀ r, r < R → S r ≤ 99) : s_X8_aliveBits a (nI R) h = some (nI (qAl S R)) := k_alive_L hR hS hb R 0 zfu (by omega) (zq_fu (by omega))
theorem q_all {R : Nat} (hR : R ≤ 12) : (nI 1 <<< (nI R &&& nI 31)) - nI 1 = nI (2 ^ R - 1) := by
  have := Nat.two_pow_pos R
  rw [zq_shl (by omega), zq_sub (by omega)]
theorem k_gone (hR : R ≤ 12) (hS : ∀ r, r < R → zI h (a + 1) r = nI (S r)) (hb : ∀ r, r < R → S r ≤ 99) : s_X8_goneBits a (nI R) h = some (nI (qGo S R)) := by
  rw [s_X8_goneBits, k_alive hR hS hb]
  dsimp only [Option.bind]
  have := q_all hR
  simp only [zq_0, zq_1, zq_2, zq_3, zq_4, zq_5, zq_6, zq_7, zq_8, zq_9, zq_10, zq_12, zq_13, zq_16, zq_18, zq_20, zq_24, zq_30, zq_31, zq_32, zq_38, zq_39, zq_40, zq_41, zq_42, zq_43, zq_45, zq_47, zq_48, zq_57, zq_59, zq_60, zq_61, zq_63, zq_64, zq_96, zq_97, zq_99, zq_100, zq_122, zq_127, zq_255, zq_700, zq_999, zq_1000, zq_1482, zq_4095, zq_9999, zq_10000, zq_20000, zq_20003, zq_32767, zq_100000]
  rw [this, fb_xorI, qGo_x]
theorem k_goneM_L (hR : R ≤ 12) (h0 : zI h 56 0 = nI R) (hS : ∀ r, r < R → zI h 64 r = nI (S r)) (hb : ∀ r, r < R → S r ≤ 99) : ∀ k r n, r + k = R → k < n → s_X11_goneNow_L4 n (nI (qGo S r)) (nI r) h = some (nI (qGo S R)) := by
  intro k
  induction k with
  | zero =>
    intro r n e hn
    obtain ⟨m, rfl, -⟩ := zq_suc hn
    have e2 : r = R := by omega
    subst e2
    rw [s_X11_goneNow_L4, h0, if_pos (nI_le (Nat.le_refl _) (by omega))]
  | succ k ih =>
    intro r n e hn
    obtain ⟨m, rfl, hm⟩ := zq_suc hn
    have hr : r < R := by omega
    have hb1 := hb r hr
    have ih1 := ih (r + 1) m (by omega) (by omega)
    rw [s_X11_goneNow_L4, h0, if_neg (nI_ge hr (by omega)), zq_ix (by omega) (by omega)]
    try dsimp only
    rw [hS r hr]
    rw [qGo] at ih1
    by_cases q : S r = 0
    · rw [if_pos q] at ih1
      simp (disch := omega) only [zq_0, zq_1, zq_2, zq_3, zq_4, zq_5, zq_6, zq_7, zq_8, zq_9, zq_10, zq_12, zq_13, zq_16, zq_18, zq_20, zq_24, zq_30, zq_31, zq_32, zq_38, zq_39, zq_40, zq_41, zq_42, zq_43, zq_45, zq_47, zq_48, zq_57, zq_59, zq_60, zq_61, zq_63, zq_64, zq_96, zq_97, zq_99, zq_100, zq_122, zq_127, zq_255, zq_700, zq_999, zq_1000, zq_1482, zq_4095, zq_9999, zq_10000, zq_20000, zq_20003, zq_32767, zq_100000, zq_m1, nI_add, nI_leI, nI_ltI, nI_eq, zq_sub, pk_mul, zq_ix, zq_a31, zs_shl, zs_shr, zq_tb, fa_or, fa_and, fb_xorI, zq_pm, zq_eM, zq_Me, zq_MM, zq_of, zlt_e, q, not_true, if_false]
      exact ih1
    · rw [if_neg q] at ih1
      simp (disch := omega) only [zq_0, zq_1, zq_2, zq_3, zq_4, zq_5, zq_6, zq_7, zq_8, zq_9, zq_10, zq_12, zq_13, zq_16, zq_18, zq_20, zq_24, zq_30, zq_31, zq_32, zq_38, zq_39, zq_40, zq_41, zq_42, zq_43, zq_45, zq_47, zq_48, zq_57, zq_59, zq_60, zq_61, zq_63, zq_64, zq_96, zq_97, zq_99, zq_100, zq_122, zq_127, zq_255, zq_700, zq_999, zq_1000, zq_1482, zq_4095, zq_9999, zq_10000, zq_20000, zq_20003, zq_32767, zq_100000, zq_m1, nI_add, nI_leI, nI_ltI, nI_eq, zq_sub, pk_mul, zq_ix, zq_a31, zs_shl, zs_shr, zq_tb, fa_or, fa_and, fb_xorI, zq_pm, zq_eM, zq_Me, zq_MM, zq_of, zlt_e, q, not_false_iff, if_true]
      exact ih1
theorem k_goneM (hR : R ≤ 12) (h0 : zI h 56 0 = nI R) (hS : ∀ r, r < R → zI h 64 r = nI (S r)) (hb : ∀ r, r < R → S r ≤ 99) : s_X11_goneNow h = some (nI (qGo S R)) := k_goneM_L hR h0 hS hb R 0 zfu (by omega) (zq_fu (by omega))
theorem k_allM (hR : R ≤ 12) (h0 : zI h 56 0 = nI R) : s_X11_all h = some (nI (2 ^ R - 1)) := by
  rw [s_X11_all, h0]
  have := q_all hR
  simp only [zq_0, zq_1, zq_2, zq_3, zq_4, zq_5, zq_6, zq_7, zq_8, zq_9, zq_10, zq_12, zq_13, zq_16, zq_18, zq_20, zq_24, zq_30, zq_31, zq_32, zq_38, zq_39, zq_40, zq_41, zq_42, zq_43, zq_45, zq_47, zq_48, zq_57, zq_59, zq_60, zq_61, zq_63, zq_64, zq_96, zq_97, zq_99, zq_100, zq_122, zq_127, zq_255, zq_700, zq_999, zq_1000, zq_1482, zq_4095, zq_9999, zq_10000, zq_20000, zq_20003, zq_32767, zq_100000]
  rw [this]
theorem k_there (hR : R ≤ 12) (h0 : zI h 56 0 = nI R) (hS : ∀ r, r < R → zI h 64 r = nI (S r)) (hb : ∀ r, r < R → S r ≤ 99) : s_X11_thereNow h = some (nI (qAl S R)) := by
  rw [s_X11_thereNow, k_allM hR h0, k_goneM hR h0 hS hb]
  show some (nI (2 ^ R - 1) &&& (nI (qGo S R) ^^^ nM)) = _
  rw [zq_nand, qAl_x]
end BITS
