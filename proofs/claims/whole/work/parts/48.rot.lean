/-! ===== what ROTS gives ===== -/
def qCl (m : Nat) (x : Int32) : Nat := if x < 0 then 0 else if m ≤ x.toNatClampNeg then m else x.toNatClampNeg
theorem qCl_le (m : Nat) (x : Int32) : qCl m x ≤ m := by
  unfold qCl
  split
  · omega
  · split <;> omega
theorem k_cl {m : Nat} (hm : m < 2 ^ 31) (x : Int32) (h : zH) : (s_J9_min_7cf53 (nI m) x h).bind (fun v => s_J9_max_7cf53 (nI 0) v h) = some (nI (qCl m x)) := by
  unfold s_J9_min_7cf53 s_J9_max_7cf53 qCl
  by_cases q : x < 0
  · rw [if_pos q]
    have q1 : x < nI m := by
      rw [fa_lt] at q ⊢
      rw [nI_toInt hm]
      have : (0 : Int32).toInt = 0 := rfl
      omega
    rw [if_pos q1]
    show (if nI 0 < x then some x else some (nI 0)) = _
    rw [if_neg (fun q2 => by
      have q3 : (0 : Int32) < x := q2
      rw [fa_lt] at q q3
      omega)]
  · rw [if_neg q]
    obtain ⟨j, hj, rfl⟩ := nI_of q
    rw [nI_clamp hj]
    rcases Nat.lt_or_ge j m with q1 | q1
    · rw [if_pos (nI_lt q1 hm), if_neg (by omega)]
      show (if nI 0 < nI j then some (nI j) else some (nI 0)) = _
      rcases Nat.eq_zero_or_pos j with q2 | q2
      · subst q2; rfl
      · rw [if_pos (nI_lt q2 hj)]
    · rw [if_neg (nI_nlt q1 hj), if_pos q1]
      show (if nI 0 < nI m then some (nI m) else some (nI 0)) = _
      rcases Nat.eq_zero_or_pos m with q2 | q2
      · subst q2; rfl
      · rw [if_pos (nI_lt q2 hm)]
theorem k_cl2 {α : Type} {m : Nat} (hm : m < 2 ^ 31) (x : Int32) (h : zH) (K : Int32 → Option α) : (s_J9_min_7cf53 (nI m) x h).bind (fun v => (s_J9_max_7cf53 (nI 0) v h).bind K) = K (nI (qCl m x)) := by
  have := k_cl hm x h
  rw [← Option.bind_assoc, this]
  rfl
theorem qCl_nI {m n : Nat} (hn : n < 2 ^ 31) (h : n ≤ m) : qCl m (nI n) = n := by
  unfold qCl
  rw [if_neg (nI_pos hn), nI_clamp hn]
  split <;> omega
/-- whether a clan is past it -/
def qPa (R : Nat) (S : Nat → Nat) (r : Nat) : Nat := if r < S 32 then 1 else if r < R - S 33 then 0 else 1
def qBf (S : Nat → Nat) (r : Nat) : Nat := if r = 0 then 0 else S (r - 1)
def qBh (R : Nat) (S : Nat → Nat) (r : Nat) : Nat := if r + 1 < R then S (r + 1) else 0
def qVr (R : Nat) (S : Nat → Nat) (r : Nat) (k : Nat) : Int32 := if k = 0 then nI (S r) else if k = 1 then nI r else if k = 2 then nI (S 35) else if k = 3 then nI (qBf S r + qBh R S r) else nI (qPa R S r)
def qRot (P : zPl) (S : Nat → Nat) (r : Nat) : Nat := if pC P = [] then (if (0 < r ∧ S (r - 1) = 0) ∨ (r + 1 < pR P ∧ S (r + 1) = 0) then 2 else 1) else qCl 20 (qVal (qVr (pR P) S r) (pC P))
theorem qRot_le (P : zPl) (S : Nat → Nat) (r : Nat) : qRot P S r ≤ 20 := by
  unfold qRot
  split
  · split <;> omega
  · exact qCl_le _ _
section ROT
variable {h : zH} {p a R : Nat} {S : Nat → Nat} {P : zPl}
theorem k_past (hR : R ≤ 12) (w : zSC h a R S) (ho : sOk R S) {r : Nat} (hr : r < R) : s_X8_isPast a (nI r) (nI R) h = some (nI (qPa R S r)) := by
  obtain ⟨w0, w1, w2, w3, w4, -⟩ := w
  obtain ⟨o0, o1, o2, o3, -⟩ := ho
  rw [s_X8_isPast, w3, w4, qPa]
  rcases Nat.lt_or_ge r (S 32) with q | q
  · rw [if_pos (nI_lt q (by omega)), if_pos q]
    rfl
  · rw [if_neg (nI_nlt q (by omega)), zq_sub (by omega), if_neg (show ¬ r < S 32 by omega)]
    rcases Nat.lt_or_ge r (R - S 33) with q2 | q2
    · rw [if_pos (nI_lt q2 (by omega)), if_pos q2]
      rfl
    · rw [if_neg (nI_nlt q2 (by omega)), if_neg (show ¬ r < R - S 33 by omega)]
      rfl
theorem k_pastM (hR : R ≤ 12) (h0 : zI h 56 0 = nI R) (w : zSM h R S) (ho : sOk R S) {r : Nat} (hr : r < R) : s_X11_isPast (nI r) h = some (nI (qPa R S r)) := by
  obtain ⟨w0, w1, w2, w3, w4, -⟩ := w
  obtain ⟨o0, o1, o2, o3, -⟩ := ho
  rw [s_X11_isPast, w3, w4, h0, qPa]
  rcases Nat.lt_or_ge r (S 32) with q | q
  · rw [if_pos (nI_lt q (by omega)), if_pos q]
    rfl
  · rw [if_neg (nI_nlt q (by omega)), zq_sub (by omega), if_neg (show ¬ r < S 32 by omega)]
    rcases Nat.lt_or_ge r (R - S 33) with q2 | q2
    · rw [if_pos (nI_lt q2 (by omega)), if_pos q2]
      rfl
    · rw [if_neg (nI_nlt q2 (by omega)), if_neg (show ¬ r < R - S 33 by omega)]
      rfl
theorem k_rot_1 (hR : pR P ≤ 12) (w : zPC h p P) (s : zSC h a (pR P) S) {r : Nat} (hr : r < pR P) : s_X9_rotOf p a (nI r) h = s_X9_rotOf_J25 p a (nI r) (nI (qBf S r)) (nI (qBh (pR P) S r)) h := by
  have w6 := w.1
  have s0 := s.1
  have e2 : ∀ x, s_X9_rotOf_J10 p a (nI r) x h = s_X9_rotOf_J25 p a (nI r) x (nI (qBh (pR P) S r)) h := by
    intro x
    rw [s_X9_rotOf_J10, w6, qBh]
    rcases Nat.lt_or_ge (r + 1) (pR P) with q | q
    · have q1 : ¬ pR P ≤ r + 1 := by omega
      simp (disch := omega) only [zq_0, zq_1, zq_2, zq_3, zq_4, zq_5, zq_6, zq_7, zq_8, zq_9, zq_10, zq_12, zq_13, zq_16, zq_18, zq_20, zq_24, zq_30, zq_31, zq_32, zq_38, zq_39, zq_40, zq_41, zq_42, zq_43, zq_45, zq_47, zq_48, zq_57, zq_59, zq_60, zq_61, zq_63, zq_64, zq_96, zq_97, zq_99, zq_100, zq_122, zq_127, zq_255, zq_700, zq_999, zq_1000, zq_1482, zq_4095, zq_9999, zq_10000, zq_20000, zq_20003, zq_32767, zq_100000, zq_m1, nI_add, nI_leI, nI_ltI, nI_eq, zq_sub, pk_mul, zq_ix, zq_a31, zs_shl, zs_shr, zq_tb, fa_or, fa_and, fb_xorI, zq_pm, zq_eM, zq_Me, zq_MM, zq_of, zlt_e, q1, if_false]
      rw [s0 (r + 1) q, if_pos q]
    · have q1 : pR P ≤ r + 1 := by omega
      simp (disch := omega) only [zq_0, zq_1, zq_2, zq_3, zq_4, zq_5, zq_6, zq_7, zq_8, zq_9, zq_10, zq_12, zq_13, zq_16, zq_18, zq_20, zq_24, zq_30, zq_31, zq_32, zq_38, zq_39, zq_40, zq_41, zq_42, zq_43, zq_45, zq_47, zq_48, zq_57, zq_59, zq_60, zq_61, zq_63, zq_64, zq_96, zq_97, zq_99, zq_100, zq_122, zq_127, zq_255, zq_700, zq_999, zq_1000, zq_1482, zq_4095, zq_9999, zq_10000, zq_20000, zq_20003, zq_32767, zq_100000, zq_m1, nI_add, nI_leI, nI_ltI, nI_eq, zq_sub, pk_mul, zq_ix, zq_a31, zs_shl, zs_shr, zq_tb, fa_or, fa_and, fb_xorI, zq_pm, zq_eM, zq_Me, zq_MM, zq_of, zlt_e, q1, if_true]
      rw [if_neg (by omega)]
  rw [s_X9_rotOf, qBf]
  rcases Nat.eq_zero_or_pos r with q | q
  · subst q
    rw [if_pos rfl]
    exact e2 _
  · have q1 : ¬ r ≤ 0 := by omega
    simp (disch := omega) only [zq_0, zq_1, zq_2, zq_3, zq_4, zq_5, zq_6, zq_7, zq_8, zq_9, zq_10, zq_12, zq_13, zq_16, zq_18, zq_20, zq_24, zq_30, zq_31, zq_32, zq_38, zq_39, zq_40, zq_41, zq_42, zq_43, zq_45, zq_47, zq_48, zq_57, zq_59, zq_60, zq_61, zq_63, zq_64, zq_96, zq_97, zq_99, zq_100, zq_122, zq_127, zq_255, zq_700, zq_999, zq_1000, zq_1482, zq_4095, zq_9999, zq_10000, zq_20000, zq_20003, zq_32767, zq_100000, zq_m1, nI_add, nI_leI, nI_ltI, nI_eq, zq_sub, pk_mul, zq_ix, zq_a31, zs_shl, zs_shr, zq_tb, fa_or, fa_and, fb_xorI, zq_pm, zq_eM, zq_Me, zq_MM, zq_of, zlt_e, q1, if_false]
    rw [s0 (r - 1) (by omega), if_neg (by omega)]
    exact e2 _
theorem k_rot (hp : p ≤ 9) (ha : a = 19 ∨ a = 30) (hP : pOk P) (w : zPC h p P) (s : zSC h a (pR P) S) (ho : sOk (pR P) S) {r : Nat} (hr : r < pR P) : ∃ h', s_X9_rotOf p a (nI r) h = some (nI (qRot P S r), h') ∧ zfr (fun b _ => b = 37 ∨ b = 38) h h' := by
  have hR := hP.1
  rw [k_rot_1 hR w s hr, s_X9_rotOf_J25]
  obtain ⟨w1, w2, w3, w4, w5, w6⟩ := id w
  obtain ⟨o0, o1, o2, o3, o4, o5⟩ := id ho
  by_cases q : pC P = []
  · have t : zI h (p + 5) 0 = 0 := by rw [w5.1, if_pos q]; rfl
    rw [if_neg (fun n => n t), qRot, if_pos q]
    refine ⟨h, ?_, zfr.rf _ h⟩
    have e1 : ∀ b, (b < pR P → S b ≤ 99) := o0
    have e45 : ∀ n : Nat, n < 2 → s_X9_rotOf_J45 p a (nI n) h = some (nI (n + 1), h) := by
      intro n hn
      have e : n = 0 ∨ n = 1 := by omega
      rcases e with e | e <;> subst e <;> rfl
    have e34 : s_X9_rotOf_J34 p a (nI r) (nI (qBh (pR P) S r)) h = some (nI (if r + 1 < pR P ∧ S (r + 1) = 0 then 2 else 1), h) := by
      rw [s_X9_rotOf_J34, w1, qBh]
      rcases Nat.lt_or_ge (r + 1) (pR P) with q1 | q1
      · have q2 : ¬ pR P ≤ r + 1 := by omega
        have b1 := o0 (r + 1) q1
        rw [if_pos q1]
        by_cases q3 : S (r + 1) = 0
        · simp (disch := omega) only [zq_0, zq_1, zq_2, zq_3, zq_4, zq_5, zq_6, zq_7, zq_8, zq_9, zq_10, zq_12, zq_13, zq_16, zq_18, zq_20, zq_24, zq_30, zq_31, zq_32, zq_38, zq_39, zq_40, zq_41, zq_42, zq_43, zq_45, zq_47, zq_48, zq_57, zq_59, zq_60, zq_61, zq_63, zq_64, zq_96, zq_97, zq_99, zq_100, zq_122, zq_127, zq_255, zq_700, zq_999, zq_1000, zq_1482, zq_4095, zq_9999, zq_10000, zq_20000, zq_20003, zq_32767, zq_100000, zq_m1, nI_add, nI_leI, nI_ltI, nI_eq, zq_sub, pk_mul, zq_ix, zq_a31, zs_shl, zs_shr, zq_tb, fa_or, fa_and, fb_xorI, zq_pm, zq_eM, zq_Me, zq_MM, zq_of, zlt_e, q2, q3, q1, not_true, if_false, true_and, if_true]
          exact e45 1 (by omega)
        · simp (disch := omega) only [zq_0, zq_1, zq_2, zq_3, zq_4, zq_5, zq_6, zq_7, zq_8, zq_9, zq_10, zq_12, zq_13, zq_16, zq_18, zq_20, zq_24, zq_30, zq_31, zq_32, zq_38, zq_39, zq_40, zq_41, zq_42, zq_43, zq_45, zq_47, zq_48, zq_57, zq_59, zq_60, zq_61, zq_63, zq_64, zq_96, zq_97, zq_99, zq_100, zq_122, zq_127, zq_255, zq_700, zq_999, zq_1000, zq_1482, zq_4095, zq_9999, zq_10000, zq_20000, zq_20003, zq_32767, zq_100000, zq_m1, nI_add, nI_leI, nI_ltI, nI_eq, zq_sub, pk_mul, zq_ix, zq_a31, zs_shl, zs_shr, zq_tb, fa_or, fa_and, fb_xorI, zq_pm, zq_eM, zq_Me, zq_MM, zq_of, zlt_e, q2, q3, q1, not_false_iff, if_false, and_false, if_true]
          exact e45 0 (by omega)
      · have q2 : pR P ≤ r + 1 := by omega
        have q3 : ¬ r + 1 < pR P := by omega
        simp (disch := omega) only [zq_0, zq_1, zq_2, zq_3, zq_4, zq_5, zq_6, zq_7, zq_8, zq_9, zq_10, zq_12, zq_13, zq_16, zq_18, zq_20, zq_24, zq_30, zq_31, zq_32, zq_38, zq_39, zq_40, zq_41, zq_42, zq_43, zq_45, zq_47, zq_48, zq_57, zq_59, zq_60, zq_61, zq_63, zq_64, zq_96, zq_97, zq_99, zq_100, zq_122, zq_127, zq_255, zq_700, zq_999, zq_1000, zq_1482, zq_4095, zq_9999, zq_10000, zq_20000, zq_20003, zq_32767, zq_100000, zq_m1, nI_add, nI_leI, nI_ltI, nI_eq, zq_sub, pk_mul, zq_ix, zq_a31, zs_shl, zs_shr, zq_tb, fa_or, fa_and, fb_xorI, zq_pm, zq_eM, zq_Me, zq_MM, zq_of, zlt_e, q2, q3, if_false, false_and, if_true]
        exact e45 0 (by omega)
    rcases Nat.eq_zero_or_pos r with q1 | q1
    · subst q1
      rw [if_pos (by decide), e34]
      congr 3
      simp
    · have q2 : ¬ nI r ≤ 0 := nI_nle q1 (by omega)
      have b1 := o0 (r - 1) (by omega)
      rw [if_neg q2, qBf, if_neg (show ¬ r = 0 by omega)]
      by_cases q3 : S (r - 1) = 0
      · rw [if_pos (show nI (S (r - 1)) = 0 by rw [q3]; rfl), if_pos (Or.inl ⟨q1, q3⟩)]
        exact e45 1 (by omega)
      · rw [if_neg (show ¬ nI (S (r - 1)) = 0 from nI_ne0 (by omega) (by omega)), e34]
        congr 3
        simp [q3]
  · have t : ¬ zI h (p + 5) 0 = 0 := by rw [w5.1, if_neg q]; decide
    rw [if_pos t, qRot, if_neg q, zq_ix (by omega) (by omega)]
    dsimp only [zlt]
    generalize e4 : zwI (zwI (zwI (zwI h 37 0 (zI h (a + 1) r)) 37 1 (nI r)) 37 2 (zI (zwI (zwI h 37 0 (zI h (a + 1) r)) 37 1 (nI r)) a 6)) 37 3 (nI (qBf S r) + nI (qBh (pR P) S r)) = h4
    have f4 : zfr (fun b _ => b = 37 ∨ b = 38) h h4 := by
      rw [← e4]
      exact (((zfr.wI 37 0 _ (Or.inl rfl)).w 37 1 _ (Or.inl rfl)).w 37 2 _ (Or.inl rfl)).w 37 3 _ (Or.inl rfl)
    have s4 : zSC h4 a (pR P) S := s.fr f4 (fun b k _ _ => by omega)
    have v0 : zI h4 37 0 = nI (S r) := by rw [← e4]; exact s.1 r hr
    have v1 : zI h4 37 1 = nI r := by rw [← e4]; rfl
    have v2 : zI h4 37 2 = nI (S 35) := by
      rw [← e4]
      show zI (zwI (zwI h 37 0 (zI h (a + 1) r)) 37 1 (nI r)) a 6 = _
      rw [zI_wI, if_neg (by omega), zI_wI, if_neg (by omega)]
      exact s.2.2.2.2.2.2.1
    have v3 : zI h4 37 3 = nI (qBf S r + qBh (pR P) S r) := by rw [← e4]; exact nI_add _ _
    rw [show zI h4 p 6 = nI (pR P) from (f4.i (by omega)).trans w1, k_past hR s4 ho hr]
    have fin : ∀ n : Nat, n = qPa (pR P) S r → ∃ h', s_X9_rotOf_J90 p a (nI 4) (nI n) h4 = some (nI (qCl 20 (qVal (qVr (pR P) S r) (pC P))), h') ∧ zfr (fun b _ => b = 37 ∨ b = 38) h h' := by
      intro n hn
      rw [s_X9_rotOf_J90, zq_ix (by omega) (by omega)]
      dsimp only [zlt]
      have f5 : zfr (fun b _ => b = 37 ∨ b = 38) h (zwI h4 37 4 (nI n)) := f4.w 37 4 _ (Or.inl rfl)
      have w5' : zRu (zwI h4 37 4 (nI n)) p (p + 5) (pC P) := w5.fr f5 (fun k => ⟨by omega, by omega⟩)
      obtain ⟨h6, e6, f6⟩ := k_eval (by omega) (by omega) q hP.2.2.2.2.1 w5'
      rw [e6]
      dsimp only [zbd]
      refine ⟨h6, ?_, f5.tr (f6.mo (fun b k e => Or.inr e))⟩
      have e7 : qVal (zI (zwI h4 37 4 (nI n)) 37) (pC P) = qVal (qVr (pR P) S r) (pC P) := by
        refine qVal_vals ((hP.2.2.2.2.1).resolve_left q).1 (fun i hi => ?_)
        have e8 : i = 0 ∨ i = 1 ∨ i = 2 ∨ i = 3 ∨ i = 4 := by omega
        rcases e8 with e8 | e8 | e8 | e8 | e8 <;> subst e8
        · exact v0
        · exact v1
        · exact v2
        · exact v3
        · exact congrArg nI hn
      rw [e7]
      exact k_cl2 (m := 20) (by omega) _ h6 (fun v => some (v, h6))
    dsimp only [Option.bind]
    have e9 : qPa (pR P) S r = 0 ∨ qPa (pR P) S r = 1 := by
      unfold qPa
      split
      · exact Or.inr rfl
      · split
        · exact Or.inl rfl
        · exact Or.inr rfl
    rcases e9 with e9 | e9
    · rw [e9, if_pos (show nI 0 = 0 from rfl)]
      exact fin 0 e9.symm
    · rw [e9, if_neg (by decide)]
      exact fin 1 e9.symm
end ROT
