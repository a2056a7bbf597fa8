/-! ===== verses ===== -/
def qAk (T : Nat → Nat) (al v : Nat) : Nat → Nat
  | 0 => 0
  | k + 1 => qAk T al v k ||| (if (T v ^^^ T k) &&& al = 0 then 2 ^ k else 0)
def qKd (T : Nat → Nat) (al V : Nat) : Nat → Nat
  | 0 => 0
  | v + 1 => qKd T al V v + (if qAk T al v V &&& (2 ^ v - 1) = 0 then 1 else 0)
def qVo (T : Nat → Nat) (r : Nat) : Nat → Nat
  | 0 => 0
  | k + 1 => qVo T r k ||| (if (T k).testBit r then 2 ^ k else 0)
/-- the longest float: most, run, side -/
def qFl (S : Nat → Nat) (t : Nat) : Nat → Nat × Nat × Int32
  | 0 => (0, 0, nM)
  | r + 1 => if S r = 0 then qFl S t r else
    let run := if nI (t.testBit r).toNat = (qFl S t r).2.2 then (qFl S t r).2.1 + 1 else 1
    (if (qFl S t r).1 < run then run else (qFl S t r).1, run, nI (t.testBit r).toNat)
theorem qAk_lt (T : Nat → Nat) (al v : Nat) : ∀ k, qAk T al v k < 2 ^ k := by
  intro k
  induction k with
  | zero => exact Nat.one_pos
  | succ k ih =>
    rw [qAk]
    apply Nat.or_lt_two_pow
    · exact Nat.lt_trans ih (Nat.pow_lt_pow_right (by omega) (by omega))
    · split
      · exact Nat.pow_lt_pow_right (by omega) (by omega)
      · exact Nat.two_pow_pos _
theorem qKd_le (T : Nat → Nat) (al V : Nat) : ∀ v, qKd T al V v ≤ v := by
  intro v
  induction v with
  | zero => exact Nat.le_refl 0
  | succ v ih =>
    rw [qKd]
    split <;> omega
theorem q_and_lt {a b : Nat} (h : b < 4096) : a &&& b < 4096 := Nat.lt_of_le_of_lt Nat.and_le_right h
section SONG
variable {h : zH} {p V : Nat} {T : Nat → Nat} {al : Nat}
theorem k_turns (hV : V ≤ 8) (hT : ∀ v, v < V → zI h (p + 2) v = nI (T v)) (ha : al < 4096) {v w : Nat} (hv : v < V) (hw : w < V) : s_X7_turns p (nI al) (nI v) (nI w) h = some (nI (qPc ((T v ^^^ T w) &&& al))) := by
  rw [s_X7_turns, zq_ix (by omega) (by omega), zq_ix (by omega) (by omega), hT v hv, hT w hw, fb_xorI, fa_and, k_bc (q_and_lt ha)]
  rfl
theorem k_alike_L (hV : V ≤ 8) (h8 : zI h p 8 = nI V) (hT : ∀ v, v < V → zI h (p + 2) v = nI (T v)) (ha : al < 4096) {v : Nat} (hv : v < V) : ∀ k r n, r + k = V → k < n → s_X7_alike_L4 p n (nI al) (nI v) (nI (qAk T al v r)) (nI r) h = some (nI (qAk T al v V)) := by
  intro k
  induction k with
  | zero =>
    intro r n e hn
    obtain ⟨m, rfl, -⟩ := zq_suc hn
    have e2 : r = V := by omega
    subst e2
    rw [s_X7_alike_L4, h8, if_pos (nI_le (Nat.le_refl _) (by omega))]
  | succ k ih =>
    intro r n e hn
    obtain ⟨m, rfl, hm⟩ := zq_suc hn
    have hr : r < V := by omega
    have ih1 := ih (r + 1) m (by omega) (by omega)
    rw [s_X7_alike_L4, h8, if_neg (nI_ge hr (by omega)), k_turns hV hT ha hv hr]
    dsimp only [Option.bind]
    rw [qAk] at ih1
    have hq := qPc_le ((T v ^^^ T r) &&& al)
    have hq0 := qPc_0 (n := (T v ^^^ T r) &&& al) (q_and_lt ha)
    by_cases q : (T v ^^^ T r) &&& al = 0
    · rw [if_pos q] at ih1
      have q2 := hq0.mpr q
      simp (disch := omega) only [zq_0, zq_1, zq_2, zq_3, zq_4, zq_5, zq_6, zq_7, zq_8, zq_9, zq_10, zq_12, zq_13, zq_16, zq_18, zq_20, zq_24, zq_30, zq_31, zq_32, zq_38, zq_39, zq_40, zq_41, zq_42, zq_43, zq_45, zq_47, zq_48, zq_57, zq_59, zq_60, zq_61, zq_63, zq_64, zq_96, zq_97, zq_99, zq_100, zq_122, zq_127, zq_255, zq_700, zq_999, zq_1000, zq_1482, zq_4095, zq_9999, zq_10000, zq_20000, zq_20003, zq_32767, zq_100000, zq_m1, nI_add, nI_leI, nI_ltI, nI_eq, zq_sub, pk_mul, zq_ix, zq_a31, zs_shl, zs_shr, zq_tb, fa_or, fa_and, fb_xorI, zq_pm, zq_eM, zq_Me, zq_MM, zq_of, zlt_e, q2, not_true, if_false]
      exact ih1
    · rw [if_neg q] at ih1
      have q2 : ¬ qPc ((T v ^^^ T r) &&& al) = 0 := fun e => q (hq0.mp e)
      simp (disch := omega) only [zq_0, zq_1, zq_2, zq_3, zq_4, zq_5, zq_6, zq_7, zq_8, zq_9, zq_10, zq_12, zq_13, zq_16, zq_18, zq_20, zq_24, zq_30, zq_31, zq_32, zq_38, zq_39, zq_40, zq_41, zq_42, zq_43, zq_45, zq_47, zq_48, zq_57, zq_59, zq_60, zq_61, zq_63, zq_64, zq_96, zq_97, zq_99, zq_100, zq_122, zq_127, zq_255, zq_700, zq_999, zq_1000, zq_1482, zq_4095, zq_9999, zq_10000, zq_20000, zq_20003, zq_32767, zq_100000, zq_m1, nI_add, nI_leI, nI_ltI, nI_eq, zq_sub, pk_mul, zq_ix, zq_a31, zs_shl, zs_shr, zq_tb, fa_or, fa_and, fb_xorI, zq_pm, zq_eM, zq_Me, zq_MM, zq_of, zlt_e, q2, not_false_iff, if_true]
      exact ih1
theorem k_alike (hV : V ≤ 8) (h8 : zI h p 8 = nI V) (hT : ∀ v, v < V → zI h (p + 2) v = nI (T v)) (ha : al < 4096) {v : Nat} (hv : v < V) : s_X7_alike p (nI al) (nI v) h = some (nI (qAk T al v V)) := k_alike_L hV h8 hT ha hv V 0 zfu (by omega) (zq_fu (by omega))
theorem k_alikeM_L (hV : V ≤ 8) (h8 : zI h 56 1 = nI V) (hT : ∀ v, v < V → zI h 59 v = nI (T v)) (ha : al < 4096) {v : Nat} (hv : v < V) : ∀ k r n, r + k = V → k < n → s_X11_alikeBy_L4 n (nI v) (nI al) (nI (qAk T al v r)) (nI r) h = some (nI (qAk T al v V)) := by
  intro k
  induction k with
  | zero =>
    intro r n e hn
    obtain ⟨m, rfl, -⟩ := zq_suc hn
    have e2 : r = V := by omega
    subst e2
    rw [s_X11_alikeBy_L4, h8, if_pos (nI_le (Nat.le_refl _) (by omega))]
  | succ k ih =>
    intro r n e hn
    obtain ⟨m, rfl, hm⟩ := zq_suc hn
    have hr : r < V := by omega
    have ih1 := ih (r + 1) m (by omega) (by omega)
    rw [s_X11_alikeBy_L4, h8, if_neg (nI_ge hr (by omega)), zq_ix (by omega) (by omega), zq_ix (by omega) (by omega)]
    try dsimp only
    rw [hT v hv, hT r hr, fb_xorI, fa_and, Nat.xor_comm (T r) (T v)]
    rw [qAk] at ih1
    have hq : (T v ^^^ T r) &&& al < 4096 := q_and_lt ha
    by_cases q : (T v ^^^ T r) &&& al = 0
    · rw [if_pos q] at ih1
      simp (disch := omega) only [zq_0, zq_1, zq_2, zq_3, zq_4, zq_5, zq_6, zq_7, zq_8, zq_9, zq_10, zq_12, zq_13, zq_16, zq_18, zq_20, zq_24, zq_30, zq_31, zq_32, zq_38, zq_39, zq_40, zq_41, zq_42, zq_43, zq_45, zq_47, zq_48, zq_57, zq_59, zq_60, zq_61, zq_63, zq_64, zq_96, zq_97, zq_99, zq_100, zq_122, zq_127, zq_255, zq_700, zq_999, zq_1000, zq_1482, zq_4095, zq_9999, zq_10000, zq_20000, zq_20003, zq_32767, zq_100000, zq_m1, nI_add, nI_leI, nI_ltI, nI_eq, zq_sub, pk_mul, zq_ix, zq_a31, zs_shl, zs_shr, zq_tb, fa_or, fa_and, fb_xorI, zq_pm, zq_eM, zq_Me, zq_MM, zq_of, zlt_e, q, not_true, if_false]
      exact ih1
    · rw [if_neg q] at ih1
      simp (disch := omega) only [zq_0, zq_1, zq_2, zq_3, zq_4, zq_5, zq_6, zq_7, zq_8, zq_9, zq_10, zq_12, zq_13, zq_16, zq_18, zq_20, zq_24, zq_30, zq_31, zq_32, zq_38, zq_39, zq_40, zq_41, zq_42, zq_43, zq_45, zq_47, zq_48, zq_57, zq_59, zq_60, zq_61, zq_63, zq_64, zq_96, zq_97, zq_99, zq_100, zq_122, zq_127, zq_255, zq_700, zq_999, zq_1000, zq_1482, zq_4095, zq_9999, zq_10000, zq_20000, zq_20003, zq_32767, zq_100000, zq_m1, nI_add, nI_leI, nI_ltI, nI_eq, zq_sub, pk_mul, zq_ix, zq_a31, zs_shl, zs_shr, zq_tb, fa_or, fa_and, fb_xorI, zq_pm, zq_eM, zq_Me, zq_MM, zq_of, zlt_e, q, not_false_iff, if_true]
      exact ih1
theorem k_alikeM (hV : V ≤ 8) (h8 : zI h 56 1 = nI V) (hT : ∀ v, v < V → zI h 59 v = nI (T v)) (ha : al < 4096) {v : Nat} (hv : v < V) : s_X11_alikeBy (nI v) (nI al) h = some (nI (qAk T al v V)) := k_alikeM_L hV h8 hT ha hv V 0 zfu (by omega) (zq_fu (by omega))
theorem k_kinds_L (hV : V ≤ 8) (h8 : zI h p 8 = nI V) (hT : ∀ v, v < V → zI h (p + 2) v = nI (T v)) (ha : al < 4096) : ∀ k r n, r + k = V → k < n → s_X7_kinds_L4 p n (nI al) (nI (qKd T al V r)) (nI r) h = some (nI (qKd T al V V)) := by
  intro k
  induction k with
  | zero =>
    intro r n e hn
    obtain ⟨m, rfl, -⟩ := zq_suc hn
    have e2 : r = V := by omega
    subst e2
    rw [s_X7_kinds_L4, h8, if_pos (nI_le (Nat.le_refl _) (by omega))]
  | succ k ih =>
    intro r n e hn
    obtain ⟨m, rfl, hm⟩ := zq_suc hn
    have hr : r < V := by omega
    have ih1 := ih (r + 1) m (by omega) (by omega)
    rw [s_X7_kinds_L4, h8, if_neg (nI_ge hr (by omega)), k_alike hV h8 hT ha hr]
    dsimp only [Option.bind]
    rw [qKd] at ih1
    have hp := Nat.two_pow_pos r
    have hq : qAk T al r V &&& (2 ^ r - 1) < 4096 := by
      have h1 : 2 ^ r ≤ 4096 := q_p12 (by omega)
      exact q_and_lt (by omega)
    by_cases q : qAk T al r V &&& (2 ^ r - 1) = 0
    · rw [if_pos q] at ih1
      simp (disch := omega) only [zq_0, zq_1, zq_2, zq_3, zq_4, zq_5, zq_6, zq_7, zq_8, zq_9, zq_10, zq_12, zq_13, zq_16, zq_18, zq_20, zq_24, zq_30, zq_31, zq_32, zq_38, zq_39, zq_40, zq_41, zq_42, zq_43, zq_45, zq_47, zq_48, zq_57, zq_59, zq_60, zq_61, zq_63, zq_64, zq_96, zq_97, zq_99, zq_100, zq_122, zq_127, zq_255, zq_700, zq_999, zq_1000, zq_1482, zq_4095, zq_9999, zq_10000, zq_20000, zq_20003, zq_32767, zq_100000, zq_m1, nI_add, nI_leI, nI_ltI, nI_eq, zq_sub, pk_mul, zq_ix, zq_a31, zs_shl, zs_shr, zq_tb, fa_or, fa_and, fb_xorI, zq_pm, zq_eM, zq_Me, zq_MM, zq_of, zlt_e, q, not_true, if_false]
      exact ih1
    · rw [if_neg q] at ih1
      simp (disch := omega) only [zq_0, zq_1, zq_2, zq_3, zq_4, zq_5, zq_6, zq_7, zq_8, zq_9, zq_10, zq_12, zq_13, zq_16, zq_18, zq_20, zq_24, zq_30, zq_31, zq_32, zq_38, zq_39, zq_40, zq_41, zq_42, zq_43, zq_45, zq_47, zq_48, zq_57, zq_59, zq_60, zq_61, zq_63, zq_64, zq_96, zq_97, zq_99, zq_100, zq_122, zq_127, zq_255, zq_700, zq_999, zq_1000, zq_1482, zq_4095, zq_9999, zq_10000, zq_20000, zq_20003, zq_32767, zq_100000, zq_m1, nI_add, nI_leI, nI_ltI, nI_eq, zq_sub, pk_mul, zq_ix, zq_a31, zs_shl, zs_shr, zq_tb, fa_or, fa_and, fb_xorI, zq_pm, zq_eM, zq_Me, zq_MM, zq_of, zlt_e, q, not_false_iff, if_true]
      exact ih1
theorem k_kinds (hV : V ≤ 8) (h8 : zI h p 8 = nI V) (hT : ∀ v, v < V → zI h (p + 2) v = nI (T v)) (ha : al < 4096) : s_X7_kinds p (nI al) h = some (nI (qKd T al V V)) := k_kinds_L hV h8 hT ha V 0 zfu (by omega) (zq_fu (by omega))
theorem k_kindsM_L (hV : V ≤ 8) (h8 : zI h 56 1 = nI V) (hT : ∀ v, v < V → zI h 59 v = nI (T v)) (ha : al < 4096) : ∀ k r n, r + k = V → k < n → s_X11_kindsBy_L4 n (nI al) (nI (qKd T al V r)) (nI r) h = some (nI (qKd T al V V)) := by
  intro k
  induction k with
  | zero =>
    intro r n e hn
    obtain ⟨m, rfl, -⟩ := zq_suc hn
    have e2 : r = V := by omega
    subst e2
    rw [s_X11_kindsBy_L4, h8, if_pos (nI_le (Nat.le_refl _) (by omega))]
  | succ k ih =>
    intro r n e hn
    obtain ⟨m, rfl, hm⟩ := zq_suc hn
    have hr : r < V := by omega
    have ih1 := ih (r + 1) m (by omega) (by omega)
    rw [s_X11_kindsBy_L4, h8, if_neg (nI_ge hr (by omega)), k_alikeM hV h8 hT ha hr]
    dsimp only [Option.bind]
    rw [qKd] at ih1
    have hp := Nat.two_pow_pos r
    have hq : qAk T al r V &&& (2 ^ r - 1) < 4096 := by
      have h1 : 2 ^ r ≤ 4096 := q_p12 (by omega)
      exact q_and_lt (by omega)
    by_cases q : qAk T al r V &&& (2 ^ r - 1) = 0
    · rw [if_pos q] at ih1
      simp (disch := omega) only [zq_0, zq_1, zq_2, zq_3, zq_4, zq_5, zq_6, zq_7, zq_8, zq_9, zq_10, zq_12, zq_13, zq_16, zq_18, zq_20, zq_24, zq_30, zq_31, zq_32, zq_38, zq_39, zq_40, zq_41, zq_42, zq_43, zq_45, zq_47, zq_48, zq_57, zq_59, zq_60, zq_61, zq_63, zq_64, zq_96, zq_97, zq_99, zq_100, zq_122, zq_127, zq_255, zq_700, zq_999, zq_1000, zq_1482, zq_4095, zq_9999, zq_10000, zq_20000, zq_20003, zq_32767, zq_100000, zq_m1, nI_add, nI_leI, nI_ltI, nI_eq, zq_sub, pk_mul, zq_ix, zq_a31, zs_shl, zs_shr, zq_tb, fa_or, fa_and, fb_xorI, zq_pm, zq_eM, zq_Me, zq_MM, zq_of, zlt_e, q, not_true, if_false]
      exact ih1
    · rw [if_neg q] at ih1
      simp (disch := omega) only [zq_0, zq_1, zq_2, zq_3, zq_4, zq_5, zq_6, zq_7, zq_8, zq_9, zq_10, zq_12, zq_13, zq_16, zq_18, zq_20, zq_24, zq_30, zq_31, zq_32, zq_38, zq_39, zq_40, zq_41, zq_42, zq_43, zq_45, zq_47, zq_48, zq_57, zq_59, zq_60, zq_61, zq_63, zq_64, zq_96, zq_97, zq_99, zq_100, zq_122, zq_127, zq_255, zq_700, zq_999, zq_1000, zq_1482, zq_4095, zq_9999, zq_10000, zq_20000, zq_20003, zq_32767, zq_100000, zq_m1, nI_add, nI_leI, nI_ltI, nI_eq, zq_sub, pk_mul, zq_ix, zq_a31, zs_shl, zs_shr, zq_tb, fa_or, fa_and, fb_xorI, zq_pm, zq_eM, zq_Me, zq_MM, zq_of, zlt_e, q, not_false_iff, if_true]
      exact ih1
theorem k_kindsM (hV : V ≤ 8) (h8 : zI h 56 1 = nI V) (hT : ∀ v, v < V → zI h 59 v = nI (T v)) (ha : al < 4096) : s_X11_kindsBy (nI al) h = some (nI (qKd T al V V)) := k_kindsM_L hV h8 hT ha V 0 zfu (by omega) (zq_fu (by omega))
theorem k_over_L (hV : V ≤ 8) (h8 : zI h p 8 = nI V) (hT : ∀ v, v < V → zI h (p + 2) v = nI (T v)) (hb : ∀ v, v < V → T v < 4096) {b : Nat} (hbb : b < 12) : ∀ k r n, r + k = V → k < n → s_X7_versesOver_L4 p n (nI b) (nI (qVo T b r)) (nI r) h = some (nI (qVo T b V)) := by
  intro k
  induction k with
  | zero =>
    intro r n e hn
    obtain ⟨m, rfl, -⟩ := zq_suc hn
    have e2 : r = V := by omega
    subst e2
    rw [s_X7_versesOver_L4, h8, if_pos (nI_le (Nat.le_refl _) (by omega))]
  | succ k ih =>
    intro r n e hn
    obtain ⟨m, rfl, hm⟩ := zq_suc hn
    have hr : r < V := by omega
    have hb1 := hb r hr
    have ih1 := ih (r + 1) m (by omega) (by omega)
    rw [s_X7_versesOver_L4, h8, if_neg (nI_ge hr (by omega)), zq_ix (by omega) (by omega)]
    try dsimp only
    rw [hT r hr]
    rw [qVo] at ih1
    have e3 : nI ((T r).testBit b).toNat <<< nI r = nI (if (T r).testBit b then 2 ^ r else 0) := by
      cases (T r).testBit b with
      | true => exact zs_shl (by omega)
      | false =>
        have := pk_shlN (n := 0) (nI r) r (zq_smod2 r (by omega)) (by omega)
        rw [Nat.zero_mul] at this
        exact this
    simp (disch := omega) only [zq_0, zq_1, zq_2, zq_3, zq_4, zq_5, zq_6, zq_7, zq_8, zq_9, zq_10, zq_12, zq_13, zq_16, zq_18, zq_20, zq_24, zq_30, zq_31, zq_32, zq_38, zq_39, zq_40, zq_41, zq_42, zq_43, zq_45, zq_47, zq_48, zq_57, zq_59, zq_60, zq_61, zq_63, zq_64, zq_96, zq_97, zq_99, zq_100, zq_122, zq_127, zq_255, zq_700, zq_999, zq_1000, zq_1482, zq_4095, zq_9999, zq_10000, zq_20000, zq_20003, zq_32767, zq_100000, zq_m1, nI_add, nI_leI, nI_ltI, nI_eq, zq_sub, pk_mul, zq_ix, zq_a31, zs_shl, zs_shr, zq_tb, fa_or, fa_and, fb_xorI, zq_pm, zq_eM, zq_Me, zq_MM, zq_of, zlt_e, e3]
    exact ih1
theorem k_over (hV : V ≤ 8) (h8 : zI h p 8 = nI V) (hT : ∀ v, v < V → zI h (p + 2) v = nI (T v)) (hb : ∀ v, v < V → T v < 4096) {b : Nat} (hbb : b < 12) : s_X7_versesOver p (nI b) h = some (nI (qVo T b V)) := k_over_L hV h8 hT hb hbb V 0 zfu (by omega) (zq_fu (by omega))
end SONG
