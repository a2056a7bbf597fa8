/-! ===== a sail is kept; a day, in the class ===== -/
def qKs (S : Nat → Nat) (j : Nat) : Nat := if j = 12 then S 34 else if 12 < j ∧ j ≤ 20 then S (j - 1) else if j = 21 then S 35 else if 21 < j ∧ j ≤ 29 then S (j - 1) else if j = 36 then S 36 + 1 else if j = 37 then (if 9 ≤ S 37 + 1 then 9 else S 37 + 1) else S j
def qBg (S : Nat → Nat) : Nat → Nat := zu (zu (zu S 32 0) 33 0) 34 0
def qW2 (P : zPl) (S : Nat → Nat) : Nat → Nat := qWv P (qWv P S 0) 1
def qDn (P : zPl) (T : Nat → Nat) : Prop := 0 < pR P ∧ pR P ≤ qW2 P T 32 + qW2 P T 33
def qDnB (P : zPl) (T : Nat → Nat) : Bool := decide (0 < pR P) && decide (pR P ≤ qW2 P T 32 + qW2 P T 33)
def qEnd (P : zPl) (T : Nat → Nat) : Nat → Nat := zu (if qDnB P T = true then qBg (qKs (qW2 P T)) else qW2 P T) 35 (qW2 P T 35 + 1)
/-- ribs r and on, k of them, rot -/
def qRx (P : zPl) : Nat → Nat → (Nat → Nat) → (Nat → Nat)
  | 0, _, T => T
  | k + 1, r, T => qRx P k (r + 1) (if T r = 0 ∨ (pJ P).testBit r = true then T else zu T r (T r - qRot P T r))
/-- a day; whether a sail is done in it; its gaps, where west is then -/
def qDay (P : zPl) (S : Nat → Nat) : Nat → Nat := qEnd P (qRx P (pR P) 0 S)
def qDone (P : zPl) (S : Nat → Nat) : Bool := qDnB P (qRx P (pR P) 0 S)
def qDg (P : zPl) (S : Nat → Nat) : Nat := qW2 P (qRx P (pR P) 0 S) 34
def qDw (P : zPl) (S : Nat → Nat) : Nat := qW2 P (qRx P (pR P) 0 S) 32
theorem qW2_ok {P : zPl} (hP : pOk P) {S : Nat → Nat} (h : sOk (pR P) S) : sOk (pR P) (qW2 P S) := qWv_ok hP (by omega) (qWv_ok hP (by omega) h)
theorem qKs_o (S : Nat → Nat) {j : Nat} (h : j < 12 ∨ (29 < j ∧ j ≠ 36 ∧ j ≠ 37)) : qKs S j = S j := by
  unfold qKs
  rw [if_neg (by omega), if_neg (by omega), if_neg (by omega), if_neg (by omega), if_neg (by omega), if_neg (by omega)]
theorem qBg_o (S : Nat → Nat) {j : Nat} (h : j < 32 ∨ 34 < j) : qBg S j = S j := by
  rw [qBg, zu_ne _ _ (by omega), zu_ne _ _ (by omega), zu_ne _ _ (by omega)]
theorem qEnd_ok {P : zPl} (hP : pOk P) {S : Nat → Nat} (h : sOk (pR P) S) : sOk (pR P) (qEnd P S) := by
  have hR := hP.1
  obtain ⟨o0, o1, o2, o3, o4, o5⟩ := qW2_ok hP h
  unfold qEnd
  split
  · refine ⟨fun r hr => ?_, ?_, ?_, ?_, ?_, ?_⟩
    · rw [zu_ne _ _ (by omega), qBg_o _ (by omega), qKs_o _ (by omega)]; exact o0 r hr
    · rw [zu_ne _ _ (by omega), qBg_o _ (by omega), qKs_o _ (by omega)]; exact o1
    · rw [zu_ne _ _ (by omega), qBg_o _ (by omega), qKs_o _ (by omega)]; exact o2
    · rw [zu_ne _ _ (by omega), zu_ne _ _ (by omega)]
      show 0 + 0 ≤ _
      omega
    · rw [zu_ne _ _ (by omega)]
      exact Nat.two_pow_pos _
    · rw [zu_ne _ _ (by omega), qBg_o _ (by omega)]
      show (if 9 ≤ qW2 P S 37 + 1 then 9 else qW2 P S 37 + 1) ≤ 9
      split <;> omega
  · refine ⟨fun r hr => ?_, ?_, ?_, ?_, ?_, ?_⟩
    · rw [zu_ne _ _ (by omega)]; exact o0 r hr
    · rw [zu_ne _ _ (by omega)]; exact o1
    · rw [zu_ne _ _ (by omega)]; exact o2
    · rw [zu_ne _ _ (by omega), zu_ne _ _ (by omega)]; exact o3
    · rw [zu_ne _ _ (by omega)]; exact o4
    · rw [zu_ne _ _ (by omega)]; exact o5
theorem sOk_str {R : Nat} {S : Nat → Nat} (hR : R ≤ 12) (h : sOk R S) {r v : Nat} (hr : r < 12) (hv : v ≤ 99) : sOk R (zu S r v) := by
  obtain ⟨o0, o1, o2, o3, o4, o5⟩ := h
  refine ⟨fun q hq => ?_, ?_, ?_, ?_, ?_, ?_⟩
  · by_cases e : q = r
    · subst e; rw [zu_eq]; exact hv
    · rw [zu_ne _ _ e]; exact o0 q hq
  · rw [zu_ne _ _ (by omega)]; exact o1
  · rw [zu_ne _ _ (by omega)]; exact o2
  · rw [zu_ne _ _ (by omega), zu_ne _ _ (by omega)]; exact o3
  · rw [zu_ne _ _ (by omega)]; exact o4
  · rw [zu_ne _ _ (by omega)]; exact o5
theorem qRx_ok {P : zPl} (hP : pOk P) : ∀ k r T, r + k ≤ pR P → sOk (pR P) T → sOk (pR P) (qRx P k r T) := by
  have hR := hP.1
  intro k
  induction k with
  | zero => intro r T _ h; exact h
  | succ k ih =>
    intro r T hr h
    rw [qRx]
    refine ih _ _ (by omega) ?_
    split
    · exact h
    · have := h.1 r (by omega)
      exact sOk_str hR h (by omega) (by omega)
theorem qDay_ok {P : zPl} (hP : pOk P) {S : Nat → Nat} (h : sOk (pR P) S) : sOk (pR P) (qDay P S) := qEnd_ok hP (qRx_ok hP _ _ _ (by omega) h)
section DAY
variable {h : zH} {p a : Nat} {S : Nat → Nat} {P : zPl}
theorem k_min9 {K : Nat} (hK : K ≤ 100) (h : zH) : s_J9_min_7cf53 (9 : Int32) (nI K + 1) h = some (nI (if 9 ≤ K + 1 then 9 else K + 1)) := by
  rw [s_J9_min_7cf53, show nI K + 1 = nI (K + 1) from nI_1 K]
  rcases Nat.lt_or_ge (K + 1) 9 with q | q
  · rw [if_pos (show nI (K + 1) < 9 from nI_lt (b := 9) q (by omega)), if_neg (show ¬ 9 ≤ K + 1 by omega)]
  · rw [if_neg (show ¬ nI (K + 1) < 9 from nI_nlt (b := 9) q (by omega)), if_pos q]; rfl
theorem k_ks_L (K : Nat) (hK : K ≤ 9) : ∀ k n h, k ≤ 8 → k < n → zI h a 8 = nI K → ∃ h', s_X8_keepSail_L2 a n (nI k) h = some h' ∧ (∀ i, zI h' (a + 4) i = if i = 0 then zI h a 5 else if i ≤ k then zI h (a + 4) (i - 1) else zI h (a + 4) i) ∧ (∀ i, zI h' (a + 5) i = if i = 0 then zI h a 6 else if i ≤ k then zI h (a + 5) (i - 1) else zI h (a + 5) i) ∧ zI h' a 8 = nI (if 9 ≤ K + 1 then 9 else K + 1) ∧ zI h' a 7 = zI h a 7 + 1 ∧ zfr (fun b j => b = a + 4 ∨ b = a + 5 ∨ (b = a ∧ (j = 7 ∨ j = 8))) h h' := by
  intro k
  induction k with
  | zero =>
    intro n h _ hn h8
    obtain ⟨m, rfl, -⟩ := zq_suc hn
    rw [s_X8_keepSail_L2, if_pos (by decide)]
    dsimp only [zlt]
    have e8 : zI (zwI (zwI h (a + 4) 0 (zI h a 5)) (a + 5) 0 (zI (zwI h (a + 4) 0 (zI h a 5)) a 6)) a 8 = nI K := by
      rw [zI_wI, if_neg (by omega), zI_wI, if_neg (by omega)]; exact h8
    rw [e8, k_min9 (by omega)]
    refine ⟨_, rfl, fun i => ?_, fun i => ?_, ?_, ?_, ?_⟩
    · rw [zI_wI, if_neg (by omega), zI_wI, if_neg (by omega), zI_wI, if_neg (by omega), zI_wI, if_pos rfl]
      by_cases q : i = 0
      · rw [if_pos q, if_pos q]
      · rw [if_neg q, if_neg q, if_neg (by omega)]
    · rw [zI_wI, if_neg (by omega), zI_wI, if_neg (by omega), zI_wI, if_pos rfl]
      by_cases q : i = 0
      · rw [if_pos q, if_pos q, zI_wI, if_neg (by omega)]
      · rw [if_neg q, if_neg q, if_neg (by omega), zI_wI, if_neg (by omega)]
    · rw [zI_wI, if_pos rfl, if_neg (by omega), zI_wI, if_pos rfl, if_pos rfl]
    · rw [zI_wI, if_pos rfl, if_pos rfl, zI_wI, if_pos rfl, if_neg (by omega), zI_wI, if_neg (by omega), zI_wI, if_neg (by omega)]
    · exact (((zfr.wI (a + 4) 0 _ (Or.inl rfl)).w (a + 5) 0 _ (Or.inr (Or.inl rfl))).w a 8 _ (Or.inr (Or.inr ⟨rfl, Or.inr rfl⟩))).w a 7 _ (Or.inr (Or.inr ⟨rfl, Or.inl rfl⟩))
  | succ k ih =>
    intro n h hk hn h8
    obtain ⟨m, rfl, hm⟩ := zq_suc hn
    have e0 : nI (k + 1) - 1 = nI k := zq_sub (b := 1) (by omega)
    have e1 : nI (k + 1) + (-1) = nI k := pk_m1 k
    rw [s_X8_keepSail_L2, if_neg (nI_nle (by omega) (by omega)), e0, e1, zq_ix (by omega) (by omega), zq_ix (by omega) (by omega)]
    dsimp only [zlt]
    rw [zq_ix (by omega) (by omega), zq_ix (by omega) (by omega)]
    generalize e9 : zwI (zwI h (a + 4) (k + 1) (zI h (a + 4) k)) (a + 5) (k + 1) (zI (zwI h (a + 4) (k + 1) (zI h (a + 4) k)) (a + 5) k) = h9
    have g0 : ∀ j, zI h9 a j = zI h a j := fun j => by rw [← e9, zI_wI, if_neg (by omega), zI_wI, if_neg (by omega)]
    have g4 : ∀ i, zI h9 (a + 4) i = if i = k + 1 then zI h (a + 4) k else zI h (a + 4) i := fun i => by rw [← e9, zI_wI, if_neg (by omega), zI_wI, if_pos rfl]
    have g5 : ∀ i, zI h9 (a + 5) i = if i = k + 1 then zI h (a + 5) k else zI h (a + 5) i := fun i => by
      rw [← e9, zI_wI, if_pos rfl]
      split
      · rw [zI_wI, if_neg (by omega)]
      · rw [zI_wI, if_neg (by omega)]
    obtain ⟨h', r1, r2, r3, r4, r5, r6⟩ := ih m h9 (by omega) (by omega) (by rw [g0]; exact h8)
    refine ⟨h', r1, fun i => ?_, fun i => ?_, r4, by rw [r5, g0], ?_⟩
    · rw [r2, g0]
      by_cases q : i = 0
      · rw [if_pos q, if_pos q]
      · rw [if_neg q, if_neg q, g4, g4]
        by_cases q2 : i ≤ k
        · rw [if_pos q2, if_neg (by omega), if_pos (by omega)]
        · rw [if_neg q2]
          by_cases q3 : i = k + 1
          · subst q3; rw [if_pos rfl, if_pos (by omega)]; rfl
          · rw [if_neg q3, if_neg (by omega)]
    · rw [r3, g0]
      by_cases q : i = 0
      · rw [if_pos q, if_pos q]
      · rw [if_neg q, if_neg q, g5, g5]
        by_cases q2 : i ≤ k
        · rw [if_pos q2, if_neg (by omega), if_pos (by omega)]
        · rw [if_neg q2]
          by_cases q3 : i = k + 1
          · subst q3; rw [if_pos rfl, if_pos (by omega)]; rfl
          · rw [if_neg q3, if_neg (by omega)]
    · refine zfr.tr ?_ r6
      rw [← e9]
      exact (zfr.wI (a + 4) (k + 1) _ (Or.inl rfl)).w (a + 5) (k + 1) _ (Or.inr (Or.inl rfl))
theorem k_ks {R : Nat} (hR : R ≤ 12) (s : zSC h a R S) (hk : S 37 ≤ 9) : ∃ h', s_X8_keepSail a h = some h' ∧ zSC h' a R (qKs S) ∧ zfr (fun b _ => a ≤ b ∧ b ≤ a + 5) h h' := by
  obtain ⟨s0, s1, s2, s3, s4, s5, s6, s7, s8, s9⟩ := s
  obtain ⟨h', r1, r2, r3, r4, r5, r6⟩ := k_ks_L (a := a) (S 37) hk 8 zfu h (by omega) (zq_fu (by omega)) s8
  refine ⟨h', r1, ⟨fun r hr => ?_, ?_, ?_, ?_, ?_, ?_, ?_, ?_, ?_, fun i hi => ?_⟩, r6.mo (fun b k e => by omega)⟩
  · rw [r6.i (by omega), qKs_o _ (by omega)]; exact s0 r hr
  · rw [r6.i (by omega)]; exact s1
  · rw [r6.i (by omega)]; exact s2
  · rw [r6.i (by omega)]; exact s3
  · rw [r6.i (by omega)]; exact s4
  · rw [r6.i (by omega)]; exact s5
  · rw [r6.i (by omega)]; exact s6
  · rw [r5, s7]; exact nI_1 _
  · rw [r4]; rfl
  · have hi2 : i < (if 9 ≤ S 37 + 1 then 9 else S 37 + 1) := hi
    have hi3 : i ≤ 8 ∧ i ≤ S 37 := by
      split at hi2 <;> omega
    rw [r2, r3]
    rcases Nat.eq_zero_or_pos i with q | q
    · subst q
      rw [if_pos rfl, if_pos rfl]
      exact ⟨s5, s6⟩
    · rw [if_neg (show ¬ i = 0 by omega), if_neg (show ¬ i = 0 by omega), if_pos (show i ≤ 8 by omega), if_pos (show i ≤ 8 by omega)]
      have := s9 (i - 1) (by omega)
      have e1 : qKs S (12 + i) = S (12 + (i - 1)) := by
        unfold qKs
        rw [if_neg (by omega), if_pos (by omega)]
        congr 1
        omega
      have e2 : qKs S (21 + i) = S (21 + (i - 1)) := by
        unfold qKs
        rw [if_neg (by omega), if_neg (by omega), if_neg (by omega), if_pos (by omega)]
        congr 1
        omega
      rw [e1, e2]
      exact this
theorem k_bg {R : Nat} (hR : R ≤ 12) (s : zSC h a R S) (hk : S 37 ≤ 9) : ∃ h', s_X8_beginSail a h = some h' ∧ zSC h' a R (qBg S) ∧ zfr (fun b _ => a ≤ b ∧ b ≤ a + 5) h h' := by
  have t1 := zSC_pa0 hR hk s 0
  have t2 := zSC_pa1 hR (by rw [zu_ne _ _ (by omega)]; exact hk) t1 0
  have t3 := zSC_gap hR (by rw [zu_ne _ _ (by omega), zu_ne _ _ (by omega)]; exact hk) t2 0
  exact ⟨_, rfl, t3, ((zfr.wI (a + 3) 0 _ ⟨by omega, by omega⟩).w (a + 3) 1 _ ⟨by omega, by omega⟩).w a 5 _ ⟨by omega, by omega⟩⟩
theorem k_jaw {h : zH} {p J : Nat} (hj : zI h p 7 = nI J) (hJ : J < 4096) {r : Nat} (hr : r < 12) : s_X3_isJaw p (nI r) h = some (nI (J.testBit r).toNat) := by
  rw [s_X3_isJaw, hj]
  simp (disch := omega) only [zq_0, zq_1, zq_2, zq_3, zq_4, zq_5, zq_6, zq_7, zq_8, zq_9, zq_10, zq_12, zq_13, zq_16, zq_18, zq_20, zq_24, zq_30, zq_31, zq_32, zq_38, zq_39, zq_40, zq_41, zq_42, zq_43, zq_45, zq_47, zq_48, zq_57, zq_59, zq_60, zq_61, zq_63, zq_64, zq_96, zq_97, zq_99, zq_100, zq_122, zq_127, zq_255, zq_700, zq_999, zq_1000, zq_1482, zq_4095, zq_9999, zq_10000, zq_20000, zq_20003, zq_32767, zq_100000, zq_m1, nI_add, nI_leI, nI_ltI, nI_eq, zq_sub, pk_mul, zq_ix, zq_a31, zs_shl, zs_shr, zq_tb, fa_or, fa_and, fb_xorI, zq_pm, zq_eM, zq_Me, zq_MM, zq_of, zlt_e]
  cases J.testBit r <;> rfl
/-- the day's end in the class -/
theorem k_end (ha : a = 19 ∨ a = 30) (hp : p = 2 ∨ p = 9) (hP : pOk P) (w : zPC h p P) (s : zSC h a (pR P) S) (ho : sOk (pR P) S) : ∃ h', ((s_X9_weave p a (0 : Int32) h).bind fun h1 => (s_X9_weave p a (1 : Int32) h1).bind fun h2 => if (zI h2 p 6) ≤ 0 then (s_X9_pass_J54 p a (0 : Int32) h2) else ((s_X9_someBetween p a h2).bind fun v3 => if ¬ v3 = 0 then (s_X9_pass_J54 p a (0 : Int32) h2) else (s_X9_pass_J54 p a (1 : Int32) h2))) = some (nI (qDnB P S).toNat, h') ∧ zSC h' a (pR P) (qEnd P S) ∧ (qDnB P S = true → zI h' 36 2 = nI (qW2 P S 34) ∧ zI h' 36 3 = nI (qW2 P S 32)) ∧ zfr (zAd a) h h' := by
  have hR := hP.1
  obtain ⟨h1, e1, s1, f1⟩ := k_weave ha hp hP (c := 0) (by omega) w s ho
  have w1 : zPC h1 p P := w.fr f1 (fun b k _ _ => by omega)
  have o1 := qWv_ok hP (c := 0) (by omega) ho
  obtain ⟨h2, e2, s2, f2⟩ := k_weave ha hp hP (c := 1) (by omega) w1 s1 o1
  have w2 : zPC h2 p P := w1.fr f2 (fun b k _ _ => by omega)
  have o2 := qW2_ok hP ho
  have s2 : zSC h2 a (pR P) (qW2 P S) := s2
  have f12 : zfr (zAd a) h h2 := (f1.tr f2).mo (fun b k e => by unfold zAd; omega)
  rw [show (0 : Int32) = nI 0 from rfl, show (1 : Int32) = nI 1 from rfl, e1]
  simp only [Option.bind]
  rw [e2]
  simp only [Option.bind]
  have k37 := o2.2.2.2.2.2
  -- no sail
  have no : qDnB P S = false → ∃ h', s_X9_pass_J54 p a (nI 0) h2 = some (nI (qDnB P S).toNat, h') ∧ zSC h' a (pR P) (qEnd P S) ∧ (qDnB P S = true → zI h' 36 2 = nI (qW2 P S 34) ∧ zI h' 36 3 = nI (qW2 P S 32)) ∧ zfr (zAd a) h h' := by
    intro q
    rw [s_X9_pass_J54, if_pos (show nI 0 = 0 from rfl), s_X9_pass_J71]
    dsimp only [zlt]
    rw [s2.2.2.2.2.2.2.1, show nI (qW2 P S 35) + 1 = nI (qW2 P S 35 + 1) from nI_1 _, q]
    refine ⟨_, rfl, ?_, fun n => (by cases n), f12.w a 6 _ (by unfold zAd; omega)⟩
    have := zSC_day hR k37 s2 (qW2 P S 35 + 1)
    rw [qEnd, if_neg (by rw [q]; decide)]
    exact this
  have yes : qDnB P S = true → ∃ h', s_X9_pass_J54 p a (nI 1) h2 = some (nI (qDnB P S).toNat, h') ∧ zSC h' a (pR P) (qEnd P S) ∧ (qDnB P S = true → zI h' 36 2 = nI (qW2 P S 34) ∧ zI h' 36 3 = nI (qW2 P S 32)) ∧ zfr (zAd a) h h' := by
    intro q
    rw [s_X9_pass_J54, if_neg (show ¬ nI 1 = 0 by decide)]
    dsimp only [zlt]
    generalize e3 : zwI (zwI h2 36 2 (zI h2 a 5)) 36 3 (zI (zwI h2 36 2 (zI h2 a 5)) (a + 3) 0) = h3
    have f3 : zfr (fun b _ => b = 36) h2 h3 := by
      rw [← e3]
      exact (zfr.wI 36 2 _ rfl).w 36 3 _ rfl
    have s3 : zSC h3 a (pR P) (qW2 P S) := s2.fr f3 (fun b k _ _ => by omega)
    have g2 : zI h3 36 2 = nI (qW2 P S 34) := by rw [← e3]; exact s2.2.2.2.2.2.1
    have g3 : zI h3 36 3 = nI (qW2 P S 32) := by
      rw [← e3, zI_wI, if_pos rfl, if_pos rfl, zI_wI, if_neg (by omega)]
      exact s2.2.2.2.1
    obtain ⟨h4, e4, s4, f4⟩ := k_ks hR s3 k37
    rw [e4]
    simp only [Option.bind]
    obtain ⟨h5, e5, s5, f5⟩ := k_bg hR s4 (by show (if 9 ≤ qW2 P S 37 + 1 then 9 else qW2 P S 37 + 1) ≤ 9; split <;> omega)
    rw [e5]
    simp only [Option.bind]
    rw [s_X9_pass_J71]
    dsimp only [zlt]
    have e35 : qBg (qKs (qW2 P S)) 35 = qW2 P S 35 := by rw [qBg_o _ (by omega), qKs_o _ (by omega)]
    rw [s5.2.2.2.2.2.2.1, e35, show nI (qW2 P S 35) + 1 = nI (qW2 P S 35 + 1) from nI_1 _, q]
    refine ⟨_, rfl, ?_, fun _ => ⟨?_, ?_⟩, ?_⟩
    · have := zSC_day hR (by rw [qBg_o _ (by omega)]; show (if 9 ≤ qW2 P S 37 + 1 then 9 else qW2 P S 37 + 1) ≤ 9; split <;> omega) s5 (qW2 P S 35 + 1)
      rw [qEnd, if_pos q]
      exact this
    · rw [zI_wI, if_neg (by omega), f5.i (by omega), f4.i (by omega)]; exact g2
    · rw [zI_wI, if_neg (by omega), f5.i (by omega), f4.i (by omega)]; exact g3
    · exact (((f12.tr (f3.mo (fun b k e => by unfold zAd; omega))).tr (f4.mo (fun b k e => by unfold zAd; omega))).tr (f5.mo (fun b k e => by unfold zAd; omega))).w a 6 _ (by unfold zAd; omega)
  rw [w2.1]
  rcases Nat.eq_zero_or_pos (pR P) with q | q
  · rw [if_pos (show nI (pR P) ≤ nI 0 by rw [q]; decide)]
    exact no (by unfold qDnB; rw [q]; rfl)
  · rw [if_neg (show ¬ nI (pR P) ≤ nI 0 from nI_nle q (by omega)), k_any hP w2 s2 o2]
    simp only [Option.bind]
    by_cases q2 : qW2 P S 32 + qW2 P S 33 < pR P
    · rw [if_pos q2, if_pos (by decide)]
      exact no (by unfold qDnB; rw [decide_eq_false (show ¬ pR P ≤ qW2 P S 32 + qW2 P S 33 by omega), Bool.and_false])
    · rw [if_neg q2, if_neg (fun n => n rfl)]
      exact yes (by unfold qDnB; rw [decide_eq_true q, decide_eq_true (show pR P ≤ qW2 P S 32 + qW2 P S 33 by omega)]; rfl)
theorem k_pass_L (ha : a = 19 ∨ a = 30) (hp : p = 2 ∨ p = 9) (hP : pOk P) : ∀ k r n h S, r + k = pR P → k < n → zPC h p P → zSC h a (pR P) S → sOk (pR P) S → ∃ h', s_X9_pass_L2 p a n (nI r) h = some (nI (qDnB P (qRx P k r S)).toNat, h') ∧ zSC h' a (pR P) (qEnd P (qRx P k r S)) ∧ (qDnB P (qRx P k r S) = true → zI h' 36 2 = nI (qW2 P (qRx P k r S) 34) ∧ zI h' 36 3 = nI (qW2 P (qRx P k r S) 32)) ∧ zfr (zAd a) h h' := by
  have hR := hP.1
  intro k
  induction k with
  | zero =>
    intro r n h S e hn w s ho
    obtain ⟨m, rfl, -⟩ := zq_suc hn
    rw [s_X9_pass_L2, w.1, if_pos (nI_le (by omega) (by omega))]
    exact k_end ha hp hP w s ho
  | succ k ih =>
    intro r n h S e hn w s ho
    obtain ⟨m, rfl, hm⟩ := zq_suc hn
    have b := ho.1 r (by omega)
    rw [s_X9_pass_L2, w.1, if_neg (nI_ge (by omega) (by omega)), zq_ix (by omega) (by omega), s.1 r (by omega), show nI r + 1 = nI (r + 1) from nI_1 r, qRx]
    by_cases q : S r = 0
    · rw [q, if_pos (by decide), if_pos (Or.inl rfl)]
      exact ih (r + 1) m h S (by omega) (by omega) w s ho
    · rw [if_neg (nI_nle (by omega) (by omega)), k_jaw w.2.1 hP.2.2.1 (by omega)]
      simp only [Option.bind]
      cases hj : (pJ P).testBit r with
      | true =>
        rw [if_pos (by decide), if_pos (Or.inr rfl)]
        exact ih (r + 1) m h S (by omega) (by omega) w s ho
      | false =>
        rw [if_neg (fun n => n rfl), if_neg (fun n => n.elim q (fun x => by cases x)), zq_ix (by omega) (by omega)]
        obtain ⟨h1, e1, f1⟩ := k_rot (by omega) ha hP w s ho (r := r) (by omega)
        rw [e1]
        simp only [zbd]
        have hle := qRot_le P S r
        have em : s_J9_max_7cf53 (0 : Int32) (nI (S r) - nI (qRot P S r)) h1 = some (nI (S r - qRot P S r)) := by
          rw [s_J9_max_7cf53]
          rcases Nat.lt_or_ge (qRot P S r) (S r) with q2 | q2
          · rw [zq_sub (by omega), if_pos (show (0 : Int32) < nI (S r - qRot P S r) from nI_lt (a := 0) (by omega) (by omega))]
          · have q3 : ¬ (0 : Int32) < nI (S r) - nI (qRot P S r) := by
              rw [fa_lt, pk_sub_toInt (by omega) (by omega)]
              have : (0 : Int32).toInt = 0 := rfl
              omega
            rw [if_neg q3, show S r - qRot P S r = 0 by omega]; rfl
        rw [s.1 r (by omega), em]
        simp only [Option.bind]
        rw [zq_ix (by omega) (by omega)]
        dsimp only [zlt]
        have s1 : zSC h1 a (pR P) S := s.fr f1 (fun b k _ _ => by omega)
        have s2 := zSC_str hR ho.2.2.2.2.2 s1 (r := r) (by omega) (S r - qRot P S r)
        have f2 : zfr (zAd a) h (zwI h1 (a + 1) r (nI (S r - qRot P S r))) := (f1.mo (fun b k e => by unfold zAd; omega)).w (a + 1) r _ (by unfold zAd; omega)
        have w2 : zPC (zwI h1 (a + 1) r (nI (S r - qRot P S r))) p P := w.fr f2 (fun b k _ _ => by unfold zAd; omega)
        obtain ⟨h3, e3, s3, g3, f3⟩ := ih (r + 1) m _ _ (by omega) (by omega) w2 s2 (sOk_str hR ho (by omega) (by omega))
        exact ⟨h3, e3, s3, g3, f2.tr f3⟩
theorem k_pass (ha : a = 19 ∨ a = 30) (hp : p = 2 ∨ p = 9) (hP : pOk P) (w : zPC h p P) (s : zSC h a (pR P) S) (ho : sOk (pR P) S) : ∃ h', s_X9_pass p a h = some (nI (qDone P S).toNat, h') ∧ zSC h' a (pR P) (qDay P S) ∧ (qDone P S = true → zI h' 36 2 = nI (qDg P S) ∧ zI h' 36 3 = nI (qDw P S)) ∧ zfr (zAd a) h h' := by
  have hR := hP.1
  exact k_pass_L ha hp hP (pR P) 0 zfu h S (by omega) (zq_fu (by omega)) w s ho
end DAY
