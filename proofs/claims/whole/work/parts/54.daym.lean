/-! ===== a day, in the reference ===== -/
theorem q_bg32 (S : Nat → Nat) : qBg S 32 = 0 := by rw [qBg, zu_ne _ _ (by omega), zu_ne _ _ (by omega), zu_eq]
theorem q_bg33 (S : Nat → Nat) : qBg S 33 = 0 := by rw [qBg, zu_ne _ _ (by omega), zu_eq]
theorem q_bg34 (S : Nat → Nat) : qBg S 34 = 0 := by rw [qBg, zu_eq]
theorem q_ks36 (S : Nat → Nat) : qKs S 36 = S 36 + 1 := rfl
theorem q_ks37 (S : Nat → Nat) : qKs S 37 = (if 9 ≤ S 37 + 1 then 9 else S 37 + 1) := rfl
theorem q_ks12 (S : Nat → Nat) : qKs S (12 + 0) = S 34 := rfl
theorem q_ks21 (S : Nat → Nat) : qKs S (21 + 0) = S 35 := rfl
section DM
variable {h : zH} {S : Nat → Nat} {P : zPl}
theorem k_fin_L (K : Nat) (hK : K ≤ 9) : ∀ k n h, k ≤ 8 → k < n → zI h 52 34 = nI K → ∃ h', s_X11_finish_L13 n (nI k) h = some h' ∧ (∀ i, zI h' 66 i = if i = 0 then zI h 52 32 else if i ≤ k then zI h 66 (i - 1) else zI h 66 i) ∧ (∀ i, zI h' 67 i = if i = 0 then zI h 52 29 else if i ≤ k then zI h 67 (i - 1) else zI h 67 i) ∧ zI h' 52 34 = nI (if 9 ≤ K + 1 then 9 else K + 1) ∧ zI h' 52 33 = zI h 52 33 + 1 ∧ zI h' 52 30 = 0 ∧ zI h' 52 31 = 0 ∧ zI h' 52 32 = 0 ∧ zfr (fun b j => (b = 66 ∧ j < 9) ∨ (b = 67 ∧ j < 9) ∨ (b = 52 ∧ 30 ≤ j ∧ j ≤ 34)) h h' := by
  intro k
  induction k with
  | zero =>
    intro n h _ hn h8
    obtain ⟨m, rfl, -⟩ := zq_suc hn
    rw [s_X11_finish_L13, if_pos (by decide)]
    simp only [zlt_e]
    have e8 : zI (zwI (zwI h 66 0 (zI h 52 32)) 67 0 (zI (zwI h 66 0 (zI h 52 32)) 52 29)) 52 34 = nI K := h8
    rw [e8, k_min9 (by omega)]
    refine ⟨_, rfl, fun i => ?_, fun i => ?_, rfl, rfl, rfl, rfl, rfl, ?_⟩
    · show (if i = 0 then zI h 52 32 else zI h 66 i) = _
      by_cases q : i = 0
      · rw [if_pos q, if_pos q]
      · rw [if_neg q, if_neg q, if_neg (by omega)]
    · show (if i = 0 then zI h 52 29 else zI h 67 i) = _
      by_cases q : i = 0
      · rw [if_pos q, if_pos q]
      · rw [if_neg q, if_neg q, if_neg (by omega)]
    · exact ((((((zfr.wI 66 0 _ (by omega)).w 67 0 _ (by omega)).w 52 34 _ (by omega)).w 52 33 _ (by omega)).w 52 30 _ (by omega)).w 52 31 _ (by omega)).w 52 32 _ (by omega)
  | succ k ih =>
    intro n h hk hn h8
    obtain ⟨m, rfl, hm⟩ := zq_suc hn
    have e0 : nI (k + 1) - 1 = nI k := zq_sub (b := 1) (by omega)
    have e1 : nI (k + 1) + (-1) = nI k := pk_m1 k
    rw [s_X11_finish_L13, if_neg (nI_nle (by omega) (by omega)), e0, e1, zq_ix (by omega) (by omega), zq_ix (by omega) (by omega)]
    simp only [zlt_e]
    rw [zq_ix (by omega) (by omega), zq_ix (by omega) (by omega)]
    generalize e9 : zwI (zwI h 66 (k + 1) (zI h 66 k)) 67 (k + 1) (zI (zwI h 66 (k + 1) (zI h 66 k)) 67 k) = h9
    have g0 : ∀ j, zI h9 52 j = zI h 52 j := fun j => by rw [← e9]; rfl
    have g4 : ∀ i, zI h9 66 i = if i = k + 1 then zI h 66 k else zI h 66 i := fun i => by rw [← e9]; rfl
    have g5 : ∀ i, zI h9 67 i = if i = k + 1 then zI h 67 k else zI h 67 i := fun i => by rw [← e9]; rfl
    obtain ⟨h', r1, r2, r3, r4, r5, r5a, r5b, r5c, r6⟩ := ih m h9 (by omega) (by omega) (by rw [g0]; exact h8)
    refine ⟨h', r1, fun i => ?_, fun i => ?_, r4, by rw [r5, g0], r5a, r5b, r5c, ?_⟩
    · rw [r2, g0]
      by_cases q : i = 0
      · rw [if_pos q, if_pos q]
      · rw [if_neg q, if_neg q, g4, g4]
        by_cases q2 : i ≤ k
        · rw [if_pos q2, if_neg (by omega), if_pos (by omega)]
        · rw [if_neg q2]
          by_cases q3 : i = k + 1
          · subst q3; rw [if_pos rfl, if_pos (by omega)]; rfl
          · rw [if_neg q3, if_neg (by omega)]
    · rw [r3, g0]
      by_cases q : i = 0
      · rw [if_pos q, if_pos q]
      · rw [if_neg q, if_neg q, g5, g5]
        by_cases q2 : i ≤ k
        · rw [if_pos q2, if_neg (by omega), if_pos (by omega)]
        · rw [if_neg q2]
          by_cases q3 : i = k + 1
          · subst q3; rw [if_pos rfl, if_pos (by omega)]; rfl
          · rw [if_neg q3, if_neg (by omega)]
    · refine zfr.tr ?_ r6
      rw [← e9]
      exact (zfr.wI 66 (k + 1) _ (by omega)).w 67 (k + 1) _ (by omega)
/-- what a day changes in the reference -/
def zAm : Nat → Nat → Prop := fun b k => (b = 64 ∧ k < 12) ∨ (b = 66 ∧ k < 9) ∨ (b = 67 ∧ k < 9) ∨ b = 69 ∨ b = 70 ∨ (b = 52 ∧ ((29 ≤ k ∧ k ≤ 34) ∨ (39 ≤ k ∧ k ≤ 41)))
theorem k_finM {R : Nat} (hR : R ≤ 12) (s : zSM h R S) (hk : S 37 ≤ 9) : ∃ h', s_X11_finish h = some h' ∧ zSM h' R (qBg (qKs S)) ∧ zI h' 52 39 = nI 1 ∧ zI h' 52 40 = nI (S 34) ∧ zI h' 52 41 = nI (S 32) ∧ zfr zAm h h' := by
  rw [s_X11_finish]
  simp only [zlt_e]
  generalize e3 : zwI (zwI (zwI h 52 39 (1 : Int32)) 52 40 (zI (zwI h 52 39 (1 : Int32)) 52 32)) 52 41 (zI (zwI (zwI h 52 39 (1 : Int32)) 52 40 (zI (zwI h 52 39 (1 : Int32)) 52 32)) 52 30) = h3
  have f3 : zfr (fun b k => b = 52 ∧ 39 ≤ k ∧ k ≤ 41) h h3 := by
    rw [← e3]
    exact ((zfr.wI 52 39 _ (by omega)).w 52 40 _ (by omega)).w 52 41 _ (by omega)
  have s3 : zSM h3 R S := s.fr f3 (fun b k e => by omega)
  have g1 : zI h3 52 39 = nI 1 := by rw [← e3]; rfl
  have g2 : zI h3 52 40 = nI (S 34) := by rw [← e3]; exact s.2.2.2.2.2.1
  have g3 : zI h3 52 41 = nI (S 32) := by rw [← e3]; exact s.2.2.2.1
  obtain ⟨s0, s1, s2, s3', s4, s5, s6, s7, s8, s9⟩ := s3
  obtain ⟨h', r1, r2, r3, r4, r5, ra, rb, rc, r6⟩ := k_fin_L (S 37) hk 8 zfu h3 (by omega) (zq_fu (by omega)) s8
  rw [zq_8, r1]
  refine ⟨h', rfl, ⟨fun r hr => ?_, ?_, ?_, ?_, ?_, ?_, ?_, ?_, ?_, fun i hi => ?_⟩, ?_, ?_, ?_, (f3.mo (fun b k e => by unfold zAm; omega)).tr (r6.mo (fun b k e => by unfold zAm; omega))⟩
  · rw [r6.i (by omega), qBg_o _ (by omega), qKs_o _ (by omega)]; exact s0 r hr
  · rw [r6.i (by omega), qBg_o _ (by omega), qKs_o _ (by omega)]; exact s1
  · rw [r6.i (by omega), qBg_o _ (by omega), qKs_o _ (by omega)]; exact s2
  · rw [ra, q_bg32]; rfl
  · rw [rb, q_bg33]; rfl
  · rw [rc, q_bg34]; rfl
  · rw [r6.i (by omega), qBg_o _ (by omega), qKs_o _ (by omega)]; exact s6
  · rw [r5, s7, qBg_o _ (by omega), q_ks36]; exact nI_1 _
  · rw [r4, qBg_o _ (by omega), q_ks37]
  · have hi2 : i < (if 9 ≤ S 37 + 1 then 9 else S 37 + 1) := by
      rw [qBg_o _ (by omega), q_ks37] at hi
      exact hi
    have hi3 : i ≤ 8 ∧ i ≤ S 37 := by
      split at hi2 <;> omega
    rw [r2, r3, qBg_o _ (by omega), qBg_o _ (by omega)]
    rcases Nat.eq_zero_or_pos i with q | q
    · subst q
      rw [if_pos rfl, if_pos rfl, q_ks12, q_ks21]
      exact ⟨s5, s6⟩
    · rw [if_neg (show ¬ i = 0 by omega), if_neg (show ¬ i = 0 by omega), if_pos (show i ≤ 8 by omega), if_pos (show i ≤ 8 by omega)]
      have := s9 (i - 1) (by omega)
      have e1 : qKs S (12 + i) = S (12 + (i - 1)) := by
        unfold qKs
        rw [if_neg (by omega), if_pos (by omega)]
        congr 1
        omega
      have e2 : qKs S (21 + i) = S (21 + (i - 1)) := by
        unfold qKs
        rw [if_neg (by omega), if_neg (by omega), if_neg (by omega), if_pos (by omega)]
        congr 1
        omega
      rw [e1, e2]
      exact this
  · rw [r6.i (by omega)]; exact g1
  · rw [r6.i (by omega)]; exact g2
  · rw [r6.i (by omega)]; exact g3
theorem k_endM (hP : pOk P) (w : zPM h P) (s : zSM h (pR P) S) (ho : sOk (pR P) S) (h39 : zI h 52 39 = nI 0) : ∃ h', ((s_X11_weave (0 : Int32) h).bind fun h1 => (s_X11_weave (1 : Int32) h1).bind fun h2 => if (zI h2 56 0) ≤ 0 then (zlt (zwI h2 52 29 ((zI h2 52 29) + (1 : Int32))) fun h3 => some h3) else ((s_X11_isAny h2).bind fun v4 => if ¬ v4 = 0 then (zlt (zwI h2 52 29 ((zI h2 52 29) + (1 : Int32))) fun h5 => some h5) else ((s_X11_finish h2).bind fun h6 => zlt (zwI h6 52 29 ((zI h6 52 29) + (1 : Int32))) fun h7 => some h7))) = some h' ∧ zSM h' (pR P) (qEnd P S) ∧ zI h' 52 39 = nI (qDnB P S).toNat ∧ (qDnB P S = true → zI h' 52 40 = nI (qW2 P S 34) ∧ zI h' 52 41 = nI (qW2 P S 32)) ∧ zfr zAm h h' := by
  have hR := hP.1
  obtain ⟨h1, e1, s1, f1⟩ := k_weaveM hP (c := 0) (by omega) w s ho
  have w1 : zPM h1 P := w.fr f1 (fun b k e => by unfold zAw; omega)
  have o1 := qWv_ok hP (c := 0) (by omega) ho
  obtain ⟨h2, e2, s2, f2⟩ := k_weaveM hP (c := 1) (by omega) w1 s1 o1
  have w2 : zPM h2 P := w1.fr f2 (fun b k e => by unfold zAw; omega)
  have o2 := qW2_ok hP ho
  have s2 : zSM h2 (pR P) (qW2 P S) := s2
  have f12 : zfr zAm h h2 := (f1.tr f2).mo (fun b k e => by unfold zAw at e; unfold zAm; omega)
  have g39 : zI h2 52 39 = nI 0 := by rw [(f1.tr f2).i (by unfold zAw; omega)]; exact h39
  rw [show (0 : Int32) = nI 0 from rfl, show (1 : Int32) = nI 1 from rfl, e1]
  simp only [ob_e]
  rw [e2]
  simp only [ob_e]
  have k37 := o2.2.2.2.2.2
  have no : qDnB P S = false → ∃ h', (some (zwI h2 52 29 (zI h2 52 29 + nI 1))) = some h' ∧ zSM h' (pR P) (qEnd P S) ∧ zI h' 52 39 = nI (qDnB P S).toNat ∧ (qDnB P S = true → zI h' 52 40 = nI (qW2 P S 34) ∧ zI h' 52 41 = nI (qW2 P S 32)) ∧ zfr zAm h h' := by
    intro q
    rw [s2.2.2.2.2.2.2.1, nI_add, q]
    refine ⟨_, rfl, ?_, g39, fun n => (by cases n), f12.w 52 29 _ (by unfold zAm; omega)⟩
    have := zSM_day hR k37 s2 (qW2 P S 35 + 1)
    rw [qEnd, if_neg (by rw [q]; decide)]
    exact this
  rw [w2.1]
  rcases Nat.eq_zero_or_pos (pR P) with q | q
  · rw [if_pos (show nI (pR P) ≤ nI 0 by rw [q]; decide)]
    exact no (by unfold qDnB; rw [q]; rfl)
  · rw [if_neg (show ¬ nI (pR P) ≤ nI 0 from nI_nle q (by omega)), k_anyM hP w2 s2 o2]
    simp only [ob_e]
    by_cases q2 : qW2 P S 32 + qW2 P S 33 < pR P
    · rw [if_pos q2, if_pos (by decide)]
      exact no (by unfold qDnB; rw [decide_eq_false (show ¬ pR P ≤ qW2 P S 32 + qW2 P S 33 by omega), Bool.and_false])
    · have qd : qDnB P S = true := by unfold qDnB; rw [decide_eq_true q, decide_eq_true (show pR P ≤ qW2 P S 32 + qW2 P S 33 by omega)]; rfl
      rw [if_neg q2, if_neg (fun n => n rfl)]
      obtain ⟨h6, e6, s6, g1, g2, g3, f6⟩ := k_finM hR s2 k37
      rw [e6]
      simp only [ob_e, zlt_e]
      have e35 : qBg (qKs (qW2 P S)) 35 = qW2 P S 35 := by rw [qBg_o _ (by omega), qKs_o _ (by omega)]
      rw [s6.2.2.2.2.2.2.1, e35, nI_add, qd]
      refine ⟨_, rfl, ?_, g1, fun _ => ⟨g2, g3⟩, (f12.tr f6).w 52 29 _ (by unfold zAm; omega)⟩
      have := zSM_day hR (by rw [qBg_o _ (by omega)]; show (if 9 ≤ qW2 P S 37 + 1 then 9 else qW2 P S 37 + 1) ≤ 9; split <;> omega) s6 (qW2 P S 35 + 1)
      rw [qEnd, if_pos qd]
      exact this
theorem k_day_L (hP : pOk P) : ∀ k r n h S, r + k = pR P → k < n → zPM h P → zSM h (pR P) S → sOk (pR P) S → zI h 52 39 = nI 0 → ∃ h', s_X11_aDay_L5 n (nI r) h = some h' ∧ zSM h' (pR P) (qEnd P (qRx P k r S)) ∧ zI h' 52 39 = nI (qDnB P (qRx P k r S)).toNat ∧ (qDnB P (qRx P k r S) = true → zI h' 52 40 = nI (qW2 P (qRx P k r S) 34) ∧ zI h' 52 41 = nI (qW2 P (qRx P k r S) 32)) ∧ zfr zAm h h' := by
  have hR := hP.1
  intro k
  induction k with
  | zero =>
    intro r n h S e hn w s ho h39
    obtain ⟨m, rfl, -⟩ := zq_suc hn
    rw [s_X11_aDay_L5, w.1, if_pos (nI_le (by omega) (by omega))]
    exact k_endM hP w s ho h39
  | succ k ih =>
    intro r n h S e hn w s ho h39
    obtain ⟨m, rfl, hm⟩ := zq_suc hn
    have b := ho.1 r (by omega)
    rw [s_X11_aDay_L5, w.1, if_neg (nI_ge (by omega) (by omega)), k_goneAt hR s ho (by omega), show nI r + 1 = nI (r + 1) from nI_1 r, qRx]
    simp only [ob_e]
    by_cases q : S r = 0
    · rw [if_pos q, if_pos (by decide), if_pos (Or.inl q)]
      exact ih (r + 1) m h S (by omega) (by omega) w s ho h39
    · rw [if_neg q, if_neg (fun n => n rfl), zq_ix (by omega) (by omega), w.2.2.1 r (by omega)]
      cases hj : (pJ P).testBit r with
      | true =>
        rw [if_pos (by decide), if_pos (Or.inr rfl)]
        exact ih (r + 1) m h S (by omega) (by omega) w s ho h39
      | false =>
        rw [if_neg (fun n => n rfl), if_neg (fun n => n.elim q (fun x => by cases x)), zq_ix (by omega) (by omega), s.1 r (by omega)]
        obtain ⟨h1, e1, f1⟩ := k_rotM hP w s ho (r := r) (by omega)
        rw [e1]
        simp only [zbd_e]
        have hle := qRot_le P S r
        have em : s_J9_max_7cf53 (0 : Int32) (nI (S r) - nI (qRot P S r)) h1 = some (nI (S r - qRot P S r)) := by
          rw [s_J9_max_7cf53]
          rcases Nat.lt_or_ge (qRot P S r) (S r) with q2 | q2
          · rw [zq_sub (by omega), if_pos (show (0 : Int32) < nI (S r - qRot P S r) from nI_lt (a := 0) (by omega) (by omega))]
          · have q3 : ¬ (0 : Int32) < nI (S r) - nI (qRot P S r) := by
              rw [fa_lt, pk_sub_toInt (by omega) (by omega)]
              have : (0 : Int32).toInt = 0 := rfl
              omega
            rw [if_neg q3, show S r - qRot P S r = 0 by omega]; rfl
        rw [em]
        simp only [ob_e]
        rw [zq_ix (by omega) (by omega)]
        simp only [zlt_e]
        have s1 : zSM h1 (pR P) S := s.fr f1 (fun b k e => by omega)
        have s2 := zSM_str hR ho.2.2.2.2.2 s1 (r := r) (by omega) (S r - qRot P S r)
        have f2 : zfr zAm h (zwI h1 64 r (nI (S r - qRot P S r))) := (f1.mo (fun b k e => by unfold zAm; omega)).w 64 r _ (by unfold zAm; omega)
        have w2 : zPM (zwI h1 64 r (nI (S r - qRot P S r))) P := w.fr f2 (fun b k e => by unfold zAm; omega)
        have g39 : zI (zwI h1 64 r (nI (S r - qRot P S r))) 52 39 = nI 0 := by
          rw [zI_wI, if_neg (by omega), f1.i (by omega)]; exact h39
        obtain ⟨h3, e3, s3, g3, g4, f3⟩ := ih (r + 1) m _ _ (by omega) (by omega) w2 s2 (sOk_str hR ho (by omega) (by omega)) g39
        exact ⟨h3, e3, s3, g3, g4, f2.tr f3⟩
theorem k_day (hP : pOk P) (w : zPM h P) (s : zSM h (pR P) S) (ho : sOk (pR P) S) : ∃ h', s_X11_aDay h = some h' ∧ zSM h' (pR P) (qDay P S) ∧ zI h' 52 39 = nI (qDone P S).toNat ∧ (qDone P S = true → zI h' 52 40 = nI (qDg P S) ∧ zI h' 52 41 = nI (qDw P S)) ∧ zfr zAm h h' := by
  have hR := hP.1
  rw [s_X11_aDay]
  simp only [zlt_e]
  have f0 : zfr zAm h (zwI h 52 39 (0 : Int32)) := zfr.wI 52 39 _ (by unfold zAm; omega)
  have w0 : zPM (zwI h 52 39 (0 : Int32)) P := w.fr f0 (fun b k e => by unfold zAm; omega)
  have s0 : zSM (zwI h 52 39 (0 : Int32)) (pR P) S := s.fr (zfr.wI (A := fun b k => b = 52 ∧ k = 39) 52 39 _ (by omega)) (fun b k e => by omega)
  obtain ⟨h3, e3, s3, g3, g4, f3⟩ := k_day_L hP (pR P) 0 zfu _ S (by omega) (zq_fu (by omega)) w0 s0 ho rfl
  exact ⟨h3, e3, s3, g3, g4, f0.tr f3⟩
end DM
