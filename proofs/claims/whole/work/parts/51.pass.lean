/-! ===== pace, weave, a day, in the class ===== -/
/-- a number or none -/
def qON (n v : Nat) : Int32 := if n = 0 then nM else nI v
theorem qON_0 (v : Nat) : qON 0 v = nM := rfl
theorem qON_p {n : Nat} (v : Nat) (h : n ≠ 0) : qON n v = nI v := if_neg h
section PASS
variable {h : zH} {p a : Nat} {S : Nat → Nat} {P : zPl} {c : Nat}
theorem k_pace_end (ha : a = 19 ∨ a = 30) (hp : p = 2 ∨ p = 9) (hP : pOk P) (hc : c < 2) (w : zPC h p P) (s : zSC h a (pR P) S) (ho : sOk (pR P) S) {r l : Nat} (hr : r < pR P) (hq : pD P ≠ []) : ∃ h', s_X9_paceOf_J59 p a (nI c) (nI l) (nI r) h = some (nI (qWa P S c r l), h') ∧ zfr (fun b _ => b = 37 ∨ b = 38) h h' := by
  have hR := hP.1
  obtain ⟨w1, w2, w3, w4, w5, w6⟩ := id w
  rw [s_X9_paceOf_J59, zq_ix (by omega) (by omega)]
  simp (disch := omega) only [zlt, zq_ix]
  generalize e4 : zwI (zwI (zwI h 37 0 (zI h (a + 1) r)) 37 1 (nI r)) 37 2 (zI (zwI (zwI h 37 0 (zI h (a + 1) r)) 37 1 (nI r)) a 6) = h4
  have f4 : zfr (fun b _ => b = 37 ∨ b = 38) h h4 := by
    rw [← e4]
    exact ((zfr.wI 37 0 _ (Or.inl rfl)).w 37 1 _ (Or.inl rfl)).w 37 2 _ (Or.inl rfl)
  have s4 : zSC h4 a (pR P) S := s.fr f4 (fun b k _ _ => by omega)
  have v0 : zI h4 37 0 = nI (S r) := by rw [← e4]; exact s.1 r hr
  have v1 : zI h4 37 1 = nI r := by rw [← e4]; rfl
  have v2 : zI h4 37 2 = nI (S 35) := by
    rw [← e4]
    show zI (zwI (zwI h 37 0 (zI h (a + 1) r)) 37 1 (nI r)) a 6 = _
    rw [zI_wI, if_neg (by omega), zI_wI, if_neg (by omega)]
    exact s.2.2.2.2.2.2.1
  have v3 : zI h4 (a + 2) c = nI (S (30 + c)) := by
    have e : c = 0 ∨ c = 1 := by omega
    rcases e with e | e <;> subst e
    · exact s4.2.1
    · exact s4.2.2.1
  rw [v3]
  generalize e5 : zwI (zwI h4 37 3 (nI (S (30 + c)))) 37 4 (nI l) = h5
  have f5 : zfr (fun b _ => b = 37 ∨ b = 38) h h5 := by
    rw [← e5]
    exact (f4.w 37 3 _ (Or.inl rfl)).w 37 4 _ (Or.inl rfl)
  have w5' : zRu h5 p (p + 6) (pD P) := w6.fr f5 (fun k => ⟨by omega, by omega⟩)
  obtain ⟨h6, e6, f6⟩ := k_eval (by omega) (by omega) hq hP.2.2.2.2.2 w5'
  rw [e6]
  dsimp only [zbd]
  refine ⟨h6, ?_, f5.tr (f6.mo (fun b k e => Or.inr e))⟩
  have e7 : qVal (zI h5 37) (pD P) = qVal (qVw S c r l) (pD P) := by
    refine qVal_vals ((hP.2.2.2.2.2).resolve_left hq).1 (fun i hi => ?_)
    have e8 : i = 0 ∨ i = 1 ∨ i = 2 ∨ i = 3 ∨ i = 4 := by omega
    rcases e8 with e8 | e8 | e8 | e8 | e8 <;> subst e8
    · rw [← e5]; exact v0
    · rw [← e5]; exact v1
    · rw [← e5]; exact v2
    · rw [← e5]; rfl
    · rw [← e5]; rfl
  rw [e7, qWa, if_neg hq]
  exact k_cl2 (m := 5) (by omega) _ h6 (fun v => some (v, h6))
theorem k_pace_L (ha : a = 19 ∨ a = 30) (hp : p = 2 ∨ p = 9) (hP : pOk P) (hc : c < 2) (w : zPC h p P) (s : zSC h a (pR P) S) (ho : sOk (pR P) S) : ∀ j k n, k + j = pR P - S 33 - S 32 → j < n → ∃ h', s_X9_paceOf_L11 p a n (nI c) (nI (qF3 S (S 32) k).1) (qON (qF3 S (S 32) k).1 (qF3 S (S 32) k).2.1) (qON (qF3 S (S 32) k).1 (qF3 S (S 32) k).2.2) (nI (S 32 + k)) h = some (nI (qPace P S c), h') ∧ zfr (fun b _ => b = 37 ∨ b = 38) h h' := by
  have hR := hP.1
  obtain ⟨o0, o1, o2, o3, o4, o5⟩ := id ho
  intro j
  induction j with
  | zero =>
    intro k n e hn
    obtain ⟨m, rfl, -⟩ := zq_suc hn
    have hF := qF3_in S (S 32) k
    have e1 : k = pR P - S 33 - S 32 := by omega
    rw [s_X9_paceOf_L11, w.1, s.2.2.2.2.1, zq_sub (by omega), if_pos (nI_le (by omega) (by omega)), qPace, qBt, ← e1]
    rcases Nat.eq_zero_or_pos (qF3 S (S 32) k).1 with q | q
    · rw [q, if_neg (fun n => n rfl), if_pos rfl]
      exact ⟨h, rfl, zfr.rf _ h⟩
    · have hF2 := hF.2 (by omega)
      rw [if_pos (show ¬ nI (qF3 S (S 32) k).1 = 0 from nI_ne0 q (by omega)), if_neg (show ¬ (qF3 S (S 32) k).1 = 0 by omega), qON_p _ (show (qF3 S (S 32) k).1 ≠ 0 by omega), qON_p _ (show (qF3 S (S 32) k).1 ≠ 0 by omega), w.2.2.2.2.2.1]
      by_cases q2 : pD P = []
      · rw [if_pos q2, if_neg (fun n => n rfl), zq_ix (by omega) (by omega)]
        refine ⟨h, ?_, zfr.rf _ h⟩
        have v3 : zI h (a + 2) c = nI (S (30 + c)) := by
          have e : c = 0 ∨ c = 1 := by omega
          rcases e with e | e <;> subst e
          · exact s.2.1
          · exact s.2.2.1
        have b := sOk_sk ho hc
        have ed : zdv (nI (S (30 + c))) 4 = some (nI (S (30 + c) / 4)) := by
          unfold zdv
          show some (nI (S (30 + c)) / nI 4) = _
          rw [pk_div (by omega) (by omega) (by omega)]
        rw [v3, ed, qWa, if_pos q2]
        show some ((1 : Int32) + nI (S (30 + c) / 4), h) = _
        rw [show (1 : Int32) + nI (S (30 + c) / 4) = nI (1 + S (30 + c) / 4) from nI_add _ _]
      · rw [if_neg q2, if_pos (by decide)]
        have e : c = 0 ∨ c = 1 := by omega
        rcases e with e | e <;> subst e
        · rw [if_neg (fun n => n rfl), if_pos rfl]
          exact k_pace_end ha hp hP (by omega) w s ho (by omega) q2
        · rw [if_pos (by decide), if_neg (by decide)]
          exact k_pace_end ha hp hP (by omega) w s ho (by omega) q2
  | succ j ih =>
    intro k n e hn
    obtain ⟨m, rfl, hm⟩ := zq_suc hn
    have hF := qF3_in S (S 32) k
    have b := o0 (S 32 + k) (by omega)
    have ih1 := ih (k + 1) m (by omega) (by omega)
    rw [s_X9_paceOf_L11, w.1, s.2.2.2.2.1, zq_sub (by omega), if_neg (nI_ge (by omega) (by omega)), zq_ix (by omega) (by omega), s.1 _ (by omega)]
    rw [qF3] at ih1
    rw [show nI (S 32 + k) + 1 = nI (S 32 + (k + 1)) from nI_1 _]
    by_cases q : S (S 32 + k) = 0
    · rw [if_pos q] at ih1
      rw [q, if_pos (by decide)]
      exact ih1
    · rw [if_neg q] at ih1
      rw [if_neg (nI_nle (by omega) (by omega))]
      dsimp only at ih1
      rw [show nI (qF3 S (S 32) k).1 + 1 = nI ((qF3 S (S 32) k).1 + 1) from nI_1 _]
      rw [qON_p _ (show (qF3 S (S 32) k).1 + 1 ≠ 0 by omega), qON_p _ (show (qF3 S (S 32) k).1 + 1 ≠ 0 by omega)] at ih1
      rcases Nat.eq_zero_or_pos (qF3 S (S 32) k).1 with q3 | q3
      · rw [q3, if_pos rfl] at ih1
        rw [q3, qON_0, if_neg (fun n => n (show nM = (-1 : Int32) from rfl))]
        exact ih1
      · have hF2 := hF.2 (by omega)
        rw [if_neg (show ¬ (qF3 S (S 32) k).1 = 0 by omega)] at ih1
        have e1 : ¬ nI (qF3 S (S 32) k).2.1 = (-1 : Int32) := fun e => by
          have : (nI (qF3 S (S 32) k).2.1 = nM) = False := zq_eM (by omega)
          rw [← this]; exact e
        rw [qON_p _ (show (qF3 S (S 32) k).1 ≠ 0 by omega), if_pos e1]
        exact ih1
theorem k_pace (ha : a = 19 ∨ a = 30) (hp : p = 2 ∨ p = 9) (hP : pOk P) (hc : c < 2) (w : zPC h p P) (s : zSC h a (pR P) S) (ho : sOk (pR P) S) : ∃ h', s_X9_paceOf p a (nI c) h = some (nI (qPace P S c), h') ∧ zfr (fun b _ => b = 37 ∨ b = 38) h h' := by
  have hR := hP.1
  rw [s_X9_paceOf, s.2.2.2.1]
  exact k_pace_L ha hp hP hc w s ho (pR P - S 33 - S 32) 0 zfu (by omega) (zq_fu (by omega))
/-- what a day changes in the class -/
def zAd (a : Nat) : Nat → Nat → Prop := fun b _ => (a ≤ b ∧ b ≤ a + 5) ∨ (36 ≤ b ∧ b ≤ 38)
theorem k_weave (ha : a = 19 ∨ a = 30) (hp : p = 2 ∨ p = 9) (hP : pOk P) (hc : c < 2) (w : zPC h p P) (s : zSC h a (pR P) S) (ho : sOk (pR P) S) : ∃ h', s_X9_weave p a (nI c) h = some h' ∧ zSC h' a (pR P) (qWv P S c) ∧ zfr (fun b _ => (a ≤ b ∧ b ≤ a + 5) ∨ b = 37 ∨ b = 38) h h' := by
  have hR := hP.1
  obtain ⟨h1, e1, f1⟩ := k_pace ha hp hP hc w s ho
  have w1 : zPC h1 p P := w.fr f1 (fun b k _ _ => by omega)
  have s1 : zSC h1 a (pR P) S := s.fr f1 (fun b k _ _ => by omega)
  obtain ⟨h2, e2, s2, f2⟩ := k_sk ha hp hP hc (pR P) 0 (qPace P S c) zfu h1 S (by omega) (zq_fu (by omega)) (qPace_le P hc ho) w1 s1 ho (by omega)
  rw [s_X9_weave, e1]
  simp only [zbd]
  exact ⟨h2, e2, s2, (f1.mo (fun b k e => Or.inr e)).tr (f2.mo (fun b k e => Or.inl e))⟩
end PASS
