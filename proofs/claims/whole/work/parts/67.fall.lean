/-! ===== fall ===== -/
/-- 61 (none) is 1000 in the reference -/
def qPs (m : Nat) : Nat := if m = 61 then 1000 else m
section FA
variable {c pp : Nat} {h : zH} {P : zPl} {L : zLg}
theorem k_ff_L {R : Nat} {t : Nat → Nat} (hR : R ≤ 12) (ht : ∀ r, t r ≤ 61) (hg : ∀ r, r < R → zI h 43 r = if t r < 61 then nI (t r) else nM) : ∀ k r n, r + k = R → k < n → s_X1_firstFall_L6 n (nI R) (qFa t r).1 (nI (qFa t r).2) (nI r) h = some (qFa t R).1 := by
  intro k
  induction k with
  | zero =>
    intro r n e hn
    obtain ⟨m, rfl, -⟩ := zq_suc hn
    have e2 : r = R := by omega
    rw [s_X1_firstFall_L6, if_pos (nI_le (by omega) (by omega)), e2]
  | succ k ih =>
    intro r n e hn
    obtain ⟨m, rfl, hm⟩ := zq_suc hn
    have ih1 := ih (r + 1) m (by omega) (by omega)
    have hl := qFa_le t r
    have htr := ht r
    rw [s_X1_firstFall_L6, if_neg (nI_ge (by omega) (by omega)), zq_ix (by omega) (by omega), hg r (by omega), show nI r + 1 = nI (r + 1) from nI_1 r]
    rw [qFa] at ih1
    by_cases q : t r < 61
    · rw [if_pos q]
      rcases Nat.eq_zero_or_pos (t r) with q2 | q2
      · rw [if_neg (fun n => by omega)] at ih1
        rw [q2, if_pos (by decide)]
        exact ih1
      · rw [if_neg (nI_nle q2 (by omega)), zq_ix (by omega) (by omega), hg r (by omega), if_pos q]
        rcases Nat.lt_or_ge (t r) (qFa t r).2 with q3 | q3
        · rw [if_pos ⟨q2, q3⟩] at ih1
          rw [if_neg (nI_ge q3 (by omega)), zq_ix (by omega) (by omega), hg r (by omega), if_pos q]
          exact ih1
        · rw [if_neg (fun n => by omega)] at ih1
          rw [if_pos (nI_le q3 (by omega))]
          exact ih1
    · rw [if_neg (fun n => by omega)] at ih1
      rw [if_neg q, if_pos (show nM ≤ 0 by decide)]
      exact ih1
theorem k_lf_L {R : Nat} {t : Nat → Nat} (hR : R ≤ 12) (ht : ∀ r, t r ≤ 61) (hg : ∀ r, r < R → zI h 43 r = if t r < 61 then nI (t r) else nM) : ∀ k r n, r + k = R → k < n → s_X1_lastFall_L6 n (nI R) (qLa t r).1 (nI (qLa t r).2) (nI r) h = some (qLa t R).1 := by
  intro k
  induction k with
  | zero =>
    intro r n e hn
    obtain ⟨m, rfl, -⟩ := zq_suc hn
    have e2 : r = R := by omega
    rw [s_X1_lastFall_L6, if_pos (nI_le (by omega) (by omega)), e2]
  | succ k ih =>
    intro r n e hn
    obtain ⟨m, rfl, hm⟩ := zq_suc hn
    have ih1 := ih (r + 1) m (by omega) (by omega)
    have hl := qLa_le ht r
    have htr := ht r
    have key : s_X1_lastFall_J21 (s_X1_lastFall_L6 m) (nI R) (qLa t r).1 (nI (qLa t r).2) (nI r) (nI (t r)) h = some (qLa t R).1 := by
      rw [s_X1_lastFall_J21, show nI r + 1 = nI (r + 1) from nI_1 r]
      rw [qLa] at ih1
      rcases Nat.lt_or_ge (qLa t r).2 (t r) with q3 | q3
      · rw [if_pos q3] at ih1
        rw [if_neg (nI_ge q3 (by omega))]
        exact ih1
      · rw [if_neg (by omega)] at ih1
        rw [if_pos (nI_le q3 (by omega))]
        exact ih1
    rw [s_X1_lastFall_L6, if_neg (nI_ge (by omega) (by omega)), zq_ix (by omega) (by omega), hg r (by omega)]
    by_cases q : t r < 61
    · have e1 : ¬ nI (t r) = (-1 : Int32) := fun e => by
        have : (nI (t r) = nM) = False := zq_eM (by omega)
        rw [← this]; exact e
      rw [if_pos q, if_pos e1, zq_ix (by omega) (by omega), hg r (by omega), if_pos q]
      exact key
    · rw [if_neg q, if_neg (fun n => n (show nM = (-1 : Int32) from rfl))]
      have e2 : t r = 61 := by omega
      rw [e2] at key
      exact key
/-- what the reference looks for: the least (0), the most (1) -/
def qFL (y : Nat) (t : Nat → Nat) (r : Nat) : Int32 × Nat := if y = 0 then qFa t r else qLa t r
theorem qFL_0 (t : Nat → Nat) (r : Nat) : qFL 0 t r = qFa t r := if_pos rfl
theorem qFL_1 (t : Nat → Nat) (r : Nat) : qFL 1 t r = qLa t r := if_neg (by decide)
theorem k_fM_L (w : zRel c h pp P L) {y : Nat} (hy : y < 2) : ∀ k r n h, r + k = pR P → k < n → zRel c h pp P L → ∃ h', s_X11_fall_L23 n (nI y) (qFL y (qGt P (lS L)) r).1 (nI (qPs (qFL y (qGt P (lS L)) r).2)) (nI r) h = some ((qFL y (qGt P (lS L)) (pR P)).1, h') ∧ zI h' 52 4 = zI h 52 4 ∧ zfr zScr h h' := by
  have hR := w.2.1.1
  intro k
  induction k with
  | zero =>
    intro r n h e hn w
    obtain ⟨m, rfl, -⟩ := zq_suc hn
    have e2 : r = pR P := by omega
    refine ⟨h, ?_, rfl, zfr.rf _ h⟩
    rw [s_X11_fall_L23, w.2.2.2.2.1.1, if_pos (nI_le (by omega) (by omega)), e2]
  | succ k ih =>
    intro r n h e hn w
    obtain ⟨m, rfl, hm⟩ := zq_suc hn
    obtain ⟨h1, e1, g1, f1⟩ := r_gone w (r := r) (by omega)
    obtain ⟨h2, e2, g2, f2⟩ := ih (r + 1) m h1 (by omega) (by omega) (w.fr f1)
    have htr := qGt_le P (lS L) r
    have hl1 := qFa_le (qGt P (lS L)) r
    have hl2 := qLa_le (qGt_le P (lS L)) r
    refine ⟨h2, ?_, g2.trans g1, f1.tr f2⟩
    have key : ∀ s, s = qPs (qGt P (lS L) r) → s_X11_fall_J39 (s_X11_fall_L23 m) (nI y) (qFL y (qGt P (lS L)) r).1 (nI (qPs (qFL y (qGt P (lS L)) r).2)) (nI r) (nI s) h1 = some ((qFL y (qGt P (lS L)) (pR P)).1, h2) := by
      intro s hs
      have hs2 : s ≤ 1000 := by rw [hs]; unfold qPs; split <;> omega
      rw [s_X11_fall_J39, show nI r + 1 = nI (r + 1) from nI_1 r]
      have ey : y = 0 ∨ y = 1 := by omega
      rcases ey with ey | ey <;> subst ey
      · simp only [qFL_0] at e2 ⊢
        rw [qFa] at e2
        rcases Nat.eq_zero_or_pos (qGt P (lS L) r) with q | q
        · rw [if_neg (fun n => by omega)] at e2
          rw [if_pos (show nI s = 0 by rw [hs, q]; rfl)]
          exact e2
        · have hsp : 0 < s := by rw [hs]; unfold qPs; split <;> omega
          rw [if_neg (show ¬ nI s = 0 from nI_ne0 hsp (by omega)), if_neg (fun n => n rfl)]
          have hq : (s < qPs (qFa (qGt P (lS L)) r).2) ↔ (qGt P (lS L) r < (qFa (qGt P (lS L)) r).2) := by
            rw [hs]; unfold qPs; split <;> split <;> omega
          have hq2 : qPs (qFa (qGt P (lS L)) r).2 ≤ 1000 := by unfold qPs; split <;> omega
          by_cases q3 : qGt P (lS L) r < (qFa (qGt P (lS L)) r).2
          · rw [if_pos ⟨q, q3⟩] at e2
            rw [if_pos (nI_lt (hq.mpr q3) (by omega)), hs]
            dsimp only at e2
            exact e2
          · rw [if_neg (fun n => q3 n.2)] at e2
            rw [if_neg (nI_nlt (Nat.not_lt.mp (fun n => q3 (hq.mp n))) (by omega))]
            exact e2
      · simp only [qFL_1] at e2 ⊢
        rw [qLa] at e2
        rcases Nat.eq_zero_or_pos (qGt P (lS L) r) with q | q
        · rw [if_neg (fun n => by omega)] at e2
          rw [if_pos (show nI s = 0 by rw [hs, q]; rfl)]
          exact e2
        · have hsp : 0 < s := by rw [hs]; unfold qPs; split <;> omega
          rw [if_neg (show ¬ nI s = 0 from nI_ne0 hsp (by omega)), if_pos (by decide)]
          have hq : (qPs (qLa (qGt P (lS L)) r).2 < s) ↔ ((qLa (qGt P (lS L)) r).2 < qGt P (lS L) r) := by
            rw [hs]; unfold qPs; split <;> split <;> omega
          have hq2 : qPs (qLa (qGt P (lS L)) r).2 ≤ 1000 := by unfold qPs; split <;> omega
          by_cases q3 : (qLa (qGt P (lS L)) r).2 < qGt P (lS L) r
          · rw [if_pos q3] at e2
            rw [if_pos (nI_lt (hq.mpr q3) (by omega)), hs]
            dsimp only at e2
            exact e2
          · rw [if_neg q3] at e2
            rw [if_neg (nI_nlt (Nat.not_lt.mp (fun n => q3 (hq.mp n))) (by omega))]
            exact e2
    rw [s_X11_fall_L23, w.2.2.2.2.1.1, if_neg (nI_ge (by omega) (by omega)), e1, zbd_e, qGa_t]
    by_cases q : qGt P (lS L) r < 61
    · have e9 : ¬ nI (qGt P (lS L) r) = (-1 : Int32) := fun e => by
        have : (nI (qGt P (lS L) r) = nM) = False := zq_eM (by omega)
        rw [← this]; exact e
      rw [if_pos q, if_pos e9]
      exact key _ (by unfold qPs; rw [if_neg (by omega)])
    · rw [if_neg q, if_neg (fun n => n (show nM = (-1 : Int32) from rfl))]
      exact key 1000 (by unfold qPs; rw [if_pos (by omega)])
theorem c_fall (w : zRel c h pp P L) (x : Int32) : zCall c h pp P (s_L_fall pp x 90 1 h) (s_X11_fall x) := by
  show zCall c h pp P (zHa (s_X10_fall pp x h)) (s_X11_fall x)
  have hR := w.2.1.1
  have bad : (x < nI 0 ∨ nI 2 ≤ x) → zCall c h pp P (zHa (s_X10_fall pp x h)) (s_X11_fall x) := by
    intro hx
    refine zCall.i1 (v := nI 0) w (by rw [s_X10_fall, zq_2, n_wha0 hx, zbx_r]) (zAsk.fail (fun h w => ?_))
    rw [show s_X11_isIn x.toInt64 (0 : Int64) (1 : Int64) h = some (nI 0) from k_in0 (a := 0) (b := 1) (hx.imp id zq_lt2) h, ob_e, if_neg (by decide)]
    rfl
  rcases zq_any x 2 (by omega) with hx | hx | ⟨i, hi, rfl⟩
  · exact bad (Or.inl hx)
  · exact bad (Or.inr hx)
  · have gi : ∀ h, s_X11_isIn (nI i).toInt64 (0 : Int64) (1 : Int64) h = some (nI 1) := fun h => k_in1 (a := 0) (b := 1) (by omega) (by omega) (by omega) h
    obtain ⟨h1, e1, w1, q1, f1⟩ := r_fore w
    have e : i = 0 ∨ i = 1 := by omega
    rcases e with e | e <;> subst e
    · refine zCall.of2 (v := (qFL 0 (qGt P (lS L)) (pR P)).1) w1 f1 (by omega) (zL_in ?_).1 (zAsk.go (fun h w k4 => ?_))
      · rw [s_X10_fall, zq_2, n_wha1 hi (by omega), zbx_l, e1, ob_e, if_neg (fun n => n rfl), w1.2.2.2.1.1, s_X1_firstFall, show s_X1_firstFall_L6 zfu (nI (pR P)) (-1) 61 0 h1 = _ from k_ff_L hR (qGt_le P (lS L)) q1.2.2 (pR P) 0 zfu (by omega) (zq_fu (by omega)), ob_e]
        rfl
      · obtain ⟨h2, e2, g2, f2⟩ := k_fM_L w (y := 0) (by omega) (pR P) 0 zfu h (by omega) (zq_fu (by omega)) w
        refine ⟨h2, ?_, g2.trans k4, f2⟩
        rw [gi, ob_e, if_pos (by decide), if_neg (fun n => n rfl)]
        exact e2
    · refine zCall.of2 (v := (qFL 1 (qGt P (lS L)) (pR P)).1) w1 f1 (by omega) (zL_in ?_).1 (zAsk.go (fun h w k4 => ?_))
      · rw [s_X10_fall, zq_2, n_wha1 hi (by omega), zbx_l, e1, ob_e, if_pos (by decide), w1.2.2.2.1.1, s_X1_lastFall, show s_X1_lastFall_L6 zfu (nI (pR P)) (-1) 0 0 h1 = _ from k_lf_L hR (qGt_le P (lS L)) q1.2.2 (pR P) 0 zfu (by omega) (zq_fu (by omega)), ob_e]
        rfl
      · obtain ⟨h2, e2, g2, f2⟩ := k_fM_L w (y := 1) (by omega) (pR P) 0 zfu h (by omega) (zq_fu (by omega)) w
        refine ⟨h2, ?_, g2.trans k4, f2⟩
        rw [gi, ob_e, if_pos (by decide), if_pos (by decide)]
        exact e2
end FA
