/-! ===== gone, done, widest, fall, dating, before ===== -/
theorem zq_ltw {x : Int32} {n : Nat} (hn : n + 1 < 2 ^ 31) (h : nI (n + 1) ≤ x) : nI n < x := by
  rw [fa_le] at h
  rw [fa_lt]
  rw [nI_toInt (by omega)] at h ⊢
  omega
/-- the sail with fewest gaps: which, how many -/
def qWd (g : Nat → Nat) : Nat → Int32 × Nat
  | 0 => (nM, 13)
  | i + 1 => if qPc (g i) < (qWd g i).2 then (nI (i + 1), qPc (g i)) else qWd g i
theorem qWd_in (g : Nat → Nat) : ∀ i, (i = 0 ∧ (qWd g i).1 = nM ∧ (qWd g i).2 = 13) ∨ ∃ b, b < i ∧ (qWd g i).1 = nI (b + 1) ∧ (qWd g i).2 = qPc (g b) := by
  intro i
  induction i with
  | zero => exact Or.inl ⟨rfl, rfl, rfl⟩
  | succ i ih =>
    have hp := qPc_le (g i)
    rw [qWd]
    split
    · exact Or.inr ⟨i, by omega, rfl, rfl⟩
    · rename_i q
      rcases ih with ⟨q1, q2, q3⟩ | ⟨b, b1, b2, b3⟩
      · omega
      · exact Or.inr ⟨b, by omega, b2, b3⟩
/-- the first, the last sail of given gaps, of n -/
def qFw (g : Nat → Nat) (x : Int32) (n : Nat) : Int32 := if fa_first (fun i => decide (nI (g i) = x)) n < n then nI (fa_first (fun i => decide (nI (g i) = x)) n + 1) else nM
def qLw (g : Nat → Nat) (x : Int32) : Nat → Int32
  | 0 => nM
  | i + 1 => if nI (g i) = x then nI (i + 1) else qLw g x i
/-- of t: the least that isn't 0 and below 61; the most -/
def qFa (t : Nat → Nat) : Nat → Int32 × Nat
  | 0 => (nM, 61)
  | r + 1 => if 0 < t r ∧ t r < (qFa t r).2 then (nI r, t r) else qFa t r
def qLa (t : Nat → Nat) : Nat → Int32 × Nat
  | 0 => (nM, 0)
  | r + 1 => if (qLa t r).2 < t r then (nI r, t r) else qLa t r
def qGt (P : zPl) (S : Nat → Nat) (r : Nat) : Nat := fa_first (fun t => decide (qIt P S t r = 0)) 61
theorem qGt_le (P : zPl) (S : Nat → Nat) (r : Nat) : qGt P S r ≤ 61 := fa_first_le _ 61
theorem qGa_t (P : zPl) (S : Nat → Nat) (r : Nat) : qGa P S r 61 = if qGt P S r < 61 then nI (qGt P S r) else nM := rfl
theorem qFa_le (t : Nat → Nat) : ∀ r, (qFa t r).2 ≤ 61 := by
  intro r
  induction r with
  | zero => exact Nat.le_refl _
  | succ r ih =>
    rw [qFa]
    split
    · show t r ≤ 61; omega
    · exact ih
theorem qLa_le {t : Nat → Nat} (h : ∀ r, t r ≤ 61) : ∀ r, (qLa t r).2 ≤ 61 := by
  intro r
  induction r with
  | zero => exact Nat.zero_le _
  | succ r ih =>
    rw [qLa]
    split
    · exact h r
    · exact ih
section SA
variable {c pp : Nat} {h : zH} {P : zPl} {L : zLg}
theorem c_gone (w : zRel c h pp P L) (x : Int32) : zCall c h pp P (s_L_gone pp x 90 1 h) (s_X11_gone x) := by
  show zCall c h pp P (zHa (s_X10_gone pp x h)) (s_X11_gone x)
  have hP := w.2.1
  have hR := hP.1
  have bad : (x < nI 0 ∨ nI (pR P) ≤ x) → zCall c h pp P (zHa (s_X10_gone pp x h)) (s_X11_gone x) := by
    intro hx
    refine zCall.i1 (v := nI 0) w (by rw [s_X10_gone, n_rib0 w hx, zbx_r]) (zAsk.fail (fun h w => ?_))
    rw [r_rib0 w hx, ob_e, if_pos (show nI 0 = 0 from rfl)]
    rfl
  rcases zq_any x (pR P) (by omega) with hx | hx | ⟨j, hj, rfl⟩
  · exact bad (Or.inl hx)
  · exact bad (Or.inr hx)
  · obtain ⟨h1, e1, w1, q1, f1⟩ := r_fore w
    refine zCall.of2 (v := qGa P (lS L) j 61) w1 f1 (by omega) (zL_in (by rw [s_X10_gone, n_rib1 w hj, zbx_l, e1, ob_e, zq_ix (by omega) (by omega), q1.2.2 j hj])).1 (zAsk.go (fun h w k4 => ?_))
    obtain ⟨h2, e2, g2, f2⟩ := r_gone w hj
    exact ⟨h2, by rw [r_rib1 w hj, ob_e, if_neg (by decide), e2, zbd_e], g2.trans k4, f2⟩
theorem c_done (w : zRel c h pp P L) (x y : Int32) : zCall c h pp P (s_L_done pp x y 90 1 h) (s_X11_done x y) := by
  show zCall c h pp P (zHb (s_X10_done pp x y h)) (s_X11_done x y)
  have hP := w.2.1
  have hN := qNs_le P (lS L) 60
  have bad : (y < nI 0 ∨ nI 3 ≤ y) → zCall c h pp P (zHb (s_X10_done pp x y h)) (s_X11_done x y) := by
    intro hx
    refine zCall.j1 (v := nI 0) w (by rw [s_X10_done, zq_3, n_wha0 hx, zbx_r]) (zAsk.fail (fun h w => ?_))
    rw [show (0 : Int64) = (nI 0).toInt64 from rfl, show (2 : Int64) = (nI 2).toInt64 from rfl, k_in0 (hx.imp id zq_lt3), ob_e, if_neg (by decide)]
    rfl
  rcases zq_any y 3 (by omega) with hx | hx | ⟨i, hi, rfl⟩
  · exact bad (Or.inl hx)
  · exact bad (Or.inr hx)
  · have gi : ∀ h, s_X11_isIn (nI i).toInt64 (0 : Int64) (2 : Int64) h = some (nI 1) := fun h => k_in1 (a := 0) (b := 2) (by omega) (by omega) (by omega) h
    rcases zq_with x 1 60 (by omega) (by omega) with hy | ⟨d, hd1, hd, rfl⟩
    · refine zCall.j0 (v := nI 0) w (by rw [s_X10_done, zq_3, n_wha1 hi (by omega), zbx_l, zq_1, zq_60, n_wit0 hy, zbx_r]) (zAsk.fail (fun h w => ?_))
      rw [gi, ob_e, if_pos (by decide), show (1 : Int64) = (nI 1).toInt64 from rfl, show (60 : Int64) = (nI 60).toInt64 from rfl, k_in0 hy, ob_e, if_neg (by decide)]
      rfl
    · have gd : ∀ h, s_X11_isIn (nI d).toInt64 (1 : Int64) (60 : Int64) h = some (nI 1) := fun h => k_in1 (a := 1) (b := 60) hd1 hd (by omega) h
      have ed : nI d - 1 = nI (d - 1) := zq_sub (b := 1) (by omega)
      obtain ⟨h1, e1, w1, q1, f1⟩ := r_fore w
      have ex : s_X10_done pp (nI d) (nI i) h = (if nI d ≤ zI h1 39 4 then (if nI i = 0 then (zix (nI d - (1 : Int32)) 60 fun i6 => some (Sum.inl (zI h1 40 i6), h1)) else if nI i = 1 then (zix (nI d - (1 : Int32)) 60 fun i7 => some (Sum.inl (zI h1 41 i7), h1)) else (zix (nI d - (1 : Int32)) 60 fun i8 => some (Sum.inl (zI h1 42 i8), h1))) else (some (Sum.inl (-1 : Int32), h1))) := by
        rw [s_X10_done, zq_3, n_wha1 hi (by omega), zbx_l, show (1 : Int32) = nI 1 from rfl, zq_60, n_wit1 hd1 hd (by omega), zbx_l, e1, ob_e]
      rw [q1.1, ed] at ex
      rcases Nat.lt_or_ge (qNs P (lS L) 60) d with q | q
      · refine zCall.of2 (v := nM) w1 f1 (by omega) (zL_in (by rw [ex, if_neg (nI_ge q (by omega))]; rfl)).2.1 (zAsk.go (fun h w k4 => ?_))
        obtain ⟨h2, e2, a1, a2, g2, f2⟩ := r_tell w
        refine ⟨h2, ?_, g2.trans k4, f2⟩
        rw [gi, ob_e, if_pos (by decide), gd, ob_e, if_pos (by decide), e2, ob_e, a1, if_neg (nI_ge q (by omega))]
        rfl
      · obtain ⟨b1, b2, b3⟩ := qSr_at q1.2.1 (k := d - 1) (by omega)
        have e : i = 0 ∨ i = 1 ∨ i = 2 := by omega
        rcases e with e | e | e <;> subst e
        · refine zCall.of2 (v := nI (qTk P (lS L) (d - 1) + 1)) w1 f1 (by omega) (zL_in (by rw [ex, if_pos (nI_le q (by omega)), if_pos (show nI 0 = 0 from rfl), zq_ix (by omega) (by omega), b1])).2.1 (zAsk.go (fun h w k4 => ?_))
          obtain ⟨h2, e2, a1, a2, g2, f2⟩ := r_tell w
          refine ⟨h2, ?_, g2.trans k4, f2⟩
          rw [gi, ob_e, if_pos (by decide), gd, ob_e, if_pos (by decide), e2, ob_e, a1, if_pos (nI_le q (by omega)), if_neg (fun n => n rfl), ed, zq_ix (by omega) (by omega), (qSr_at a2 (k := d - 1) (by omega)).1]
        · refine zCall.of2 (v := nI (qGk P (lS L) (d - 1))) w1 f1 (by omega) (zL_in (by rw [ex, if_pos (nI_le q (by omega)), if_neg (by decide), if_pos (show nI 1 = 1 from rfl), zq_ix (by omega) (by omega), b2])).2.1 (zAsk.go (fun h w k4 => ?_))
          obtain ⟨h2, e2, a1, a2, g2, f2⟩ := r_tell w
          refine ⟨h2, ?_, g2.trans k4, f2⟩
          rw [gi, ob_e, if_pos (by decide), gd, ob_e, if_pos (by decide), e2, ob_e, a1, if_pos (nI_le q (by omega)), if_pos (by decide), if_neg (fun n => n rfl), ed, zq_ix (by omega) (by omega), (qSr_at a2 (k := d - 1) (by omega)).2.1]
        · refine zCall.of2 (v := nI (qDw P (qIt P (lS L) (qTk P (lS L) (d - 1))))) w1 f1 (by omega) (zL_in (by rw [ex, if_pos (nI_le q (by omega)), if_neg (by decide), if_neg (by decide), zq_ix (by omega) (by omega), b3])).2.1 (zAsk.go (fun h w k4 => ?_))
          obtain ⟨h2, e2, a1, a2, g2, f2⟩ := r_tell w
          refine ⟨h2, ?_, g2.trans k4, f2⟩
          rw [gi, ob_e, if_pos (by decide), gd, ob_e, if_pos (by decide), e2, ob_e, a1, if_pos (nI_le q (by omega)), if_pos (by decide), if_pos (by decide), ed, zq_ix (by omega) (by omega), (qSr_at a2 (k := d - 1) (by omega)).2.2]
theorem qGk_lt (w : zRel c h pp P L) (k : Nat) : qGk P (lS L) k < 4096 := qDg_lt w.2.1 (qIt_ok w.2.1 w.2.2.1.1.1 _)
theorem k_wd_L {N : Nat} {g : Nat → Nat} (hN : N ≤ 60) (h4 : zI h 39 4 = nI N) (hg : ∀ k, k < N → zI h 41 k = nI (g k)) (hb : ∀ k, g k < 4096) : ∀ k i n, i + k = N → k < n → s_X1_widestSail_L6 n (qWd g i).1 (nI (qWd g i).2) (nI i) h = some (qWd g N).1 := by
  intro k
  induction k with
  | zero =>
    intro i n e hn
    obtain ⟨m, rfl, -⟩ := zq_suc hn
    have e2 : i = N := by omega
    rw [s_X1_widestSail_L6, h4, if_pos (nI_le (by omega) (by omega)), e2]
  | succ k ih =>
    intro i n e hn
    obtain ⟨m, rfl, hm⟩ := zq_suc hn
    have ih1 := ih (i + 1) m (by omega) (by omega)
    have hp := qPc_le (g i)
    have h13 : (qWd g i).2 ≤ 13 := by
      rcases qWd_in g i with ⟨q1, q2, q3⟩ | ⟨b, b1, b2, b3⟩
      · omega
      · have := qPc_le (g b); omega
    rw [s_X1_widestSail_L6, h4, if_neg (nI_ge (by omega) (by omega)), zq_ix (by omega) (by omega), hg i (by omega), k_bc (hb i), ob_e, show nI i + 1 = nI (i + 1) from nI_1 i]
    rw [qWd] at ih1
    rcases Nat.lt_or_ge (qPc (g i)) (qWd g i).2 with q | q
    · rw [if_pos q] at ih1
      rw [if_neg (nI_ge q (by omega))]
      exact ih1
    · rw [if_neg (by omega)] at ih1
      rw [if_pos (nI_le q (by omega))]
      exact ih1
theorem k_wdM_L {N : Nat} {g : Nat → Nat} (hN : N ≤ 60) (h4 : zI h 52 46 = nI N) (hg : ∀ k, k < N → zI h 73 k = nI (g k)) (hb : ∀ k, g k < 4096) : ∀ k i n, i + k = N → k < n → s_X11_widest_L10 n (qWd g i).1 (nI i) h = some ((qWd g N).1, h) := by
  intro k
  induction k with
  | zero =>
    intro i n e hn
    obtain ⟨m, rfl, -⟩ := zq_suc hn
    have e2 : i = N := by omega
    rw [s_X11_widest_L10, h4, if_pos (nI_le (by omega) (by omega)), e2]
  | succ k ih =>
    intro i n e hn
    obtain ⟨m, rfl, hm⟩ := zq_suc hn
    have ih1 := ih (i + 1) m (by omega) (by omega)
    have hp := qPc_le (g i)
    rw [s_X11_widest_L10, h4, if_neg (nI_ge (by omega) (by omega)), show nI i + 1 = nI (i + 1) from nI_1 i]
    rw [qWd] at ih1
    rcases qWd_in g i with ⟨q1, q2, q3⟩ | ⟨b, b1, b2, b3⟩
    · rw [q3, if_pos (by omega)] at ih1
      rw [if_pos (show (qWd g i).1 = (-1 : Int32) from q2)]
      exact ih1
    · have e1 : ¬ nI (b + 1) = (-1 : Int32) := fun e => by
        have : (nI (b + 1) = nM) = False := zq_eM (by omega)
        rw [← this]; exact e
      have hpb := qPc_le (g b)
      rw [b2, if_neg e1, zq_ix (by omega) (by omega), hg i (by omega), k_bo (hb i), ob_e, show nI (b + 1) - 1 = nI b from zq_sub (a := b + 1) (b := 1) (by omega), zq_ix (by omega) (by omega), hg b (by omega), k_bo (hb b), ob_e]
      rw [b3] at ih1
      rcases Nat.lt_or_ge (qPc (g i)) (qPc (g b)) with q | q
      · rw [if_pos q] at ih1
        rw [if_neg (nI_ge q (by omega))]
        exact ih1
      · rw [if_neg (by omega), b2] at ih1
        rw [if_pos (nI_le q (by omega))]
        exact ih1
theorem c_widest (w : zRel c h pp P L) : zCal2 c h pp P (s_X10_widest pp h) s_X11_widest := by
  have hN := qNs_le P (lS L) 60
  obtain ⟨h1, e1, w1, q1, f1⟩ := r_fore w
  refine zCal2.of2 (v := (qWd (qGk P (lS L)) (qNs P (lS L) 60)).1) w1 f1 (by omega) ?_ (zAsk.go (fun h w k4 => ?_))
  · rw [s_X10_widest, e1, ob_e, s_X1_widestSail, show s_X1_widestSail_L6 zfu (-1) 13 0 h1 = _ from k_wd_L hN q1.1 (fun k hk => (qSr_at q1.2.1 hk).2.1) (qGk_lt w) (qNs P (lS L) 60) 0 zfu (by omega) (zq_fu (by omega)), ob_e]
  · obtain ⟨h2, e2, a1, a2, g2, f2⟩ := r_tell w
    refine ⟨h2, ?_, g2.trans k4, f2⟩
    rw [e2, ob_e]
    exact k_wdM_L hN a1 (fun k hk => (qSr_at a2 hk).2.1) (qGk_lt w) (qNs P (lS L) 60) 0 zfu (by omega) (zq_fu (by omega))
/-- a row is looked through from its head: class and reference alike -/
theorem qFw_s (g : Nat → Nat) (x : Int32) {i N : Nat} (hi : i < N) (hno : ∀ k, k < i → ¬ nI (g k) = x) (hx : nI (g i) = x) : qFw g x N = nI (i + 1) := by
  have h1 : ∀ n, i < n → fa_first (fun i => decide (nI (g i) = x)) n = i := by
    intro n hn
    have a := fa_first_le (fun i => decide (nI (g i) = x)) n
    have lt : fa_first (fun i => decide (nI (g i) = x)) n < n := by
      rcases Nat.lt_or_ge (fa_first (fun i => decide (nI (g i) = x)) n) n with q | q
      · exact q
      · have := fa_first_no (fun i => decide (nI (g i) = x)) n i (by omega)
        simp [hx] at this
    rcases Nat.lt_or_ge (fa_first (fun i => decide (nI (g i) = x)) n) i with q | q
    · have := fa_first_yes (fun i => decide (nI (g i) = x)) n lt
      exact absurd (of_decide_eq_true this) (hno _ q)
    · rcases Nat.eq_or_lt_of_le q with q2 | q2
      · exact q2.symm
      · have := fa_first_no (fun i => decide (nI (g i) = x)) n i q2
        simp [hx] at this
  unfold qFw
  rw [h1 N hi, if_pos hi]
theorem qFw_no (g : Nat → Nat) (x : Int32) {N : Nat} (hno : ∀ k, k < N → ¬ nI (g k) = x) : qFw g x N = nM := by
  unfold qFw
  rw [if_neg]
  intro q
  exact hno _ q (of_decide_eq_true (fa_first_yes (fun i => decide (nI (g i) = x)) N q))
theorem k_fw_L {N : Nat} {g : Nat → Nat} (hN : N ≤ 60) (h4 : zI h 39 4 = nI N) (hg : ∀ k, k < N → zI h 41 k = nI (g k)) (x : Int32) : ∀ k i n, i + k = N → k < n → (∀ j, j < i → ¬ nI (g j) = x) → s_X1_firstWith_L2 n x (nI i) h = some (qFw g x N) := by
  intro k
  induction k with
  | zero =>
    intro i n e hn hno
    obtain ⟨m, rfl, -⟩ := zq_suc hn
    have e2 : i = N := by omega
    subst e2
    rw [s_X1_firstWith_L2, h4, if_pos (nI_le (by omega) (by omega)), qFw_no g x hno]
    rfl
  | succ k ih =>
    intro i n e hn hno
    obtain ⟨m, rfl, hm⟩ := zq_suc hn
    rw [s_X1_firstWith_L2, h4, if_neg (nI_ge (by omega) (by omega)), zq_ix (by omega) (by omega), hg i (by omega), show nI i + 1 = nI (i + 1) from nI_1 i]
    by_cases q : nI (g i) = x
    · rw [if_neg (fun n => n q), qFw_s g x (by omega) hno q]
    · rw [if_pos q]
      exact ih (i + 1) m (by omega) (by omega) (fun j hj => by
        rcases Nat.lt_or_ge j i with q2 | q2
        · exact hno j q2
        · have : j = i := by omega
          subst this; exact q)
theorem k_fwM_L {N : Nat} {g : Nat → Nat} (hN : N ≤ 60) (h4 : zI h 52 46 = nI N) (hg : ∀ k, k < N → zI h 73 k = nI (g k)) (x : Int32) : ∀ k i n, i + k = N → k < n → (∀ j, j < i → ¬ nI (g j) = x) → s_X11_firstWith_L2 n x (nI i) h = some (qFw g x N) := by
  intro k
  induction k with
  | zero =>
    intro i n e hn hno
    obtain ⟨m, rfl, -⟩ := zq_suc hn
    have e2 : i = N := by omega
    subst e2
    rw [s_X11_firstWith_L2, h4, if_pos (nI_le (by omega) (by omega)), qFw_no g x hno]
    rfl
  | succ k ih =>
    intro i n e hn hno
    obtain ⟨m, rfl, hm⟩ := zq_suc hn
    rw [s_X11_firstWith_L2, h4, if_neg (nI_ge (by omega) (by omega)), zq_ix (by omega) (by omega), hg i (by omega), show nI i + 1 = nI (i + 1) from nI_1 i]
    by_cases q : nI (g i) = x
    · rw [if_neg (fun n => n q), qFw_s g x (by omega) hno q]
    · rw [if_pos q]
      exact ih (i + 1) m (by omega) (by omega) (fun j hj => by
        rcases Nat.lt_or_ge j i with q2 | q2
        · exact hno j q2
        · have : j = i := by omega
          subst this; exact q)
theorem k_fw {N : Nat} {g : Nat → Nat} (hN : N ≤ 60) (h4 : zI h 39 4 = nI N) (hg : ∀ k, k < N → zI h 41 k = nI (g k)) (x : Int32) : s_X1_firstWith x h = some (qFw g x N) := k_fw_L hN h4 hg x N 0 zfu (by omega) (zq_fu (by omega)) (fun j hj => by omega)
theorem k_fwM {N : Nat} {g : Nat → Nat} (hN : N ≤ 60) (h4 : zI h 52 46 = nI N) (hg : ∀ k, k < N → zI h 73 k = nI (g k)) (x : Int32) : s_X11_firstWith x h = some (qFw g x N) := k_fwM_L hN h4 hg x N 0 zfu (by omega) (zq_fu (by omega)) (fun j hj => by omega)
theorem k_lw_L {N : Nat} {g : Nat → Nat} (hN : N ≤ 60) (hg : ∀ k, k < N → zI h 41 k = nI (g k)) (x : Int32) : ∀ i n, i ≤ N → i < n → s_X1_lastWith_L3 n x (nI i) h = some (qLw g x i) := by
  intro i
  induction i with
  | zero =>
    intro n _ hn
    obtain ⟨m, rfl, -⟩ := zq_suc hn
    rw [s_X1_lastWith_L3, if_pos (by decide)]
    rfl
  | succ i ih =>
    intro n hi hn
    obtain ⟨m, rfl, hm⟩ := zq_suc hn
    rw [s_X1_lastWith_L3, if_neg (nI_nle (by omega) (by omega)), show nI (i + 1) - 1 = nI i from zq_sub (a := i + 1) (b := 1) (by omega), zq_ix (by omega) (by omega), hg i (by omega), show nI (i + 1) + (-1) = nI i from pk_m1 i, qLw]
    by_cases q : nI (g i) = x
    · rw [if_neg (fun n => n q), if_pos q]
    · rw [if_pos q, if_neg q]
      exact ih m (by omega) (by omega)
theorem k_lwM_L {N : Nat} {g : Nat → Nat} (hN : N ≤ 60) (h4 : zI h 52 46 = nI N) (hg : ∀ k, k < N → zI h 73 k = nI (g k)) (x y : Int32) : ∀ k i n, i + k = N → k < n → s_X11_dating_L32 n x y (qLw g x i) (nI i) h = some ((if ¬ y = 0 then qLw g x N else qFw g x N), h) := by
  intro k
  induction k with
  | zero =>
    intro i n e hn
    obtain ⟨m, rfl, -⟩ := zq_suc hn
    have e2 : i = N := by omega
    rw [s_X11_dating_L32, h4, if_pos (nI_le (by omega) (by omega)), e2, k_fwM hN h4 hg]
    split
    · rfl
    · rw [ob_e]
  | succ k ih =>
    intro i n e hn
    obtain ⟨m, rfl, hm⟩ := zq_suc hn
    have ih1 := ih (i + 1) m (by omega) (by omega)
    rw [s_X11_dating_L32, h4, if_neg (nI_ge (by omega) (by omega)), zq_ix (by omega) (by omega), hg i (by omega), show nI i + 1 = nI (i + 1) from nI_1 i]
    rw [qLw] at ih1
    by_cases q : nI (g i) = x
    · rw [if_pos q] at ih1
      rw [if_neg (fun n => n q)]
      exact ih1
    · rw [if_neg q] at ih1
      rw [if_pos q]
      exact ih1
theorem n_bit1 (w : zRel c h pp P L) {j : Nat} (hj : j < 2 ^ pR P) : s_X10_needBits pp (nI j) h = some (Sum.inl (), h) := by
  have hR := w.2.1.1
  have hp := q_p12 hR
  rw [s_X10_needBits, w.2.2.2.1.1, if_neg (nI_pos (by omega)), show (1 : Int32) <<< (nI (pR P) &&& 31) = nI (2 ^ pR P) from zq_shl (by omega), if_pos (nI_lt hj (by omega))]
theorem n_bit0 (w : zRel c h pp P L) {x : Int32} (hx : x < nI 0 ∨ nI (2 ^ pR P) ≤ x) : s_X10_needBits pp x h = some (Sum.inr 0, zth h) := by
  have hR := w.2.1.1
  rw [s_X10_needBits, w.2.2.2.1.1, show (1 : Int32) <<< (nI (pR P) &&& 31) = nI (2 ^ pR P) from zq_shl (by omega)]
  by_cases q : x < 0
  · rw [if_pos q]
  · rw [if_neg q, if_neg]
    intro q2
    rcases hx with q3 | q3
    · exact q q3
    · rw [fa_lt] at q2
      rw [fa_le] at q3
      omega
theorem r_bit1 (w : zRel c h pp P L) {j : Nat} (hj : j < 2 ^ pR P) : (s_X11_all h).bind (fun v => s_X11_isIn (nI j).toInt64 (0 : Int64) v.toInt64 h) = some (nI 1) := by
  have hR := w.2.1.1
  have hp := q_p12 hR
  rw [k_allM hR w.2.2.2.2.1.1, ob_e]
  exact k_in1 (a := 0) (by omega) (by omega) (by omega) h
theorem r_bit0 (w : zRel c h pp P L) {x : Int32} (hx : x < nI 0 ∨ nI (2 ^ pR P) ≤ x) : (s_X11_all h).bind (fun v => s_X11_isIn x.toInt64 (0 : Int64) v.toInt64 h) = some (nI 0) := by
  have hR := w.2.1.1
  have hp := q_p12 hR
  have h2 := Nat.two_pow_pos (pR P)
  rw [k_allM hR w.2.2.2.2.1.1, ob_e]
  refine k_in0 (a := 0) (hx.imp id (fun q => zq_ltw (by omega) (by rw [show 2 ^ pR P - 1 + 1 = 2 ^ pR P by omega]; exact q))) h
theorem c_dating (w : zRel c h pp P L) (x y : Int32) : zCall c h pp P (s_L_dating pp x y 90 1 h) (s_X11_dating x y) := by
  show zCall c h pp P (zHb (s_X10_dating pp x y h)) (s_X11_dating x y)
  have hR := w.2.1.1
  have hp := q_p12 hR
  have hN := qNs_le P (lS L) 60
  have bad : (y < nI 0 ∨ nI 2 ≤ y) → zCall c h pp P (zHb (s_X10_dating pp x y h)) (s_X11_dating x y) := by
    intro hx
    refine zCall.j1 (v := nI 0) w (by rw [s_X10_dating, zq_2, n_wha0 hx, zbx_r]) (zAsk.fail (fun h w => ?_))
    rw [show s_X11_isIn y.toInt64 (0 : Int64) (1 : Int64) h = some (nI 0) from k_in0 (a := 0) (b := 1) (hx.imp id zq_lt2) h, ob_e, if_neg (by decide)]
    rfl
  rcases zq_any y 2 (by omega) with hx | hx | ⟨i, hi, rfl⟩
  · exact bad (Or.inl hx)
  · exact bad (Or.inr hx)
  · have gi : ∀ h, s_X11_isIn (nI i).toInt64 (0 : Int64) (1 : Int64) h = some (nI 1) := fun h => k_in1 (a := 0) (b := 1) (by omega) (by omega) (by omega) h
    have bad2 : (x < nI 0 ∨ nI (2 ^ pR P) ≤ x) → zCall c h pp P (zHb (s_X10_dating pp x (nI i) h)) (s_X11_dating x (nI i)) := by
      intro hx
      refine zCall.j0 (v := nI 0) w (by rw [s_X10_dating, zq_2, n_wha1 hi (by omega), zbx_l, n_bit0 w hx, zbx_r]) (zAsk.fail (fun h w => ?_))
      have := r_bit0 w hx
      rw [k_allM hR w.2.2.2.2.1.1, ob_e] at this
      rw [gi, ob_e, if_pos (by decide), k_allM hR w.2.2.2.2.1.1, ob_e, this, ob_e, if_neg (by decide)]
      rfl
    rcases zq_any x (2 ^ pR P) (by omega) with hx | hx | ⟨j, hj, rfl⟩
    · exact bad2 (Or.inl hx)
    · exact bad2 (Or.inr hx)
    · obtain ⟨h1, e1, w1, q1, f1⟩ := r_fore w
      have hg : ∀ k, k < qNs P (lS L) 60 → zI h1 41 k = nI (qGk P (lS L) k) := fun k hk => (qSr_at q1.2.1 hk).2.1
      refine zCall.of2 (v := if ¬ nI i = 0 then qLw (qGk P (lS L)) (nI j) (qNs P (lS L) 60) else qFw (qGk P (lS L)) (nI j) (qNs P (lS L) 60)) w1 f1 (by omega) (zL_in ?_).2.1 (zAsk.go (fun h w k4 => ?_))
      · rw [s_X10_dating, zq_2, n_wha1 hi (by omega), zbx_l, n_bit1 w hj, zbx_l, e1, ob_e]
        by_cases q : nI i = 0
        · rw [if_neg (fun n => n q), if_neg (fun n => n q), k_fw hN q1.1 hg, ob_e]
        · rw [if_pos q, if_pos q, s_X1_lastWith, q1.1, k_lw_L hN hg (nI j) _ zfu (Nat.le_refl _) (zq_fu (by omega)), ob_e]
      · obtain ⟨h2, e2, a1, a2, g2, f2⟩ := r_tell w
        refine ⟨h2, ?_, g2.trans k4, f2⟩
        have := r_bit1 w hj
        rw [k_allM hR w.2.2.2.2.1.1, ob_e] at this
        rw [gi, ob_e, if_pos (by decide), k_allM hR w.2.2.2.2.1.1, ob_e, this, ob_e, if_pos (by decide), e2, ob_e]
        exact k_lwM_L hN a1 (fun k hk => (qSr_at a2 hk).2.1) (nI j) (nI i) (qNs P (lS L) 60) 0 zfu (by omega) (zq_fu (by omega))
theorem c_before (w : zRel c h pp P L) (x y : Int32) : zCall c h pp P (s_L_before pp x y 90 1 h) (s_X11_before x y) := by
  show zCall c h pp P (zHc (s_X10_before pp x y h)) (s_X11_before x y)
  have hR := w.2.1.1
  have hp := q_p12 hR
  have hN := qNs_le P (lS L) 60
  have bad : (x < nI 0 ∨ nI (2 ^ pR P) ≤ x) → zCall c h pp P (zHc (s_X10_before pp x y h)) (s_X11_before x y) := by
    intro hx
    refine zCall.k0 (v := nI 0) w (by rw [s_X10_before, n_bit0 w hx, zbx_r]) (zAsk.fail (fun h w => ?_))
    have := r_bit0 w hx
    rw [k_allM hR w.2.2.2.2.1.1, ob_e] at this
    rw [k_allM hR w.2.2.2.2.1.1, ob_e, this, ob_e, if_pos (show nI 0 = 0 from rfl)]
    rfl
  rcases zq_any x (2 ^ pR P) (by omega) with hx | hx | ⟨i, hi, rfl⟩
  · exact bad (Or.inl hx)
  · exact bad (Or.inr hx)
  · have bad2 : (y < nI 0 ∨ nI (2 ^ pR P) ≤ y) → zCall c h pp P (zHc (s_X10_before pp (nI i) y h)) (s_X11_before (nI i) y) := by
      intro hx
      refine zCall.k0 (v := nI 0) w (by rw [s_X10_before, n_bit1 w hi, zbx_l, n_bit0 w hx, zbx_r]) (zAsk.fail (fun h w => ?_))
      have t1 := r_bit1 w hi
      have := r_bit0 w hx
      rw [k_allM hR w.2.2.2.2.1.1, ob_e] at this t1
      rw [k_allM hR w.2.2.2.2.1.1, ob_e, t1, ob_e, if_neg (by decide), ob_e, this, ob_e, if_neg (by decide)]
      rfl
    rcases zq_any y (2 ^ pR P) (by omega) with hx | hx | ⟨j, hj, rfl⟩
    · exact bad2 (Or.inl hx)
    · exact bad2 (Or.inr hx)
    · obtain ⟨h1, e1, w1, q1, f1⟩ := r_fore w
      have hg : ∀ k, k < qNs P (lS L) 60 → zI h1 41 k = nI (qGk P (lS L) k) := fun k hk => (qSr_at q1.2.1 hk).2.1
      generalize eA : qFw (qGk P (lS L)) (nI i) (qNs P (lS L) 60) = A
      generalize eB : qFw (qGk P (lS L)) (nI j) (qNs P (lS L) 60) = B
      refine zCall.of2 (v := if A = -1 then 0 else if B = -1 then 0 else if B ≤ A then 0 else 1) w1 f1 (by omega) (zL_in ?_).2.2 (zAsk.go (fun h w k4 => ?_))
      · rw [s_X10_before, n_bit1 w hi, zbx_l, n_bit1 w hj, zbx_l, e1, ob_e, k_fw hN q1.1 hg, ob_e, k_fw hN q1.1 hg, ob_e, eA, eB]
        split
        · rfl
        · split
          · rfl
          · split <;> rfl
      · obtain ⟨h2, e2, a1, a2, g2, f2⟩ := r_tell w
        refine ⟨h2, ?_, g2.trans k4, f2⟩
        have hg2 : ∀ k, k < qNs P (lS L) 60 → zI h2 73 k = nI (qGk P (lS L) k) := fun k hk => (qSr_at a2 hk).2.1
        have t1 := r_bit1 w hi
        have t2 := r_bit1 w hj
        rw [k_allM hR w.2.2.2.2.1.1, ob_e] at t1 t2
        rw [k_allM hR w.2.2.2.2.1.1, ob_e, t1, ob_e, if_neg (by decide), ob_e, t2, ob_e, if_pos (by decide), e2, ob_e, k_fwM hN a1 hg2, ob_e, k_fwM hN a1 hg2, ob_e, eA, eB]
        split
        · rfl
        · split
          · rfl
          · split <;> rfl
end SA
