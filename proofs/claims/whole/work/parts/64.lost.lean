/-! ===== lost, strongest, pace ===== -/
/-- the strongest rib: which, how strong -/
def qSg (S : Nat → Nat) : Nat → Int32 × Nat
  | 0 => (nM, 0)
  | r + 1 => if (qSg S r).2 < S r then (nI r, S r) else qSg S r
theorem qSg_in (S : Nat → Nat) : ∀ r, ((qSg S r).1 = nM ∧ (qSg S r).2 = 0) ∨ ∃ b, b < r ∧ (qSg S r).1 = nI b ∧ (qSg S r).2 = S b ∧ 0 < S b := by
  intro r
  induction r with
  | zero => exact Or.inl ⟨rfl, rfl⟩
  | succ r ih =>
    rw [qSg]
    split
    · exact Or.inr ⟨r, by omega, rfl, rfl, by omega⟩
    · rcases ih with ih | ⟨b, b1, b2, b3, b4⟩
      · exact Or.inl ih
      · exact Or.inr ⟨b, by omega, b2, b3, b4⟩
section LO
variable {c pp : Nat} {h : zH} {P : zPl} {L : zLg} {a R : Nat} {S : Nat → Nat}
theorem k_tot_L (hR : R ≤ 12) (hS : ∀ r, r < R → zI h (a + 1) r = nI (S r)) : ∀ k r n, r + k = R → k < n → s_X8_total_L4 a n (nI R) (nI (fb_sm S r)) (nI r) h = some (nI (fb_sm S R)) := by
  intro k
  induction k with
  | zero =>
    intro r n e hn
    obtain ⟨m, rfl, -⟩ := zq_suc hn
    have e2 : r = R := by omega
    subst e2
    rw [s_X8_total_L4, if_pos (nI_le (Nat.le_refl _) (by omega))]
  | succ k ih =>
    intro r n e hn
    obtain ⟨m, rfl, hm⟩ := zq_suc hn
    have ih1 := ih (r + 1) m (by omega) (by omega)
    rw [s_X8_total_L4, if_neg (nI_ge (by omega) (by omega)), zq_ix (by omega) (by omega), hS r (by omega), nI_add, show nI r + 1 = nI (r + 1) from nI_1 r]
    rw [fb_sm_succ] at ih1
    exact ih1
theorem k_tot (hR : R ≤ 12) (hS : ∀ r, r < R → zI h (a + 1) r = nI (S r)) : s_X8_total a (nI R) h = some (nI (fb_sm S R)) := k_tot_L hR hS R 0 zfu (by omega) (zq_fu (by omega))
theorem k_totM_L (hR : R ≤ 12) (h0 : zI h 56 0 = nI R) (hS : ∀ r, r < R → zI h 64 r = nI (S r)) : ∀ k r n, r + k = R → k < n → s_X11_allStrength_L4 n (nI (fb_sm S r)) (nI r) h = some (nI (fb_sm S R)) := by
  intro k
  induction k with
  | zero =>
    intro r n e hn
    obtain ⟨m, rfl, -⟩ := zq_suc hn
    have e2 : r = R := by omega
    subst e2
    rw [s_X11_allStrength_L4, h0, if_pos (nI_le (Nat.le_refl _) (by omega))]
  | succ k ih =>
    intro r n e hn
    obtain ⟨m, rfl, hm⟩ := zq_suc hn
    have ih1 := ih (r + 1) m (by omega) (by omega)
    rw [s_X11_allStrength_L4, h0, if_neg (nI_ge (by omega) (by omega)), zq_ix (by omega) (by omega), hS r (by omega), nI_add, show nI r + 1 = nI (r + 1) from nI_1 r]
    rw [fb_sm_succ] at ih1
    exact ih1
theorem k_totM (hR : R ≤ 12) (h0 : zI h 56 0 = nI R) (hS : ∀ r, r < R → zI h 64 r = nI (S r)) : s_X11_allStrength h = some (nI (fb_sm S R)) := k_totM_L hR h0 hS R 0 zfu (by omega) (zq_fu (by omega))
theorem k_lostM_L (hP : pOk P) (ho : sOk (pR P) S) {d : Nat} (hd : d ≤ 60) (y was : Int32) : ∀ k i n h, i + k = d → k < n → zPM h P → zSM h (pR P) (qIt P S i) → ∃ h', s_X11_lost_L35 n (nI d) y (nI (qRn P S i)) was (nI i) h = s_X11_lost_L35 1 (nI d) y (nI (qRn P S d)) was (nI d) h' ∧ zSM h' (pR P) (qIt P S d) ∧ zfr zAm h h' := by
  intro k
  induction k with
  | zero =>
    intro i n h e hn w s
    obtain ⟨m, rfl, -⟩ := zq_suc hn
    have e2 : i = d := by omega
    subst e2
    refine ⟨h, ?_, s, zfr.rf _ h⟩
    rw [s_X11_lost_L35, s_X11_lost_L35, if_pos (nI_le (by omega) (by omega)), if_pos (nI_le (by omega) (by omega))]
  | succ k ih =>
    intro i n h e hn w s
    obtain ⟨m, rfl, hm⟩ := zq_suc hn
    obtain ⟨h1, e1, s1, g1, g2, f1⟩ := k_day hP w s (qIt_ok hP ho i)
    have w1 : zPM h1 P := w.fr f1 (fun b k e => by unfold zAm; omega)
    obtain ⟨h2, e2, s2, f2⟩ := ih (i + 1) m h1 (by omega) (by omega) w1 s1
    rw [s_X11_lost_L35, if_neg (nI_ge (by omega) (by omega)), e1, ob_e, show nI i + 1 = nI (i + 1) from nI_1 i, g1]
    refine ⟨h2, ?_, s2, f1.tr f2⟩
    rw [qRn] at e2
    cases hq : qDone P (qIt P S i) with
    | true =>
      rw [hq, if_pos rfl] at e2
      rw [if_neg (by decide), (g2 hq).1, fa_or]
      exact e2
    | false =>
      rw [hq, if_neg (by decide)] at e2
      rw [if_pos (show nI false.toNat = 0 from rfl), show nI (qRn P S i) ||| (0 : Int32) = nI (qRn P S i ||| 0) from fa_or _ 0, Nat.or_zero]
      exact e2
theorem c_lost (w : zRel c h pp P L) (x y : Int32) : zCall c h pp P (s_L_lost pp x y 90 1 h) (s_X11_lost x y) := by
  show zCall c h pp P (zHb (s_X10_lost pp x y h)) (s_X11_lost x y)
  have hP := w.2.1
  have hR := hP.1
  have bad : (y < nI 0 ∨ nI 2 ≤ y) → zCall c h pp P (zHb (s_X10_lost pp x y h)) (s_X11_lost x y) := by
    intro hx
    refine zCall.j1 (v := nI 0) w (by rw [s_X10_lost, zq_2, n_wha0 hx, zbx_r]) (zAsk.fail (fun h w => ?_))
    rw [show (0 : Int64) = (nI 0).toInt64 from rfl, show (1 : Int64) = (nI 1).toInt64 from rfl, k_in0 (hx.imp id zq_lt2), ob_e, if_neg (by decide)]
    rfl
  rcases zq_any y 2 (by omega) with hx | hx | ⟨i, hi, rfl⟩
  · exact bad (Or.inl hx)
  · exact bad (Or.inr hx)
  · have gi : ∀ h, s_X11_isIn (nI i).toInt64 (0 : Int64) (1 : Int64) h = some (nI 1) := fun h => k_in1 (a := 0) (b := 1) (by omega) (by omega) (by omega) h
    rcases zq_with x 0 60 (by omega) (by omega) with hy | ⟨d, -, hd, rfl⟩
    · refine zCall.j0 (v := nI 0) w (by rw [s_X10_lost, zq_2, n_wha1 hi (by omega), zbx_l, zq_0, zq_60, n_wit0 hy, zbx_r]) (zAsk.fail (fun h w => ?_))
      rw [gi, ob_e, if_pos (by decide), show (0 : Int64) = (nI 0).toInt64 from rfl, show (60 : Int64) = (nI 60).toInt64 from rfl, k_in0 hy, ob_e, if_neg (by decide)]
      rfl
    · obtain ⟨h1, e1, s1, f1⟩ := r_try w hd
      have w1 := w.fr f1.scr
      have gd : ∀ h, s_X11_isIn (nI d).toInt64 (0 : Int64) (60 : Int64) h = some (nI 1) := fun h => k_in1 (a := 0) (b := 60) (by omega) (by omega) (by omega) h
      have ok := w.2.2.1.1.1
      have ex : s_X10_lost pp (nI d) (nI i) h = some (Sum.inl (if ¬ nI i = 0 then nI (qRn P (lS L) d) else nI (fb_sm (lS L) (pR P)) - nI (fb_sm (qIt P (lS L) d) (pR P))), h1) := by
        rw [s_X10_lost, zq_2, n_wha1 hi (by omega), zbx_l, zq_0, zq_60, n_wit1 (by omega) hd (by omega), zbx_l, e1, zbd_e]
        by_cases q : nI i = nI 0
        · rw [if_neg (fun n => n q), if_neg (fun n => n q), w1.2.2.2.1.1, k_tot hR w1.2.2.2.2.2.1.1.1, ob_e, k_tot hR s1.1, ob_e]
        · rw [if_pos q, if_pos q]
      refine zCall.j (v := if ¬ nI i = 0 then nI (qRn P (lS L) d) else nI (fb_sm (lS L) (pR P)) - nI (fb_sm (qIt P (lS L) d) (pR P))) w ex f1.scr (zAsk.go (fun h w k4 => ?_))
      obtain ⟨w0, hP, hL, wC, wM, cC, cM, -⟩ := id w
      obtain ⟨h4, e4, v4, f4⟩ := r_pack 71 (Or.inl rfl) h
      have w4 : zPM h4 P := wM.fr f4 (fun b k e => by omega)
      have s4 : zSM h4 (pR P) (lS L) := cM.1.fr f4 (fun b k e => by omega)
      obtain ⟨h5, e5, s5, f5⟩ := k_lostM_L hP ok hd (nI i) (nI (fb_sm (lS L) (pR P))) d 0 zfu h4 (by omega) (zq_fu (by omega)) w4 s4
      have p5 : zPM h5 P := w4.fr f5 (fun b k e => by unfold zAm; omega)
      obtain ⟨h7, e7, f7, g7⟩ := r_unp (Or.inl rfl) v4 f4 (f5.mo (zAm_x 71 (Or.inl rfl)))
      refine ⟨h7, ?_, ?_, f7⟩
      · have e5' : s_X11_lost_L35 zfu (nI d) (nI i) (0 : Int32) (nI (fb_sm (lS L) (pR P))) (0 : Int32) h4 = s_X11_lost_L35 1 (nI d) (nI i) (nI (qRn P (lS L) d)) (nI (fb_sm (lS L) (pR P))) (nI d) h5 := e5
        rw [gi, ob_e, if_pos (by decide), gd, ob_e, if_pos (by decide), k_totM hR wM.1 cM.1.1, ob_e, e4, ob_e, e5', s_X11_lost_L35, if_pos (nI_le (by omega) (by omega))]
        by_cases q : nI i = 0
        · rw [if_neg (fun n => n q), if_neg (fun n => n q), k_totM hR p5.1 s5.1, ob_e, s_X11_lost_J60, e7, ob_e]
        · rw [if_pos q, if_pos q, s_X11_lost_J60, e7, ob_e]
      · rw [g7.i (by unfold zAs; omega), f5.i (by unfold zAm; omega), f4.i (by omega)]; exact k4
theorem k_sg_L (w : zRel c h pp P L) (ho : sOk (pR P) S) (s : zSC h 30 (pR P) S) : ∀ k r n, r + k = pR P → k < n → s_X10_strongest_L15 pp n (qSg S r).1 (nI (qSg S r).2) (nI r) h = some (Sum.inl (qSg S (pR P)).1, h) := by
  obtain ⟨w0, hP, hL, wC, wM, cC, cM, -⟩ := id w
  have hR := hP.1
  intro k
  induction k with
  | zero =>
    intro r n e hn
    obtain ⟨m, rfl, -⟩ := zq_suc hn
    have e2 : r = pR P := by omega
    rw [s_X10_strongest_L15, wC.1, if_pos (nI_le (by omega) (by omega)), e2]
  | succ k ih =>
    intro r n e hn
    obtain ⟨m, rfl, hm⟩ := zq_suc hn
    have ih1 := ih (r + 1) m (by omega) (by omega)
    have b := ho.1 r (by omega)
    have b2 : (qSg S r).2 ≤ 99 := by
      rcases qSg_in S r with q | ⟨b, b1, b2, b3, b4⟩
      · omega
      · have := ho.1 b (by omega)
        omega
    rw [s_X10_strongest_L15, wC.1, if_neg (nI_ge (by omega) (by omega)), zq_ix (by omega) (by omega), show zI h 31 r = nI (S r) from s.1 r (by omega), show nI r + 1 = nI (r + 1) from nI_1 r]
    rw [qSg] at ih1
    rcases Nat.lt_or_ge (qSg S r).2 (S r) with q | q
    · rw [if_pos q] at ih1
      rw [if_neg (nI_ge q (by omega)), zq_ix (by omega) (by omega), show zI h 31 r = nI (S r) from s.1 r (by omega)]
      exact ih1
    · rw [if_neg (by omega)] at ih1
      rw [if_pos (nI_le q (by omega))]
      exact ih1
theorem k_sgM_L (hP : pOk P) (p : zPM h P) (ho : sOk (pR P) S) (s : zSM h (pR P) S) : ∀ k r n, r + k = pR P → k < n → s_X11_strongest_L25 n (qSg S r).1 (nI r) h = (s_X11_unpack 71 38 (0 : Int32) h).bind fun h1 => some ((qSg S (pR P)).1, h1) := by
  have hR := hP.1
  intro k
  induction k with
  | zero =>
    intro r n e hn
    obtain ⟨m, rfl, -⟩ := zq_suc hn
    have e2 : r = pR P := by omega
    rw [s_X11_strongest_L25, p.1, if_pos (nI_le (by omega) (by omega)), e2]
  | succ k ih =>
    intro r n e hn
    obtain ⟨m, rfl, hm⟩ := zq_suc hn
    have ih1 := ih (r + 1) m (by omega) (by omega)
    have b := ho.1 r (by omega)
    rw [s_X11_strongest_L25, p.1, if_neg (nI_ge (by omega) (by omega)), k_goneAt hR s ho (by omega), ob_e, show nI r + 1 = nI (r + 1) from nI_1 r]
    rw [qSg] at ih1
    by_cases q : S r = 0
    · rw [if_neg (by omega)] at ih1
      rw [if_pos q, if_pos (by decide)]
      exact ih1
    · rw [if_neg q, if_neg (fun n => n rfl)]
      rcases qSg_in S r with q2 | ⟨b, b1, b2, b3, b4⟩
      · rw [q2.2, if_pos (by omega)] at ih1
        rw [if_pos (show (qSg S r).1 = (-1 : Int32) from q2.1)]
        exact ih1
      · have hb := ho.1 b (by omega)
        have e1 : ¬ nI b = (-1 : Int32) := fun e => by
          have : (nI b = nM) = False := zq_eM (by omega)
          rw [← this]; exact e
        rw [b2, if_neg e1, zq_ix (by omega) (by omega), zq_ix (by omega) (by omega), s.1 r (by omega), s.1 b (by omega)]
        rw [b3] at ih1
        rcases Nat.lt_or_ge (S b) (S r) with q3 | q3
        · rw [if_pos q3] at ih1
          rw [if_neg (nI_ge q3 (by omega))]
          exact ih1
        · rw [if_neg (by omega), b2] at ih1
          rw [if_pos (nI_le q3 (by omega))]
          exact ih1
theorem c_strongest (w : zRel c h pp P L) (x : Int32) : zCall c h pp P (s_L_strongest pp x 90 1 h) (s_X11_strongest x) := by
  show zCall c h pp P (zHc (s_X10_strongest pp x h)) (s_X11_strongest x)
  have hP := w.2.1
  have hR := hP.1
  have ok := w.2.2.1.1.1
  rcases zq_with x 0 60 (by omega) (by omega) with hy | ⟨d, -, hd, rfl⟩
  · refine zCall.k0 (v := nI 0) w (by rw [s_X10_strongest, zq_0, zq_60, n_wit0 hy, zbx_r]) (zAsk.fail (fun h w => ?_))
    rw [show (0 : Int64) = (nI 0).toInt64 from rfl, show (60 : Int64) = (nI 60).toInt64 from rfl, k_in0 hy, ob_e, if_neg (by decide)]
    rfl
  · obtain ⟨h1, e1, s1, f1⟩ := r_try w hd
    have w1 := w.fr f1.scr
    have ok2 := qIt_ok hP ok d
    refine zCall.k (v := (qSg (qIt P (lS L) d) (pR P)).1) w ?_ f1.scr (zAsk.go (fun h w k4 => ?_))
    · rw [s_X10_strongest, zq_0, zq_60, n_wit1 (by omega) hd (by omega), zbx_l, e1, zbd_e]
      exact k_sg_L w1 ok2 s1 (pR P) 0 zfu (by omega) (zq_fu (by omega))
    · obtain ⟨h4, h5, h7, e4, e5, e7, s5, p5, f7, g7⟩ := r_exc w hd
      refine ⟨h7, ?_, g7.trans k4, f7⟩
      have e9 : s_X11_strongest_L25 zfu (-1 : Int32) (0 : Int32) h5 = (s_X11_unpack 71 38 (0 : Int32) h5).bind fun h1 => some ((qSg (qIt P (lS L) d) (pR P)).1, h1) := k_sgM_L hP p5 ok2 s5 (pR P) 0 zfu (by omega) (zq_fu (by omega))
      rw [show s_X11_isIn (nI d).toInt64 (0 : Int64) (60 : Int64) h = some (nI 1) from k_in1 (a := 0) (b := 60) (by omega) (by omega) (by omega) h, ob_e, if_pos (by decide), e4, ob_e, e5, ob_e, e9, e7, ob_e]
theorem k_paM_L (w : zRel c h pp P L) {a : Nat} (ha : a < 2) : ∀ j k n, k + j = pR P - lS L 33 - lS L 32 → j < n → s_X11_pace_L18 n (nI a) (qON (qF3 (lS L) (lS L 32) k).1 (if a = 0 then (qF3 (lS L) (lS L 32) k).2.1 else (qF3 (lS L) (lS L 32) k).2.2)) (nI (lS L 32 + k)) h = s_X11_pace_L18 1 (nI a) (qON (qBt (pR P) (lS L)).1 (if a = 0 then (qBt (pR P) (lS L)).2.1 else (qBt (pR P) (lS L)).2.2)) (nI (pR P - lS L 33)) h := by
  obtain ⟨w0, hP, hL, wC, wM, cC, cM, -⟩ := id w
  have hR := hP.1
  obtain ⟨o0, o1, o2, o3, o4, o5⟩ := id hL.1.1
  have s := cM.1
  intro j
  induction j with
  | zero =>
    intro k n e hn
    obtain ⟨m, rfl, -⟩ := zq_suc hn
    have e1 : k = pR P - lS L 33 - lS L 32 := by omega
    rw [s_X11_pace_L18, s_X11_pace_L18, wM.1, s.2.2.2.2.1, zq_sub (by omega), if_pos (nI_le (by omega) (by omega)), if_pos (nI_le (by omega) (by omega)), qBt, ← e1]
  | succ j ih =>
    intro k n e hn
    obtain ⟨m, rfl, hm⟩ := zq_suc hn
    have hF := qF3_in (lS L) (lS L 32) k
    have ih1 := ih (k + 1) m (by omega) (by omega)
    rw [s_X11_pace_L18, wM.1, s.2.2.2.2.1, zq_sub (by omega), if_neg (nI_ge (by omega) (by omega)), k_goneAt hR s hL.1.1 (by omega), ob_e, show nI (lS L 32 + k) + 1 = nI (lS L 32 + (k + 1)) from nI_1 _]
    rw [qF3] at ih1
    by_cases q : lS L (lS L 32 + k) = 0
    · rw [if_pos q] at ih1
      rw [if_pos q, if_pos (by decide)]
      exact ih1
    · rw [if_neg q] at ih1
      rw [if_neg q, if_neg (fun n => n rfl)]
      dsimp only at ih1
      rw [qON_p _ (show (qF3 (lS L) (lS L 32) k).1 + 1 ≠ 0 by omega)] at ih1
      rcases Nat.eq_zero_or_pos (qF3 (lS L) (lS L 32) k).1 with q3 | q3
      · rw [q3, qON_0, if_pos (show nM = (-1 : Int32) from rfl)]
        rw [q3, if_pos rfl] at ih1
        have e2 : (if a = 0 then lS L 32 + k else lS L 32 + k) = lS L 32 + k := by split <;> rfl
        rw [e2] at ih1
        exact ih1
      · have hF2 := hF.2 (by omega)
        rw [if_neg (show ¬ (qF3 (lS L) (lS L 32) k).1 = 0 by omega)] at ih1
        rw [qON_p _ (show (qF3 (lS L) (lS L 32) k).1 ≠ 0 by omega)]
        have e1 : ¬ nI (if a = 0 then (qF3 (lS L) (lS L 32) k).2.1 else (qF3 (lS L) (lS L 32) k).2.2) = (-1 : Int32) := fun e => by
          have : (nI (if a = 0 then (qF3 (lS L) (lS L 32) k).2.1 else (qF3 (lS L) (lS L 32) k).2.2) = nM) = False := zq_eM (by split <;> omega)
          rw [← this]; exact e
        rw [if_neg e1]
        have e : a = 0 ∨ a = 1 := by omega
        rcases e with e | e <;> subst e
        · rw [if_pos (by decide)]
          exact ih1
        · rw [if_neg (fun n => n rfl)]
          exact ih1
theorem c_pace (w : zRel c h pp P L) (x : Int32) : zCall c h pp P (s_L_pace pp x 90 1 h) (s_X11_pace x) := by
  show zCall c h pp P (zHa (s_X10_pace pp x h)) (s_X11_pace x)
  obtain ⟨w0, hP, hL, wC, wM, cC, cM, -⟩ := id w
  have hR := hP.1
  have bad : (x < nI 0 ∨ nI 2 ≤ x) → zCall c h pp P (zHa (s_X10_pace pp x h)) (s_X11_pace x) := by
    intro hx
    refine zCall.i1 (v := nI 0) w (by rw [s_X10_pace, n_cla0 hx, zbx_r]) (zAsk.fail (fun h w => ?_))
    rw [show (0 : Int64) = (nI 0).toInt64 from rfl, show (1 : Int64) = (nI 1).toInt64 from rfl, k_in0 (hx.imp id zq_lt2), ob_e, if_neg (by decide)]
    rfl
  rcases zq_any x 2 (by omega) with hx | hx | ⟨a, ha, rfl⟩
  · exact bad (Or.inl hx)
  · exact bad (Or.inr hx)
  · obtain ⟨h1, e1, f1⟩ := k_pace (a := 19) (c := a) (Or.inl rfl) w0 hP ha wC cC.1 hL.1.1
    refine zCall.i (v := nI (qPace P (lS L) a)) w (by rw [s_X10_pace, n_cla1 ha, zbx_l, e1, zbd_e]) (f1.mo (fun b k e => by unfold zScr; omega)) (zAsk.go (fun h w k4 => ?_))
    obtain ⟨w0, hP, hL, wC, wM, cC, cM, -⟩ := id w
    obtain ⟨o0, o1, o2, o3, o4, o5⟩ := id hL.1.1
    have hF := qF3_in (lS L) (lS L 32) (pR P - lS L 33 - lS L 32)
    have e9 : s_X11_pace_L18 zfu (nI a) (-1 : Int32) (nI (lS L 32)) h = s_X11_pace_L18 1 (nI a) (qON (qBt (pR P) (lS L)).1 (if a = 0 then (qBt (pR P) (lS L)).2.1 else (qBt (pR P) (lS L)).2.2)) (nI (pR P - lS L 33)) h := k_paM_L w ha (pR P - lS L 33 - lS L 32) 0 zfu (by omega) (zq_fu (by omega))
    rw [show s_X11_isIn (nI a).toInt64 (0 : Int64) (1 : Int64) h = some (nI 1) from k_in1 (a := 0) (b := 1) (by omega) (by omega) (by omega) h, ob_e, if_pos (by decide), cM.1.2.2.2.1, e9, s_X11_pace_L18, wM.1, cM.1.2.2.2.2.1, zq_sub (by omega), if_pos (nI_le (by omega) (by omega)), qPace]
    rcases Nat.eq_zero_or_pos (qBt (pR P) (lS L)).1 with q | q
    · rw [q, qON_0, if_neg (fun n => n (show nM = (-1 : Int32) from rfl)), if_pos rfl]
      exact ⟨h, rfl, k4, zfr.rf _ h⟩
    · have hF2 := hF.2 (show (qBt (pR P) (lS L)).1 ≠ 0 by omega)
      have hr : (if a = 0 then (qBt (pR P) (lS L)).2.1 else (qBt (pR P) (lS L)).2.2) < pR P := by
        show (if a = 0 then (qF3 (lS L) (lS L 32) (pR P - lS L 33 - lS L 32)).2.1 else (qF3 (lS L) (lS L 32) (pR P - lS L 33 - lS L 32)).2.2) < pR P
        split <;> omega
      have e1 : ¬ nI (if a = 0 then (qBt (pR P) (lS L)).2.1 else (qBt (pR P) (lS L)).2.2) = (-1 : Int32) := fun e => by
        have : (nI (if a = 0 then (qBt (pR P) (lS L)).2.1 else (qBt (pR P) (lS L)).2.2) = nM) = False := zq_eM (by omega)
        rw [← this]; exact e
      rw [qON_p _ (show (qBt (pR P) (lS L)).1 ≠ 0 by omega), if_pos e1, if_neg (show ¬ (qBt (pR P) (lS L)).1 = 0 by omega)]
      obtain ⟨h2, e2, f2⟩ := k_wa hP wM cM.1 hL.1.1 ha hr
      rw [e2, zbd_e]
      exact ⟨h2, rfl, (f2.i (by omega)).trans k4, f2.mo (fun b k e => by unfold zScr; omega)⟩
end LO
