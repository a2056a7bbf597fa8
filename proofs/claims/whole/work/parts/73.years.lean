/-! ===== years: days of chance ===== -/
/-- seed, state, sails, gaps -/
def qYt (P : zPl) (q : Int32 × (Nat → Nat)) (g : Nat × Nat) : Int32 × (Nat → Nat) × Nat × Nat := (q.1, qDay P q.2, g.1 + (qDone P q.2).toNat, g.2 + (if qDone P q.2 = true then qPc (qDg P q.2) else 0))
theorem pr_1 {α β γ δ : Type} (a : α) (b : β) (c : γ) (d : δ) : (a, b, c, d).1 = a := rfl
theorem pr_2 {α β γ δ : Type} (a : α) (b : β) (c : γ) (d : δ) : (a, b, c, d).2.1 = b := rfl
theorem pr_3 {α β γ δ : Type} (a : α) (b : β) (c : γ) (d : δ) : (a, b, c, d).2.2.1 = c := rfl
theorem pr_4 {α β γ δ : Type} (a : α) (b : β) (c : γ) (d : δ) : (a, b, c, d).2.2.2 = d := rfl
theorem qYt_1 (P : zPl) (q : Int32 × (Nat → Nat)) (g : Nat × Nat) : (qYt P q g).1 = q.1 := by unfold qYt; exact pr_1 _ _ _ _
theorem qYt_2 (P : zPl) (q : Int32 × (Nat → Nat)) (g : Nat × Nat) : (qYt P q g).2.1 = qDay P q.2 := by unfold qYt; exact pr_2 _ _ _ _
theorem qYt_3 (P : zPl) (q : Int32 × (Nat → Nat)) (g : Nat × Nat) : (qYt P q g).2.2.1 = g.1 + (qDone P q.2).toNat := by unfold qYt; exact pr_3 _ _ _ _
theorem qYt_4 (P : zPl) (q : Int32 × (Nat → Nat)) (g : Nat × Nat) : (qYt P q g).2.2.2 = g.2 + (if qDone P q.2 = true then qPc (qDg P q.2) else 0) := by unfold qYt; exact pr_4 _ _ _ _
def qYs (P : zPl) (y : Int32 × (Nat → Nat) × Nat × Nat) : Int32 × (Nat → Nat) × Nat × Nat := qYt P (qLc P y.1 y.2.1) y.2.2
def qYr (P : zPl) (x : Int32) (S : Nat → Nat) : Nat → Int32 × (Nat → Nat) × Nat × Nat
  | 0 => (x, S, 0, 0)
  | d + 1 => qYs P (qYr P x S d)
section YR
variable {c pp : Nat} {h : zH} {P : zPl} {L : zLg} {S : Nat → Nat} {x : Int32}
theorem qYr_ok (hP : pOk P) (h : sOk (pR P) S) : ∀ d, sOk (pR P) (qYr P x S d).2.1 := by
  intro d
  induction d with
  | zero => exact h
  | succ d ih =>
    rw [qYr, qYs, qYt_2]
    have := qLc_ok (x := (qYr P x S d).1) hP.1 ih
    generalize qLc P (qYr P x S d).1 (qYr P x S d).2.1 = q at this ⊢
    exact qDay_ok hP this
theorem qYr_s (i : Nat) : qYr P x S (i + 1) = qYt P (qLc P (qYr P x S i).1 (qYr P x S i).2.1) (qYr P x S i).2.2 := by rw [qYr, qYs]
theorem k_years_L (hp : pp = 2 ∨ pp = 9) (hP : pOk P) (ho : sOk (pR P) S) {d : Nat} (hd : d ≤ 60) (l3 : Int32) : ∀ k i n h, i + k = d → k < n → zPC h pp P → zSC h 30 (pR P) (qYr P x S i).2.1 → zI h 50 0 = (qYr P x S i).1 → ∃ h', s_X10_years_L25 pp n (nI d) l3 (nI (qYr P x S i).2.2.1) (nI (qYr P x S i).2.2.2) (nI i) h = s_X10_years_L25 pp 1 (nI d) l3 (nI (qYr P x S d).2.2.1) (nI (qYr P x S d).2.2.2) (nI d) h' ∧ zSC h' 30 (pR P) (qYr P x S d).2.1 ∧ zPC h' pp P ∧ zfr (fun b _ => (30 ≤ b ∧ b ≤ 38) ∨ b = 50) h h' := by
  intro k
  induction k with
  | zero =>
    intro i n h e hn w s z
    obtain ⟨m, rfl, -⟩ := zq_suc hn
    have e2 : i = d := by omega
    subst e2
    refine ⟨h, ?_, s, w, zfr.rf _ h⟩
    rw [s_X10_years_L25, if_pos (nI_le (by omega) (by omega)), s_X10_years_L25, if_pos (nI_le (by omega) (by omega))]
  | succ k ih =>
    intro i n h e hn w s z
    obtain ⟨m, rfl, hm⟩ := zq_suc hn
    have oi := qYr_ok (x := x) hP ho i
    obtain ⟨h1, e1, s1, z1, f1⟩ := k_chance hP hp w s oi z
    have w1 : zPC h1 pp P := w.fr f1 (fun b k _ _ => by omega)
    have o1 := qLc_ok (x := (qYr P x S i).1) hP.1 oi
    have ih := ih (i + 1) m
    rw [qYr_s i, qYt_1, qYt_2, qYt_3, qYt_4] at ih
    generalize qLc P (qYr P x S i).1 (qYr P x S i).2.1 = q at s1 z1 o1 ih
    generalize (qYr P x S i).2.2 = g at ih ⊢
    obtain ⟨h2, e2, s2, g2, f2⟩ := k_pass (Or.inr rfl) hp hP w1 s1 o1
    have w2 : zPC h2 pp P := w1.fr f2 (fun b k _ _ => by unfold zAd; omega)
    have z2 : zI h2 50 0 = q.1 := by rw [f2.i (by unfold zAd; omega)]; exact z1
    obtain ⟨h3, e3, s3, w3, f3⟩ := ih h2 (by omega) (by omega) w2 s2 z2
    refine ⟨h3, ?_, s3, w3, ((f1.mo (fun b k e => by omega)).tr (f2.mo (fun b k e => by unfold zAd at e; omega))).tr f3⟩
    rw [s_X10_years_L25, if_neg (nI_ge (by omega) (by omega)), e1, ob_e, e2, zbd_e, show nI i + 1 = nI (i + 1) from nI_1 i]
    cases hq : qDone P q.2 with
    | true =>
      rw [hq, if_pos rfl, show true.toNat = 1 from rfl] at e3
      rw [if_neg (by decide), (g2 hq).1, k_bc (qDg_lt hP o1), ob_e, show nI g.1 + 1 = nI (g.1 + 1) from nI_1 _, nI_add]
      exact e3
    | false =>
      rw [hq, if_neg (by decide), show false.toNat = 0 from rfl] at e3
      rw [if_pos (show nI false.toNat = 0 from rfl)]
      exact e3
theorem k_yearM_L (hP : pOk P) (ho : sOk (pR P) S) {d : Nat} (hd : d ≤ 60) (l3 : Int32) : ∀ k i n h, i + k = d → k < n → zPM h P → zSM h (pR P) (qYr P x S i).2.1 → zI h 52 58 = (qYr P x S i).1 → ∃ h', s_X11_years_L37 n (nI d) l3 (nI (qYr P x S i).2.2.1) (nI (qYr P x S i).2.2.2) (nI i) h = s_X11_years_L37 1 (nI d) l3 (nI (qYr P x S d).2.2.1) (nI (qYr P x S d).2.2.2) (nI d) h' ∧ zSM h' (pR P) (qYr P x S d).2.1 ∧ zPM h' P ∧ zI h' 52 4 = zI h 52 4 ∧ zfr (zAx 71) h h' := by
  intro k
  induction k with
  | zero =>
    intro i n h e hn w s z
    obtain ⟨m, rfl, -⟩ := zq_suc hn
    have e2 : i = d := by omega
    subst e2
    refine ⟨h, ?_, s, w, rfl, zfr.rf _ h⟩
    rw [s_X11_years_L37, if_pos (nI_le (by omega) (by omega)), s_X11_years_L37, if_pos (nI_le (by omega) (by omega))]
  | succ k ih =>
    intro i n h e hn w s z
    obtain ⟨m, rfl, hm⟩ := zq_suc hn
    have oi := qYr_ok (x := x) hP ho i
    obtain ⟨h1, e1, s1, z1, f1⟩ := k_chanM hP w s oi z
    have w1 : zPM h1 P := w.fr f1 (fun b k e => by unfold zAy; omega)
    have o1 := qLc_ok (x := (qYr P x S i).1) hP.1 oi
    have ih := ih (i + 1) m
    rw [qYr_s i, qYt_1, qYt_2, qYt_3, qYt_4] at ih
    generalize qLc P (qYr P x S i).1 (qYr P x S i).2.1 = q at s1 z1 o1 ih
    generalize (qYr P x S i).2.2 = g at ih ⊢
    obtain ⟨h2, e2, s2, d2, g2, f2⟩ := k_day hP w1 s1 o1
    have w2 : zPM h2 P := w1.fr f2 (fun b k e => by unfold zAm; omega)
    have z2 : zI h2 52 58 = q.1 := by rw [f2.i (by unfold zAm; omega)]; exact z1
    obtain ⟨h3, e3, s3, w3, k3, f3⟩ := ih h2 (by omega) (by omega) w2 s2 z2
    refine ⟨h3, ?_, s3, w3, ?_, ((f1.mo (fun b k e => ?_)).tr (f2.mo (zAm_x 71 (Or.inl rfl)))).tr f3⟩
    · rw [s_X11_years_L37, if_neg (nI_ge (by omega) (by omega)), e1, ob_e, e2, ob_e, d2]
      cases hq : qDone P q.2 with
      | true =>
        rw [hq, if_pos rfl, show true.toNat = 1 from rfl] at e3
        rw [hq] at d2
        rw [if_neg (by decide), s_X11_years_J51, d2, if_neg (by decide), (g2 hq).1, k_bo (qDg_lt hP o1), ob_e, show nI i + 1 = nI (i + 1) from nI_1 i, show nI g.1 + 1 = nI (g.1 + 1) from nI_1 _, nI_add]
        exact e3
      | false =>
        rw [hq, if_neg (by decide), show false.toNat = 0 from rfl] at e3
        rw [hq] at d2
        rw [if_pos (show nI false.toNat = 0 from rfl), s_X11_years_J51, d2, if_pos (show nI false.toNat = 0 from rfl), show nI i + 1 = nI (i + 1) from nI_1 i, show nI g.1 + 0 = nI (g.1 + 0) from nI_add _ 0, show nI g.2 + 0 = nI (g.2 + 0) from nI_add _ 0]
        exact e3
    · rw [k3, f2.i (by unfold zAm; omega), f1.i (by unfold zAy; omega)]
    · unfold zAy at e
      rcases e with e | e | e
      · exact Or.inr (by unfold zAs; omega)
      · exact Or.inr (by unfold zAs; omega)
      · exact Or.inl ⟨by unfold zScr; omega, by omega⟩
theorem c_years (w : zRel c h pp P L) (x y z : Int32) : zCall c h pp P (s_L_years pp x y z 90 1 h) (s_X11_years x y z) := by
  show zCall c h pp P (zHb (s_X10_years pp x y z h)) (s_X11_years x y z)
  have hP := w.2.1
  have hR := hP.1
  have bad : (z < nI 0 ∨ nI 3 ≤ z) → zCall c h pp P (zHb (s_X10_years pp x y z h)) (s_X11_years x y z) := by
    intro hx
    refine zCall.j1 (v := nI 0) w (by rw [s_X10_years, show (3 : Int32) = nI 3 from rfl, n_wha0 hx, zbx_r]) (zAsk.fail (fun h w => ?_))
    rw [show (0 : Int64) = (nI 0).toInt64 from rfl, show (2 : Int64) = (nI 2).toInt64 from rfl, k_in0 (hx.imp id zq_lt3), ob_e, if_neg (by decide)]
    rfl
  rcases zq_any z 3 (by omega) with hx | hx | ⟨i, hi, rfl⟩
  · exact bad (Or.inl hx)
  · exact bad (Or.inr hx)
  · have gi : ∀ h, s_X11_isIn (nI i).toInt64 (0 : Int64) (2 : Int64) h = some (nI 1) := fun h => k_in1 (a := 0) (b := 2) (by omega) (by omega) (by omega) h
    rcases zq_with y 0 60 (by omega) (by omega) with hy | ⟨d, -, hd, rfl⟩
    · refine zCall.j0 (v := nI 0) w (by rw [s_X10_years, show (3 : Int32) = nI 3 from rfl, n_wha1 hi (by omega), zbx_l, zq_0, zq_60, n_wit0 hy, zbx_r]) (zAsk.fail (fun h w => ?_))
      rw [gi, ob_e, if_pos (by decide), show (0 : Int64) = (nI 0).toInt64 from rfl, show (60 : Int64) = (nI 60).toInt64 from rfl, k_in0 hy, ob_e, if_neg (by decide)]
      rfl
    · have gd : ∀ h, s_X11_isIn (nI d).toInt64 (0 : Int64) (60 : Int64) h = some (nI 1) := fun h => k_in1 (a := 0) (b := 60) (by omega) (by omega) (by omega) h
      obtain ⟨w0, -, hL, wC, wM, cC, cM, -⟩ := id w
      have ho := hL.1.1
      obtain ⟨h1, e1, s1, f1⟩ := k_copy (a0 := 30) (a1 := 19) (by omega) hR ho.2.2.2.2.2 cC.1
      have f2 : zfr (fun b _ => b = 50) h1 (zwI h1 50 0 x) := zfr.wI 50 0 _ rfl
      have z2 : zI (zwI h1 50 0 x) 50 0 = x := by rw [zI_wI, if_pos rfl, if_pos rfl]
      have x2 : s_X10_years pp x (nI d) (nI i) h = s_X10_years_L25 pp zfu (nI d) (nI i) (nI 0) (nI 0) (nI 0) (zwI h1 50 0 x) := by
        rw [s_X10_years, show (3 : Int32) = nI 3 from rfl, n_wha1 hi (by omega), zbx_l, zq_0, zq_60, n_wit1 (by omega) hd (by omega), zbx_l, e1, ob_e, zlt_e]
      generalize zwI h1 50 0 x = h2 at f2 z2 x2
      have w2 : zPC h2 pp P := (wC.fr f1 (fun b k _ _ => by omega)).fr f2 (fun b k _ _ => by omega)
      have s2 : zSC h2 30 (pR P) (lS L) := s1.fr f2 (fun b k _ _ => by omega)
      obtain ⟨h3, e3, s3, w3, f3⟩ := k_years_L (x := x) w0 hP ho hd (nI i) d 0 zfu h2 (by omega) (zq_fu (by omega)) w2 s2 z2
      have x3 := x2.trans e3
      rw [s_X10_years_L25, if_pos (nI_le (by omega) (by omega))] at x3
      have fs : zfr zScr h h3 := ((f1.mo (fun b k e => by unfold zScr; omega)).tr (f2.mo (fun b k e => by unfold zScr; omega))).tr (f3.mo (fun b k e => by unfold zScr; omega))
      have ok := qYr_ok (x := x) hP ho d
      have gM : ∀ h, zRel c h pp P L → ∃ h4 h5 h7, s_X11_pack 71 38 (0 : Int32) h = some h4 ∧ s_X11_years_L37 zfu (nI d) (nI i) (nI 0) (nI 0) (nI 0) (zwI h4 52 58 x) = s_X11_years_L37 1 (nI d) (nI i) (nI (qYr P x (lS L) d).2.2.1) (nI (qYr P x (lS L) d).2.2.2) (nI d) h5 ∧ s_X11_unpack 71 38 (0 : Int32) h5 = some h7 ∧ zSM h5 (pR P) (qYr P x (lS L) d).2.1 ∧ zPM h5 P ∧ zI h7 52 4 = zI h 52 4 ∧ zfr zScr h h7 := by
        intro h w
        obtain ⟨w0, -, hL, wC, wM, cC, cM, -⟩ := id w
        obtain ⟨h4, e4, v4, f4⟩ := r_pack 71 (Or.inl rfl) h
        have w4 : zPM h4 P := wM.fr f4 (fun b k e => by omega)
        have s4 : zSM h4 (pR P) (lS L) := cM.1.fr f4 (fun b k e => by omega)
        have f5 : zfr (fun b k => b = 52 ∧ k = 58) h4 (zwI h4 52 58 x) := zfr.wI 52 58 _ ⟨rfl, rfl⟩
        have z5 : zI (zwI h4 52 58 x) 52 58 = x := by rw [zI_wI, if_pos rfl, if_pos rfl]
        have f5' : zfr (zAx 71) h4 (zwI h4 52 58 x) := f5.mo (fun b k e => Or.inl ⟨by unfold zScr; omega, by omega⟩)
        obtain ⟨h6, e6, s6, w6, k6, f6⟩ := k_yearM_L (x := x) hP ho hd (nI i) d 0 zfu (zwI h4 52 58 x) (by omega) (zq_fu (by omega)) (w4.fr f5 (fun b k e => by omega)) (s4.fr f5 (fun b k e => by omega)) z5
        obtain ⟨h7, e7, f7, g7⟩ := r_unp (Or.inl rfl) v4 f4 (f5'.tr f6)
        refine ⟨h4, h6, h7, e4, e6, e7, s6, w6, ?_, f7⟩
        rw [g7.i (by unfold zAs; omega), k6, f5.i (by omega), f4.i (by omega)]
      have e : i = 0 ∨ i = 1 ∨ i = 2 := by omega
      rcases e with e | e | e <;> subst e
      · refine zCall.j (v := nI (qYr P x (lS L) d).2.2.1) w (by rw [x3, if_pos (show nI 0 = 0 from rfl)]) fs (zAsk.go (fun h w k4 => ?_))
        obtain ⟨h4, h5, h7, e4, e5, e7, s5, p5, g7, f7⟩ := gM h w
        refine ⟨h7, ?_, g7.trans k4, f7⟩
        rw [gi, ob_e, if_pos (by decide), gd, ob_e, if_pos (by decide), e4, ob_e, zlt_e]
        refine Eq.trans e5 ?_
        rw [s_X11_years_L37, if_pos (nI_le (by omega) (by omega)), if_neg (fun n => n rfl), s_X11_years_J77, e7, ob_e]
      · refine zCall.j (v := nI (qYr P x (lS L) d).2.2.2) w (by rw [x3, if_neg (by decide), if_pos (show nI 1 = 1 from rfl)]) fs (zAsk.go (fun h w k4 => ?_))
        obtain ⟨h4, h5, h7, e4, e5, e7, s5, p5, g7, f7⟩ := gM h w
        refine ⟨h7, ?_, g7.trans k4, f7⟩
        rw [gi, ob_e, if_pos (by decide), gd, ob_e, if_pos (by decide), e4, ob_e, zlt_e]
        refine Eq.trans e5 ?_
        rw [s_X11_years_L37, if_pos (nI_le (by omega) (by omega)), if_pos (by decide), if_neg (fun n => n rfl), s_X11_years_J77, e7, ob_e]
      · refine zCall.j (v := nI (fb_sm (qYr P x (lS L) d).2.1 (pR P))) w (by rw [x3, if_neg (by decide), if_neg (by decide), w3.1, k_tot hR s3.1, ob_e]) fs (zAsk.go (fun h w k4 => ?_))
        obtain ⟨h4, h5, h7, e4, e5, e7, s5, p5, g7, f7⟩ := gM h w
        refine ⟨h7, ?_, g7.trans k4, f7⟩
        rw [gi, ob_e, if_pos (by decide), gd, ob_e, if_pos (by decide), e4, ob_e, zlt_e]
        refine Eq.trans e5 ?_
        rw [s_X11_years_L37, if_pos (nI_le (by omega) (by omega)), if_pos (by decide), if_pos (by decide), k_totM hR p5.1 s5.1, ob_e, s_X11_years_J77, e7, ob_e]
end YR
