/-! ===== days go by: then, later, lost, strongest, pace ===== -/
/-- what the reference may change while a state is packed in row b -/
def zAx (b : Nat) : Nat → Nat → Prop := fun c k => (zScr c k ∧ c ≠ b) ∨ zAs c k
/-- gaps of all sails done in the first d days -/
def qRn (P : zPl) (S : Nat → Nat) : Nat → Nat
  | 0 => 0
  | d + 1 => if qDone P (qIt P S d) = true then qRn P S d ||| qDg P (qIt P S d) else qRn P S d
theorem qIt_ok {P : zPl} (hP : pOk P) {S : Nat → Nat} (h : sOk (pR P) S) : ∀ d, sOk (pR P) (qIt P S d) := by
  intro d
  induction d with
  | zero => exact h
  | succ d ih => exact qDay_ok hP ih
theorem zAm_x (b : Nat) (hb : b = 71 ∨ b = 78) : ∀ c k, zAm c k → zAx b c k := by
  intro c k e
  unfold zAm at e
  rcases e with e | e | e | e | e | ⟨e1, e | e⟩
  · exact Or.inr (by unfold zAs; omega)
  · exact Or.inr (by unfold zAs; omega)
  · exact Or.inr (by unfold zAs; omega)
  · exact Or.inl ⟨by unfold zScr; omega, by omega⟩
  · exact Or.inl ⟨by unfold zScr; omega, by omega⟩
  · exact Or.inr (by unfold zAs; omega)
  · exact Or.inl ⟨by unfold zScr; omega, by omega⟩
theorem qMc_as : ∀ c k, zAs c k → ∃ j, j < 38 ∧ qMc j = (c, k) := by
  intro c k e
  unfold zAs at e
  rcases e with ⟨rfl, e⟩ | ⟨rfl, e⟩ | ⟨rfl, e⟩ | ⟨rfl, e⟩ | ⟨rfl, e1, e2⟩
  · refine ⟨24 + k, by omega, ?_⟩
    unfold qMc
    rw [if_neg (by omega), if_neg (by omega), if_neg (by omega), if_neg (by omega), if_neg (by omega), if_neg (by omega), if_neg (by omega), if_neg (by omega), if_pos (by omega), show 24 + k - 24 = k by omega]
  · refine ⟨36 + k, by omega, ?_⟩
    unfold qMc
    rw [if_neg (by omega), if_neg (by omega), if_neg (by omega), if_neg (by omega), if_neg (by omega), if_neg (by omega), if_neg (by omega), if_neg (by omega), if_neg (by omega), show 36 + k - 36 = k by omega]
  · refine ⟨6 + k, by omega, ?_⟩
    unfold qMc
    rw [if_neg (by omega), if_neg (by omega), if_neg (by omega), if_neg (by omega), if_neg (by omega), if_neg (by omega), if_pos (by omega), show 6 + k - 6 = k by omega]
  · refine ⟨15 + k, by omega, ?_⟩
    unfold qMc
    rw [if_neg (by omega), if_neg (by omega), if_neg (by omega), if_neg (by omega), if_neg (by omega), if_neg (by omega), if_neg (by omega), if_pos (by omega), show 15 + k - 15 = k by omega]
  · have e : k = 29 ∨ k = 30 ∨ k = 31 ∨ k = 32 ∨ k = 33 ∨ k = 34 := by omega
    rcases e with e | e | e | e | e | e <;> subst e
    · exact ⟨0, by omega, rfl⟩
    · exact ⟨1, by omega, rfl⟩
    · exact ⟨2, by omega, rfl⟩
    · exact ⟨3, by omega, rfl⟩
    · exact ⟨4, by omega, rfl⟩
    · exact ⟨5, by omega, rfl⟩
section DY
variable {c pp : Nat} {h h4 h5 : zH} {P : zPl} {L : zLg}
theorem r_pack (b : Nat) (hb : b = 71 ∨ b = 78) (h : zH) : ∃ h4, s_X11_pack b 38 (0 : Int32) h = some h4 ∧ (∀ j, j < 38 → zI h4 b j = zMr h j) ∧ zfr (fun c k => c = b ∧ k < 38) h h4 := by
  obtain ⟨h4, e, v, f⟩ := k_packM (h := h) (b := b) (n := 38) (o := 0) (by omega) (by omega) (by omega)
  refine ⟨h4, e, fun j hj => ?_, f.mo (fun c k q => ⟨q.1, by omega⟩)⟩
  have := v j hj
  rw [Nat.zero_add] at this
  exact this
/-- back: all is as it was -/
theorem r_unp {b : Nat} (hb : b = 71 ∨ b = 78) (v : ∀ j, j < 38 → zI h4 b j = zMr h j) (f : zfr (fun c k => c = b ∧ k < 38) h h4) (g : zfr (zAx b) h4 h5) : ∃ h7, s_X11_unpack b 38 (0 : Int32) h5 = some h7 ∧ zfr zScr h h7 ∧ zfr zAs h5 h7 := by
  obtain ⟨h7, e, u, f7⟩ := k_unpM (h := h5) (b := b) (n := 38) (o := 0) (by omega) (by omega) (by omega)
  refine ⟨h7, e, ?_, f7⟩
  refine ⟨f7.1.trans (g.1.trans f.1), f7.2.1.trans (g.2.1.trans f.2.1), f7.2.2.1.trans (g.2.2.1.trans f.2.2.1), f7.2.2.2.1.trans (g.2.2.2.1.trans f.2.2.2.1), f7.2.2.2.2.1.trans (g.2.2.2.2.1.trans f.2.2.2.2.1), f7.2.2.2.2.2.1.trans (g.2.2.2.2.2.1.trans f.2.2.2.2.2.1), fun a k n => ?_⟩
  by_cases q : zAs a k
  · obtain ⟨j, hj, ej⟩ := qMc_as a k q
    have e1 := u j hj
    rw [Nat.zero_add, g.i (by
      intro w
      rcases w with w | w
      · exact w.2 rfl
      · unfold zAs at w; omega), v j hj] at e1
    unfold zMr at e1
    rw [ej] at e1
    exact e1
  · rw [f7.i q, g.i (by
      intro w
      rcases w with w | w
      · exact n w.1
      · exact q w), f.i (by
      intro w
      apply n
      unfold zScr
      omega)]
theorem k_goOn (hP : pOk P) {S : Nat → Nat} (ho : sOk (pR P) S) {d : Nat} (hd : d ≤ 60) : ∀ k i n h, i + k = d → k < n → zPM h P → zSM h (pR P) (qIt P S i) → ∃ h', s_X11_goOn_L2 n (nI d) (nI i) h = some h' ∧ zSM h' (pR P) (qIt P S d) ∧ zfr zAm h h' := by
  intro k
  induction k with
  | zero =>
    intro i n h e hn w s
    obtain ⟨m, rfl, -⟩ := zq_suc hn
    have e2 : i = d := by omega
    subst e2
    refine ⟨h, ?_, s, zfr.rf _ h⟩
    rw [s_X11_goOn_L2, if_pos (nI_le (by omega) (by omega))]
  | succ k ih =>
    intro i n h e hn w s
    obtain ⟨m, rfl, hm⟩ := zq_suc hn
    obtain ⟨h1, e1, s1, -, -, f1⟩ := k_day hP w s (qIt_ok hP ho i)
    have w1 : zPM h1 P := w.fr f1 (fun b k e => by unfold zAm; omega)
    obtain ⟨h2, e2, s2, f2⟩ := ih (i + 1) m h1 (by omega) (by omega) w1 s1
    rw [s_X11_goOn_L2, if_neg (nI_ge (by omega) (by omega)), e1, ob_e, show nI i + 1 = nI (i + 1) from nI_1 i]
    exact ⟨h2, e2, s2, f1.tr f2⟩
theorem k_try (hp : pp = 2 ∨ pp = 9) (hP : pOk P) {S : Nat → Nat} (ho : sOk (pR P) S) {d : Nat} (hd : d ≤ 60) : ∀ k i n h, i + k = d → k < n → zPC h pp P → zSC h 30 (pR P) (qIt P S i) → ∃ h', s_X10_tryDays_L10 pp n (nI d) (nI (qRn P S i)) (nI i) h = some (nI (qRn P S d), h') ∧ zSC h' 30 (pR P) (qIt P S d) ∧ zfr (zAd 30) h h' := by
  intro k
  induction k with
  | zero =>
    intro i n h e hn w s
    obtain ⟨m, rfl, -⟩ := zq_suc hn
    have e2 : i = d := by omega
    subst e2
    refine ⟨h, ?_, s, zfr.rf _ h⟩
    rw [s_X10_tryDays_L10, if_pos (nI_le (by omega) (by omega))]
  | succ k ih =>
    intro i n h e hn w s
    obtain ⟨m, rfl, hm⟩ := zq_suc hn
    obtain ⟨h1, e1, s1, g1, f1⟩ := k_pass (Or.inr rfl) hp hP w s (qIt_ok hP ho i)
    have w1 : zPC h1 pp P := w.fr f1 (fun b k _ _ => by unfold zAd; omega)
    obtain ⟨h2, e2, s2, f2⟩ := ih (i + 1) m h1 (by omega) (by omega) w1 s1
    rw [s_X10_tryDays_L10, if_neg (nI_ge (by omega) (by omega)), e1, zbd_e, show nI i + 1 = nI (i + 1) from nI_1 i]
    refine ⟨h2, ?_, s2, f1.tr f2⟩
    rw [qRn] at e2
    cases hq : qDone P (qIt P S i) with
    | true =>
      rw [hq, if_pos rfl] at e2
      rw [if_neg (by decide), (g1 hq).1, fa_or]
      exact e2
    | false =>
      rw [hq, if_neg (by decide)] at e2
      rw [if_pos (show nI false.toNat = 0 from rfl)]
      exact e2
/-- the class's own trial -/
theorem r_try (w : zRel c h pp P L) {d : Nat} (hd : d ≤ 60) : ∃ h', s_X10_tryDays pp (nI d) h = some (nI (qRn P (lS L) d), h') ∧ zSC h' 30 (pR P) (qIt P (lS L) d) ∧ zfr (fun b _ => 30 ≤ b ∧ b ≤ 38) h h' := by
  obtain ⟨w0, hP, hL, wC, wM, cC, cM, -⟩ := id w
  obtain ⟨h1, e1, s1, f1⟩ := k_copy (a0 := 30) (a1 := 19) (by omega) hP.1 hL.1.1.2.2.2.2.2 cC.1
  have w1 : zPC h1 pp P := wC.fr f1 (fun b k _ _ => by omega)
  obtain ⟨h2, e2, s2, f2⟩ := k_try w0 hP hL.1.1 hd d 0 zfu h1 (by omega) (zq_fu (by omega)) w1 s1
  refine ⟨h2, ?_, s2, (f1.mo (fun b k e => by omega)).tr (f2.mo (fun b k e => by unfold zAd at e; omega))⟩
  rw [s_X10_tryDays, e1, ob_e]
  exact e2
theorem zfr.scr {h h' : zH} (f : zfr (fun b _ => 30 ≤ b ∧ b ≤ 38) h h') : zfr zScr h h' := f.mo (fun b k e => by unfold zScr; omega)
/-- the reference's own: pack, days, what is asked, unpack -/
theorem r_exc (w : zRel c h pp P L) {d : Nat} (hd : d ≤ 60) : ∃ h4 h5 h7, s_X11_pack 71 38 (0 : Int32) h = some h4 ∧ s_X11_goOn (nI d) h4 = some h5 ∧ s_X11_unpack 71 38 (0 : Int32) h5 = some h7 ∧ zSM h5 (pR P) (qIt P (lS L) d) ∧ zPM h5 P ∧ zfr zScr h h7 ∧ zI h7 52 4 = zI h 52 4 := by
  obtain ⟨w0, hP, hL, wC, wM, cC, cM, -⟩ := id w
  obtain ⟨h4, e4, v4, f4⟩ := r_pack 71 (Or.inl rfl) h
  have w4 : zPM h4 P := wM.fr f4 (fun b k e => by omega)
  have s4 : zSM h4 (pR P) (lS L) := cM.1.fr f4 (fun b k e => by omega)
  obtain ⟨h5, e5, s5, f5⟩ := k_goOn hP hL.1.1 hd d 0 zfu h4 (by omega) (zq_fu (by omega)) w4 s4
  obtain ⟨h7, e7, f7, g7⟩ := r_unp (Or.inl rfl) v4 f4 (f5.mo (zAm_x 71 (Or.inl rfl)))
  refine ⟨h4, h5, h7, e4, e5, e7, s5, w4.fr f5 (fun b k e => by unfold zAm; omega), f7, ?_⟩
  rw [g7.i (by unfold zAs; omega), f5.i (by unfold zAm; omega), f4.i (by omega)]
theorem c_then (w : zRel c h pp P L) (x y : Int32) : zCall c h pp P (s_L_then pp x y 90 1 h) (s_X11_then x y) := by
  show zCall c h pp P (zHb (s_X10_then pp x y h)) (s_X11_then x y)
  have hP := w.2.1
  have hR := hP.1
  have bad : (x < nI 0 ∨ nI (pR P) ≤ x) → zCall c h pp P (zHb (s_X10_then pp x y h)) (s_X11_then x y) := by
    intro hx
    refine zCall.j1 (v := nI 0) w (by rw [s_X10_then, n_rib0 w hx, zbx_r]) (zAsk.fail (fun h w => ?_))
    rw [r_rib0 w hx, ob_e, if_neg (by decide)]
    rfl
  rcases zq_any x (pR P) (by omega) with hx | hx | ⟨j, hj, rfl⟩
  · exact bad (Or.inl hx)
  · exact bad (Or.inr hx)
  · rcases zq_with y 0 60 (by omega) (by omega) with hy | ⟨d, -, hd, rfl⟩
    · refine zCall.j0 (v := nI 0) w (by rw [s_X10_then, n_rib1 w hj, zbx_l, zq_0, zq_60, n_wit0 hy, zbx_r]) (zAsk.fail (fun h w => ?_))
      rw [r_rib1 w hj, ob_e, if_pos (by decide), show (0 : Int64) = (nI 0).toInt64 from rfl, show (60 : Int64) = (nI 60).toInt64 from rfl, k_in0 hy, ob_e, if_neg (by decide)]
      rfl
    · obtain ⟨h1, e1, s1, f1⟩ := r_try w hd
      refine zCall.j (v := nI (qIt P (lS L) d j)) w (by rw [s_X10_then, n_rib1 w hj, zbx_l, zq_0, zq_60, n_wit1 (by omega) hd (by omega), zbx_l, e1, zbd_e, zq_ix (by omega) (by omega), s1.1 j hj]) f1.scr (zAsk.go (fun h w k4 => ?_))
      obtain ⟨h4, h5, h7, e4, e5, e7, s5, -, f7, g7⟩ := r_exc w hd
      refine ⟨h7, ?_, g7.trans k4, f7⟩
      rw [r_rib1 w hj, ob_e, if_pos (by decide), show s_X11_isIn (nI d).toInt64 (0 : Int64) (60 : Int64) h = some (nI 1) from k_in1 (a := 0) (b := 60) (by omega) (by omega) (by omega) h, ob_e, if_pos (by decide), e4, ob_e, e5, ob_e, zq_ix (by omega) (by omega), e7, ob_e, s5.1 j hj]
theorem c_later (w : zRel c h pp P L) (x y : Int32) : zCall c h pp P (s_L_later pp x y 90 1 h) (s_X11_later x y) := by
  show zCall c h pp P (zHb (s_X10_later pp x y h)) (s_X11_later x y)
  have hP := w.2.1
  have hR := hP.1
  have bad : (y < nI 0 ∨ nI 4 ≤ y) → zCall c h pp P (zHb (s_X10_later pp x y h)) (s_X11_later x y) := by
    intro hx
    refine zCall.j1 (v := nI 0) w (by rw [s_X10_later, zq_4, n_wha0 hx, zbx_r]) (zAsk.fail (fun h w => ?_))
    rw [show (0 : Int64) = (nI 0).toInt64 from rfl, show (3 : Int64) = (nI 3).toInt64 from rfl, k_in0 (hx.imp id zq_lt4), ob_e, if_neg (by decide)]
    rfl
  rcases zq_any y 4 (by omega) with hx | hx | ⟨i, hi, rfl⟩
  · exact bad (Or.inl hx)
  · exact bad (Or.inr hx)
  · have gi : ∀ h, s_X11_isIn (nI i).toInt64 (0 : Int64) (3 : Int64) h = some (nI 1) := fun h => k_in1 (a := 0) (b := 3) (by omega) (by omega) (by omega) h
    rcases zq_with x 0 60 (by omega) (by omega) with hy | ⟨d, -, hd, rfl⟩
    · refine zCall.j0 (v := nI 0) w (by rw [s_X10_later, zq_4, n_wha1 hi (by omega), zbx_l, zq_0, zq_60, n_wit0 hy, zbx_r]) (zAsk.fail (fun h w => ?_))
      rw [gi, ob_e, if_pos (by decide), show (0 : Int64) = (nI 0).toInt64 from rfl, show (60 : Int64) = (nI 60).toInt64 from rfl, k_in0 hy, ob_e, if_neg (by decide)]
      rfl
    · obtain ⟨h1, e1, s1, f1⟩ := r_try w hd
      have w1 := w.fr f1.scr
      have ex : s_X10_later pp (nI d) (nI i) h = (if nI i = 0 then (some (Sum.inl (zI h1 33 0), h1)) else if nI i = 1 then (some (Sum.inl (zI h1 33 1), h1)) else if nI i = 2 then (some (Sum.inl (zI h1 30 7), h1)) else ((s_X8_goneBits 30 (zI h1 pp 6) h1).bind fun v7 => some (Sum.inl v7, h1))) := by
        rw [s_X10_later, zq_4, n_wha1 hi (by omega), zbx_l, zq_0, zq_60, n_wit1 (by omega) hd (by omega), zbx_l, e1, zbd_e]
      have gd : ∀ h, s_X11_isIn (nI d).toInt64 (0 : Int64) (60 : Int64) h = some (nI 1) := fun h => k_in1 (a := 0) (b := 60) (by omega) (by omega) (by omega) h
      have ok := qIt_ok hP w.2.2.1.1.1 d
      have e : i = 0 ∨ i = 1 ∨ i = 2 ∨ i = 3 := by omega
      rcases e with e | e | e | e <;> subst e
      · refine zCall.j (v := nI (qIt P (lS L) d 32)) w (by rw [ex, if_pos (show nI 0 = 0 from rfl), s1.2.2.2.1]) f1.scr (zAsk.go (fun h w k4 => ?_))
        obtain ⟨h4, h5, h7, e4, e5, e7, s5, -, f7, g7⟩ := r_exc w hd
        refine ⟨h7, ?_, g7.trans k4, f7⟩
        rw [gi, ob_e, if_pos (by decide), gd, ob_e, if_pos (by decide), e4, ob_e, e5, ob_e, if_neg (fun n => n rfl), s_X11_later_J50, e7, ob_e, s5.2.2.2.1]
      · refine zCall.j (v := nI (qIt P (lS L) d 33)) w (by rw [ex, if_neg (by decide), if_pos (show nI 1 = 1 from rfl), s1.2.2.2.2.1]) f1.scr (zAsk.go (fun h w k4 => ?_))
        obtain ⟨h4, h5, h7, e4, e5, e7, s5, -, f7, g7⟩ := r_exc w hd
        refine ⟨h7, ?_, g7.trans k4, f7⟩
        rw [gi, ob_e, if_pos (by decide), gd, ob_e, if_pos (by decide), e4, ob_e, e5, ob_e, if_pos (by decide), if_neg (fun n => n rfl), s_X11_later_J50, e7, ob_e, s5.2.2.2.2.1]
      · refine zCall.j (v := nI (qIt P (lS L) d 36)) w (by rw [ex, if_neg (by decide), if_neg (by decide), if_pos (show nI 2 = 2 from rfl), s1.2.2.2.2.2.2.2.1]) f1.scr (zAsk.go (fun h w k4 => ?_))
        obtain ⟨h4, h5, h7, e4, e5, e7, s5, -, f7, g7⟩ := r_exc w hd
        refine ⟨h7, ?_, g7.trans k4, f7⟩
        rw [gi, ob_e, if_pos (by decide), gd, ob_e, if_pos (by decide), e4, ob_e, e5, ob_e, if_pos (by decide), if_pos (by decide), if_neg (fun n => n rfl), s_X11_later_J50, e7, ob_e, s5.2.2.2.2.2.2.2.1]
      · refine zCall.j (v := nI (qGo (qIt P (lS L) d) (pR P))) w (by rw [ex, if_neg (by decide), if_neg (by decide), if_neg (by decide), w1.2.2.2.1.1, k_gone hR s1.1 ok.1, ob_e]) f1.scr (zAsk.go (fun h w k4 => ?_))
        obtain ⟨h4, h5, h7, e4, e5, e7, s5, p5, f7, g7⟩ := r_exc w hd
        refine ⟨h7, ?_, g7.trans k4, f7⟩
        rw [gi, ob_e, if_pos (by decide), gd, ob_e, if_pos (by decide), e4, ob_e, e5, ob_e, if_pos (by decide), if_pos (by decide), if_pos (by decide), k_goneM hR p5.1 s5.1 ok.1, ob_e, s_X11_later_J50, e7, ob_e]
end DY
