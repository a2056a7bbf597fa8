/-! ===== strong in the class ===== -/
theorem q_100 (r v : Nat) : ((100 : Int32) * nI r) + nI v = nI (100 * r + v) := by rw [show (100 : Int32) = nI 100 from rfl, pk_mul, nI_add]
theorem q_20 (r v : Nat) : ((20 : Int32) * nI r) + nI v = nI (20 * r + v) := by rw [show (20 : Int32) = nI 20 from rfl, pk_mul, nI_add]
theorem qFn_s (P : zPl) (L : zLg) (q : Nat) : qFn P L (q + 1) = qFn P L q + (if qFt P L q then 1 else 0) := fb_ct_succ _ q
theorem qFn_le (P : zPl) (L : zLg) (q : Nat) : qFn P L q ≤ q := fb_ct_le _ q
/-- none fits as long as there is no first one -/
theorem qF1_0 {P : zPl} {L : zLg} {q : Nat} (h : qFn P L q = 0) : fa_first (qFt P L) q = q := by
  have h1 := fa_first_le (qFt P L) q
  rcases Nat.lt_or_ge (fa_first (qFt P L) q) q with e | e
  · have h2 := fa_first_yes (qFt P L) q e
    have h3 := (fb_ct_zero (p := qFt P L) (n := q)).mp h _ e
    rw [h2] at h3
    cases h3
  · omega
theorem qF1_p {P : zPl} {L : zLg} {q : Nat} (h : qFn P L q ≠ 0) : fa_first (qFt P L) q < q := by
  have h1 := fa_first_le (qFt P L) q
  rcases Nat.lt_or_ge (fa_first (qFt P L) q) q with e | e
  · exact e
  · exfalso
    apply h
    apply (fb_ct_zero (p := qFt P L) (n := q)).mpr
    intro k hk
    exact fa_first_no (qFt P L) q k (by omega)
theorem qF1_s (P : zPl) (L : zLg) (q : Nat) : qF1 P L (q + 1) = if qFt P L q = true then (if qFn P L q = 0 then nI (100 * (q / 99) + (q % 99 + 1)) else qF1 P L q) else qF1 P L q := by
  unfold qF1
  rw [fa_first_s]
  by_cases h : qFn P L q = 0
  · have e := qF1_0 h
    rw [e, if_neg (Nat.lt_irrefl q), if_neg (Nat.lt_irrefl q), if_pos h]
    by_cases t : qFt P L q = true
    · rw [if_pos t, if_pos (Nat.lt_succ_self q), if_pos t]
    · rw [if_neg t, if_neg (Nat.lt_irrefl _), if_neg t]
  · have e := qF1_p h
    rw [if_pos e, if_pos (by omega), if_neg h, ite_self]
    rw [if_pos e]
theorem q_dm {r v : Nat} (hv : v < 99) : (99 * r + v) / 99 = r ∧ (99 * r + v) % 99 = v := by omega
theorem qSb_at (S : Nat → Nat) {r v : Nat} (hv : v < 99) : qSb S (99 * r + v) = zu S r (v + 1) := by
  unfold qSb
  rw [(q_dm hv).1, (q_dm hv).2]
theorem qFt_at (P : zPl) (L : zLg) {r v : Nat} (hv : v < 99) : qFt P L (99 * r + v) = (decide (v + 1 ≠ lS L r) && qAs P L (zu (lS L) r (v + 1))) := by
  unfold qFt
  rw [qSb_at _ hv, (q_dm hv).1, (q_dm hv).2]
/-- what the search writes -/
def zAz : Nat → Nat → Prop := fun b k => (30 ≤ b ∧ b ≤ 38) ∨ b = 48 ∨ (b = 47 ∧ 4 ≤ k ∧ k ≤ 7)
section SR
variable {c pp : Nat} {h h1 : zH} {P : zPl} {L : zLg} {S T : Nat → Nat} {R : Nat}
theorem k_fit_J (hp : pp = 2 ∨ pp = 9) (hP : pOk P) (hL : lOk (pR P) L) (ho : sOk (pR P) T) {D : Nat} (hD : D ≤ 20) (w : zPC h pp P) (s : zSen h L) (t : zSC h 30 (pR P) T) : ∃ h', s_X6_fits_J17 pp 18 (nI D) h = some (nI (qUp P L T (D + 1)).toNat, h') ∧ (qUp P L T (D + 1) = true → ∀ j, j ≤ D → zI h' 48 j = nI (qGo (qIt P T j) (pR P))) ∧ zfr zAfi h h' := by
  have hR := hP.1
  have b1 := qGo_l T hR
  rw [s_X6_fits_J17, w.1, k_gone hR t.1 ho.1, ob_e, zlt_e]
  have f2 : zfr (fun b _ => b = 48) h (zwI h 48 0 (nI (qGo T (pR P)))) := zfr.wI 48 _ _ rfl
  have g2 : ∀ j, j ≤ 0 → zI (zwI h 48 0 (nI (qGo T (pR P)))) 48 j = nI (qGo (qIt P T j) (pR P)) := by
    intro j hj
    have e : j = 0 := by omega
    subst e
    rw [zI_wI, if_pos rfl, if_pos rfl, qIt]
  generalize zwI h 48 0 (nI (qGo T (pR P))) = h2 at f2 g2 ⊢
  have n2 : zSen h2 L := s.fr f2 (fun b k e => by omega)
  obtain ⟨h3, e3, g3, f3⟩ := k_fit_L hp hP hL ho hD D 0 zfu h2 (by omega) (zq_fu (by omega)) (w.fr f2 (fun b k _ _ => by omega)) n2 (by rw [qIt]; exact t.fr f2 (fun b k _ _ => by omega)) g2
  refine ⟨h3, ?_, g3, (f2.mo (fun b k e => by unfold zAfi; omega)).tr f3⟩
  have g0 := g2 0 (by omega)
  rw [qIt] at g0
  rw [s_X6_isAsSeen, show s_X6_isAsSeen_L2 18 zfu 0 0 h2 = _ from k_ias (T := T) (d := 0) hR hL n2 (by omega) g0 (lm L) 0 zfu (by omega) (zq_fu (by have := hL.2.2.2.1; omega)) (decide_eq_true (fun i hi => by omega)), ob_e]
  rw [qUp_s P L T 0, qUp_0, Bool.true_and, qIt] at e3
  exact e3
theorem k_fit1 (hp : pp = 2 ∨ pp = 9) (hP : pOk P) (hL : lOk (pR P) L) {D r v : Nat} (hD : D ≤ 20) (hr : r < pR P) (hv : v ≤ 99) (w : zPC h pp P) (s : zSen h L) (t : zSC h 19 (pR P) (lS L)) : ∃ h', s_X6_fits pp 18 (nI r) (nI v) (nI D) h = some (nI (qUp P L (zu (lS L) r v) (D + 1)).toNat, h') ∧ (qUp P L (zu (lS L) r v) (D + 1) = true → ∀ j, j ≤ D → zI h' 48 j = nI (qGo (qIt P (zu (lS L) r v) j) (pR P))) ∧ zfr zAfi h h' := by
  have hR := hP.1
  have ho := hL.1.1
  obtain ⟨h1, e1, s1, f1⟩ := k_copy (a0 := 30) (a1 := 19) (by omega) hR ho.2.2.2.2.2 t
  have w1 : zPC h1 pp P := w.fr f1 (fun b k _ _ => by omega)
  have n1 : zSen h1 L := s.fr f1 (fun b k e => by omega)
  have f2 : zfr (fun b _ => b = 31) h1 (zwI h1 (30 + 1) r (nI v)) := zfr.wI 31 _ _ rfl
  have s2 := zSC_str hR ho.2.2.2.2.2 s1 (r := r) (by omega) v
  obtain ⟨h3, e3, g3, f3⟩ := k_fit_J hp hP hL (sOk_str hR ho (r := r) (v := v) (by omega) hv) hD (w1.fr f2 (fun b k _ _ => by omega)) (n1.fr f2 (fun b k e => by omega)) s2
  refine ⟨h3, ?_, g3, ((f1.mo (fun b k e => by unfold zAfi; omega)).tr (f2.mo (fun b k e => by unfold zAfi; omega))).tr f3⟩
  rw [s_X6_fits, show s_X8_copyFrom 30 (18 + 1) h = some h1 from e1, ob_e, if_neg (nI_pos (by omega)), w1.1, if_neg (nI_ge hr (by omega)), zq_ix (by omega) (by omega), zlt_e]
  exact e3
theorem k_fit0 (hp : pp = 2 ∨ pp = 9) (hP : pOk P) (hL : lOk (pR P) L) {D : Nat} (hD : D ≤ 20) (w : zPC h pp P) (s : zSen h L) (t : zSC h 19 (pR P) (lS L)) : ∃ h', s_X6_fits pp 18 (-1 : Int32) (0 : Int32) (nI D) h = some (nI (qUp P L (lS L) (D + 1)).toNat, h') ∧ zfr zAfi h h' := by
  have hR := hP.1
  have ho := hL.1.1
  obtain ⟨h1, e1, s1, f1⟩ := k_copy (a0 := 30) (a1 := 19) (by omega) hR ho.2.2.2.2.2 t
  obtain ⟨h3, e3, g3, f3⟩ := k_fit_J hp hP hL ho hD (w.fr f1 (fun b k _ _ => by omega)) (s.fr f1 (fun b k e => by omega)) s1
  refine ⟨h3, ?_, (f1.mo (fun b k e => by unfold zAfi; omega)).tr f3⟩
  rw [s_X6_fits, show s_X8_copyFrom 30 (18 + 1) h = some h1 from e1, ob_e, if_pos (show (-1 : Int32) < 0 by decide)]
  exact e3
theorem k_sr1 (hp : pp = 2 ∨ pp = 9) (hP : pOk P) (hL : lOk (pR P) L) {r : Nat} (hr : r < pR P) (K : Int32 → Int32 → zH → Option zH) : ∀ k v n h, v + k = 99 → k < n → zPC h pp P → zSen h L → zSC h 19 (pR P) (lS L) → zI h 47 5 = nI (qFn P L (99 * r + v)) → zI h 47 6 = qF1 P L (99 * r + v) → ∃ h', s_X6_search_L22 pp 18 K n (nI (qLd L (lm L))) (nI r) (nI (v + 1)) h = K (nI (qLd L (lm L))) (nI (r + 1)) h' ∧ zI h' 47 5 = nI (qFn P L (99 * (r + 1))) ∧ zI h' 47 6 = qF1 P L (99 * (r + 1)) ∧ zfr zAz h h' := by
  intro k
  have hR := hP.1
  have hD : qLd L (lm L) ≤ 20 := qLd_le _ (fun i hi => (hL.2.2.2.2 i hi).2.1)
  induction k with
  | zero =>
    intro v n h e hn w s t a1 a2
    obtain ⟨m, rfl, -⟩ := zq_suc hn
    have e2 : v = 99 := by omega
    subst e2
    refine ⟨h, ?_, ?_, ?_, zfr.rf _ h⟩
    · rw [s_X6_search_L22, if_pos (by decide), show nI r + 1 = nI (r + 1) from nI_1 r]
    · rw [a1, show 99 * (r + 1) = 99 * r + 99 by omega]
    · rw [a2, show 99 * (r + 1) = 99 * r + 99 by omega]
  | succ k ih =>
    intro v n h e hn w s t a1 a2
    obtain ⟨m, rfl, hm⟩ := zq_suc hn
    have hv : v < 99 := by omega
    have bs := hL.1.1.1 r hr
    have bf := qFn_le P L (99 * r + v)
    have ft := qFt_at P L (r := r) hv
    have fs := qFn_s P L (99 * r + v)
    have gs := qF1_s P L (99 * r + v)
    rw [s_X6_search_L22, if_neg (show ¬ (99 : Int32) < nI (v + 1) from nI_nlt (a := 99) (by omega) (by omega)), zq_ix (by omega) (by omega), show zI h (18 + 2) r = nI (lS L r) from t.1 r hr, show nI (v + 1) + 1 = nI (v + 1 + 1) from nI_1 _]
    by_cases q : v + 1 = lS L r
    · rw [if_pos (by rw [q])]
      have z : qFt P L (99 * r + v) = false := by rw [ft, decide_eq_false (by omega), Bool.false_and]
      rw [z] at fs gs
      rw [if_neg (by decide)] at fs gs
      exact ih (v + 1) m h (by omega) (by omega) w s t (by rw [a1, show 99 * r + (v + 1) = 99 * r + v + 1 by omega, fs]; rfl) (by rw [a2, show 99 * r + (v + 1) = 99 * r + v + 1 by omega, gs])
    · rw [if_neg (fun e => q ((nI_eq (by omega) (by omega)).mp e))]
      obtain ⟨h1, e1, -, f1⟩ := k_fit1 hp hP hL hD hr (v := v + 1) (by omega) w s t
      rw [qUp_as (fun i hi => Nat.lt_succ_of_le (qLd_in L _ i hi))] at e1
      rw [decide_eq_true q, Bool.true_and] at ft
      rw [← ft] at e1
      rw [e1, zbd_e]
      have w1 : zPC h1 pp P := w.fr f1 (fun b k _ _ => by unfold zAfi; omega)
      have s1 : zSen h1 L := s.fr f1 (fun b k e => by unfold zAfi; omega)
      have t1 : zSC h1 19 (pR P) (lS L) := t.fr f1 (fun b k _ _ => by unfold zAfi; omega)
      have b1 : zI h1 47 5 = nI (qFn P L (99 * r + v)) := by rw [f1.i (by unfold zAfi; omega)]; exact a1
      have b2 : zI h1 47 6 = qF1 P L (99 * r + v) := by rw [f1.i (by unfold zAfi; omega)]; exact a2
      have f1' : zfr zAz h h1 := f1.mo (fun b k e => by unfold zAfi at e; unfold zAz; omega)
      cases hq : qFt P L (99 * r + v) with
      | false =>
        rw [hq, if_neg (by decide)] at fs gs
        rw [if_pos (show nI false.toNat = 0 from rfl)]
        obtain ⟨h2, e2, c1, c2, f2⟩ := ih (v + 1) m h1 (by omega) (by omega) w1 s1 t1 (by rw [b1, show 99 * r + (v + 1) = 99 * r + v + 1 by omega, fs]; rfl) (by rw [b2, show 99 * r + (v + 1) = 99 * r + v + 1 by omega, gs])
        exact ⟨h2, e2, c1, c2, f1'.tr f2⟩
      | true =>
        rw [hq, if_pos rfl] at fs gs
        rw [if_neg (by decide), b1, b2]
        have key : ∀ x : Int32, x = qF1 P L (99 * r + v + 1) → ∃ h', s_X6_search_J52 pp 18 (s_X6_search_L22 pp 18 K m) (nI (qLd L (lm L))) (nI r) (nI (v + 1)) x h1 = K (nI (qLd L (lm L))) (nI (r + 1)) h' ∧ zI h' 47 5 = nI (qFn P L (99 * (r + 1))) ∧ zI h' 47 6 = qF1 P L (99 * (r + 1)) ∧ zfr zAz h h' := by
          intro x ex
          rw [s_X6_search_J52, zlt_e, zlt_e, zI_wI, if_pos rfl, if_neg (by decide), b1, show nI (qFn P L (99 * r + v)) + 1 = nI (qFn P L (99 * r + v) + 1) from nI_1 _, show nI (v + 1) + 1 = nI (v + 1 + 1) from nI_1 _]
          have f2 : zfr (fun b k => b = 47 ∧ 4 ≤ k ∧ k ≤ 7) h1 (zwI (zwI h1 47 6 x) 47 5 (nI (qFn P L (99 * r + v) + 1))) := (zfr.wI 47 6 _ (by omega)).w 47 5 _ (by omega)
          have d1 : zI (zwI (zwI h1 47 6 x) 47 5 (nI (qFn P L (99 * r + v) + 1))) 47 5 = nI (qFn P L (99 * r + v) + 1) := by rw [zI_wI, if_pos rfl, if_pos rfl]
          have d2 : zI (zwI (zwI h1 47 6 x) 47 5 (nI (qFn P L (99 * r + v) + 1))) 47 6 = x := by rw [zI_wI, if_pos rfl, if_neg (by decide), zI_wI, if_pos rfl, if_pos rfl]
          generalize zwI (zwI h1 47 6 x) 47 5 (nI (qFn P L (99 * r + v) + 1)) = h2 at f2 d1 d2 ⊢
          obtain ⟨h3, e3, c1, c2, f3⟩ := ih (v + 1) m h2 (by omega) (by omega) (w1.fr f2 (fun b k _ _ => by omega)) (s1.fr f2 (fun b k e => by omega)) (t1.fr f2 (fun b k _ _ => by omega)) (by rw [d1, show 99 * r + (v + 1) = 99 * r + v + 1 by omega, fs]) (by rw [d2, ex, show 99 * r + (v + 1) = 99 * r + v + 1 by omega])
          exact ⟨h3, e3, c1, c2, (f1'.tr (f2.mo (fun b k e => by unfold zAz; omega))).tr f3⟩
        by_cases z : qFn P L (99 * r + v) = 0
        · rw [z, if_neg (fun n => n rfl)]
          apply key
          rw [gs, if_pos z, (q_dm hv).1, (q_dm hv).2, q_100]
        · rw [if_pos (nI_ne0 (by omega) (by omega))]
          apply key
          rw [gs, if_neg z]
theorem k_sr2 (hp : pp = 2 ∨ pp = 9) (hP : pOk P) (hL : lOk (pR P) L) : ∀ k r n h, r + k = pR P → k < n → zPC h pp P → zSen h L → zSC h 19 (pR P) (lS L) → zI h 47 5 = nI (qFn P L (99 * r)) → zI h 47 6 = qF1 P L (99 * r) → ∃ h', s_X6_search_L16 pp 18 n (nI (qLd L (lm L))) (nI r) h = some h' ∧ zI h' 47 4 = nI 1 ∧ zI h' 47 5 = nI (qFn P L (99 * pR P)) ∧ zI h' 47 6 = qF1 P L (99 * pR P) ∧ zI h' 47 7 = nI (qAs P L (lS L)).toNat ∧ zfr zAz h h' := by
  intro k
  have hR := hP.1
  have hD : qLd L (lm L) ≤ 20 := qLd_le _ (fun i hi => (hL.2.2.2.2 i hi).2.1)
  induction k with
  | zero =>
    intro r n h e hn w s t a1 a2
    obtain ⟨m, rfl, -⟩ := zq_suc hn
    have e2 : r = pR P := by omega
    subst e2
    obtain ⟨h1, e1, f1⟩ := k_fit0 hp hP hL hD w s t
    rw [qUp_as (fun i hi => Nat.lt_succ_of_le (qLd_in L _ i hi))] at e1
    rw [s_X6_search_L16, w.1, if_pos (nI_le (by omega) (by omega)), e1, zbd_e]
    have z : ∀ (α : Type) (b : Bool) (X : Option α), zbo (nI b.toNat) X = X := by intro α b X; cases b <;> rfl
    rw [z, zlt_e, zlt_e]
    refine ⟨_, rfl, ?_, ?_, ?_, ?_, ?_⟩
    · rw [zI_wI, if_pos rfl, if_pos rfl]; rfl
    · rw [zI_wI, if_pos rfl, if_neg (by decide), zI_wI, if_pos rfl, if_neg (by decide), f1.i (by unfold zAfi; omega)]; exact a1
    · rw [zI_wI, if_pos rfl, if_neg (by decide), zI_wI, if_pos rfl, if_neg (by decide), f1.i (by unfold zAfi; omega)]; exact a2
    · rw [zI_wI, if_pos rfl, if_neg (by decide), zI_wI, if_pos rfl, if_pos rfl]
    · exact ((f1.mo (fun b k e => by unfold zAfi at e; unfold zAz; omega)).w 47 7 _ (by unfold zAz; omega)).w 47 4 _ (by unfold zAz; omega)
  | succ k ih =>
    intro r n h e hn w s t a1 a2
    obtain ⟨m, rfl, hm⟩ := zq_suc hn
    rw [s_X6_search_L16, w.1, if_neg (nI_ge (by omega) (by omega))]
    obtain ⟨h1, e1, b1, b2, f1⟩ := k_sr1 hp hP hL (r := r) (by omega) (s_X6_search_L16 pp 18 m) 99 0 zfu h (by omega) (zq_fu (by omega)) w s t a1 a2
    obtain ⟨h2, e2, c1, c2, c3, c4, f2⟩ := ih (r + 1) m h1 (by omega) (by omega) (w.fr f1 (fun b k _ _ => by unfold zAz; omega)) (s.fr f1 (fun b k e => by unfold zAz; omega)) (t.fr f1 (fun b k _ _ => by unfold zAz; omega)) b1 b2
    refine ⟨h2, ?_, c1, c2, c3, c4, f1.tr f2⟩
    rw [show s_X6_search_L22 pp 18 (s_X6_search_L16 pp 18 m) zfu (nI (qLd L (lm L))) (nI r) 1 h = _ from e1]
    exact e2
theorem zRel.sn (w : zRel c h pp P L) : zSen h L ∧ zSenM h L ∧ zSC h 19 (pR P) (lS L) := by
  obtain ⟨w0, hP, hL, wC, wM, cC, cM, -⟩ := w
  exact ⟨⟨cC.2.2.2.1, cC.2.2.2.2.1⟩, ⟨cM.2.2.2.1, cM.2.2.2.2.1⟩, cC.1⟩
theorem r_srch (w : zRel c h pp P L) : ∃ h1, s_X6_search pp 18 h = some h1 ∧ zRel c h1 pp P L ∧ zI h1 47 5 = nI (qFn P L (99 * pR P)) ∧ zI h1 47 6 = qF1 P L (99 * pR P) ∧ zI h1 47 7 = nI (qAs P L (lS L)).toNat ∧ zfr zAz h h1 := by
  obtain ⟨sn, -, sc⟩ := w.sn
  obtain ⟨w0, hP, hL, wC, wM, cC, cM, wa, -⟩ := id w
  rw [s_X6_search]
  rcases wa.2.1 with q | ⟨q, q5, q6, q7⟩
  · rw [if_pos (show zI h 47 4 = 0 from q), s_X6_lastSeenDay, show s_X6_lastSeenDay_L4 18 zfu 0 0 h = _ from k_lsd hL sn (lm L) 0 zfu (by omega) (zq_fu (by have := hL.2.2.2.1; omega)), ob_e, zlt_e, zlt_e]
    have f1 : zfr (fun b k => b = 47 ∧ 4 ≤ k ∧ k ≤ 7) h (zwI (zwI h 47 5 0) 47 6 (-1)) := (zfr.wI 47 5 _ (by omega)).w 47 6 _ (by omega)
    have d1 : zI (zwI (zwI h 47 5 0) 47 6 (-1)) 47 5 = nI 0 := by rw [zI_wI, if_pos rfl, if_neg (by decide), zI_wI, if_pos rfl, if_pos rfl]; rfl
    have d2 : zI (zwI (zwI h 47 5 0) 47 6 (-1)) 47 6 = nM := by rw [zI_wI, if_pos rfl, if_pos rfl]; rfl
    generalize zwI (zwI h 47 5 0) 47 6 (-1) = h1 at f1 d1 d2 ⊢
    obtain ⟨h2, e2, c1, c2, c3, c4, f2⟩ := k_sr2 w0 hP hL (pR P) 0 zfu h1 (by omega) (zq_fu (by have := hP.1; omega)) (wC.fr f1 (fun b k _ _ => by omega)) (sn.fr f1 (fun b k e => by omega)) (sc.fr f1 (fun b k _ _ => by omega)) d1 d2
    have f9 : zfr zAz h h2 := (f1.mo (fun b k e => by unfold zAz; omega)).tr f2
    refine ⟨h2, e2, ?_, c2, c3, c4, f9⟩
    refine w.ca (f9.mo (fun b k e => by unfold zAz at e; unfold zAc zScr; omega)).sm ⟨?_, Or.inr ⟨c1, c2, c3, c4⟩, ?_⟩
    · rw [f9.i (by unfold zAz; omega)]
      rcases wa.1 with x | x
      · exact Or.inl x
      · exact Or.inr ⟨x.1, x.2.sm f9.sm (fun b k e => by unfold zAz; omega)⟩
    · rw [f9.i (by unfold zAz; omega), f9.i (by unfold zAz; omega), f9.i (by unfold zAz; omega)]; exact wa.2.2
  · rw [if_neg (show ¬ zI h 47 4 = 0 by rw [q]; decide)]
    exact ⟨h, rfl, w, q5, q6, q7, zfr.rf _ h⟩
end SR
