/-! ===== more acts ===== -/
theorem sOk2_u {R : Nat} {S : Nat → Nat} (h : sOk2 R S) {j v : Nat} (hj : j < R) (hR : R ≤ 12) (hv : v ≤ 99) : sOk2 R (zu S j v) := by
  obtain ⟨⟨a1, a2, a3, a4, a5, a6⟩, a7, a8⟩ := h
  have e : ∀ k, 12 ≤ k → zu S j v k = S k := fun k hk => zu_ne _ _ (by omega)
  refine ⟨⟨fun r hr => ?_, by rw [e _ (by omega)]; exact a2, by rw [e _ (by omega)]; exact a3, by rw [e _ (by omega), e _ (by omega)]; exact a4, by rw [e _ (by omega)]; exact a5, by rw [e _ (by omega)]; exact a6⟩, by rw [e _ (by omega)]; exact a7, by rw [e _ (by omega), e _ (by omega)]; exact a8⟩
  by_cases q : r = j
  · subst q; rw [zu_eq]; exact hv
  · rw [zu_ne _ _ q]; exact a1 r hr
theorem sOk2_k {R : Nat} {S : Nat → Nat} (h : sOk2 R S) {j v : Nat} (hj : j < 2) (hR : R ≤ 12) (hv : v ≤ 9) : sOk2 R (zu S (30 + j) v) := by
  obtain ⟨⟨a1, a2, a3, a4, a5, a6⟩, a7, a8⟩ := h
  have e : ∀ k, k ≠ 30 + j → zu S (30 + j) v k = S k := fun k hk => zu_ne _ _ hk
  refine ⟨⟨fun r hr => by rw [e _ (by omega)]; exact a1 r hr, ?_, ?_, by rw [e _ (by omega), e _ (by omega)]; exact a4, by rw [e _ (by omega)]; exact a5, by rw [e _ (by omega)]; exact a6⟩, by rw [e _ (by omega)]; exact a7, by rw [e _ (by omega), e _ (by omega)]; exact a8⟩
  · by_cases q : 30 = 30 + j
    · rw [← q, zu_eq]; exact hv
    · rw [e _ q]; exact a2
  · by_cases q : 31 = 30 + j
    · rw [← q, zu_eq]; exact hv
    · rw [e _ q]; exact a3
theorem sOk2_b {R : Nat} {S : Nat → Nat} (h : sOk2 R S) : sOk2 R (qBg S) := by
  obtain ⟨⟨a1, a2, a3, a4, a5, a6⟩, a7, a8⟩ := h
  refine ⟨⟨?_, ?_, ?_, ?_, ?_, ?_⟩, ?_, ?_⟩
  · intro r hr
    by_cases q : r = 32 ∨ r = 33 ∨ r = 34
    · unfold qBg
      rcases q with q | q | q <;> subst q
      · rw [zu_ne _ _ (by omega), zu_ne _ _ (by omega), zu_eq]; omega
      · rw [zu_ne _ _ (by omega), zu_eq]; omega
      · rw [zu_eq]; omega
    · rw [qBg_o _ (by omega)]; exact a1 r hr
  · rw [qBg_o _ (by omega)]; exact a2
  · rw [qBg_o _ (by omega)]; exact a3
  · unfold qBg
    rw [zu_ne _ _ (by omega), zu_ne _ _ (by omega), zu_eq, zu_ne _ _ (by omega), zu_eq]; omega
  · unfold qBg
    rw [zu_eq]; exact Nat.two_pow_pos R
  · rw [qBg_o _ (by omega)]; exact a6
  · rw [qBg_o _ (by omega)]; exact a7
  · rw [qBg_o _ (by omega), qBg_o _ (by omega)]; exact a8
section AD
variable {c pp : Nat} {h h1 h2 : zH} {P : zPl} {L L2 : zLg} {v : Int32} {K : zH → Option (Int32 × zH)}
theorem zCall.ref (w : zRel c h pp P L) {i : Nat} (hi : i < 3) {X : Option ((Int32 ⊕ Nat) × zH)} (eX : X = zbd (s_X10_refuse pp (nI i) h) fun v h1 => some (Sum.inl v, h1)) (g : ∀ h, zPM h P → zLM h (pR P) L → K h = zbd (s_X11_refuse (nI i) h) fun v h1 => some (v, h1)) : zCall c h pp P (zHa X) (fun h => zlt (zwI h 52 4 (0 : Int32)) K) := by
  obtain ⟨h1, e1, l1, q1, f1⟩ := r_ref w hi
  have hR := w.2.1.1
  have hL := w.2.2.1
  refine zCall.act (v := nM) w (zL_in (by rw [eX, e1, zbd_e])).1 f1 l1 q1 (lRf_ok hL) (zDo.go (fun h p l k4 => ?_) hR hL)
  obtain ⟨h2, e2, l2, k2, f2⟩ := r_refM hR hL l hi
  exact ⟨h2, by rw [g h p l, e2, zbd_e], k2.trans k4, l2, f2⟩
theorem zCal2.ref (w : zRel c h pp P L) {i : Nat} (hi : i < 3) {X : Option (Int32 × zH)} (eX : X = zbd (s_X10_refuse pp (nI i) h) fun v h1 => some (v, h1)) (g : ∀ h, zPM h P → zLM h (pR P) L → K h = zbd (s_X11_refuse (nI i) h) fun v h1 => some (v, h1)) : zCal2 c h pp P X (fun h => zlt (zwI h 52 4 (0 : Int32)) K) := by
  obtain ⟨h1, e1, l1, q1, f1⟩ := r_ref w hi
  have hR := w.2.1.1
  have hL := w.2.2.1
  refine zCal2.act (v := nM) w (by rw [eX, e1, zbd_e]) f1 l1 q1 (lRf_ok hL) (zDo.go (fun h p l k4 => ?_) hR hL)
  obtain ⟨h2, e2, l2, k2, f2⟩ := r_refM hR hL l hi
  exact ⟨h2, by rw [g h p l, e2, zbd_e], k2.trans k4, l2, f2⟩
def zKx (pp : Nat) (h : zH) (P : zPl) (L : zLg) (S : Nat → Nat) {α : Type} (X : Option (α × zH)) (v : α) : Prop := ∀ h0, s_X10_keepAct pp h = some h0 → zSC h0 19 (pR P) (lS L) → ∃ h1, X = some (v, h1) ∧ zSC h1 19 (pR P) S ∧ zfr (fun b _ => (19 ≤ b ∧ b ≤ 24) ∨ (36 ≤ b ∧ b ≤ 38)) h0 h1
def zKy (P : zPl) (L : zLg) (S : Nat → Nat) (K : zH → Option (Int32 × zH)) (v : Int32) : Prop := ∀ h h0, zPM h P → zLM h (pR P) L → s_X11_keep h = some h0 → zSM h0 (pR P) (lS L) → ∃ h1, K h = some (v, h1) ∧ zSM h1 (pR P) S ∧ zfr (fun b k => (64 ≤ b ∧ b ≤ 67) ∨ (b = 52 ∧ 29 ≤ k ∧ k ≤ 34)) h0 h1
theorem zKy.go {S : Nat → Nat} (hR : pR P ≤ 12) (hL : lOk (pR P) L) (g : zKy P L S K v) : zDo P L (lKp L S) (fun h => zlt (zwI h 52 4 (0 : Int32)) K) v := by
  refine zDo.go (fun h p l k4 => ?_) hR hL
  obtain ⟨h3, e3, l3, f3⟩ := k_keepM hR hL l
  obtain ⟨h4, e4, s4, f4⟩ := g h h3 p l e3 l3.1
  refine ⟨h4, e4, ?_, l3.wi hR (lKp_ok hL hL.1) f4 (fun b k e => by omega) s4, (f3.mo (fun b k e => by unfold zAmo; omega)).tr (f4.mo (fun b k e => by unfold zAmo; omega))⟩
  rw [f4.i (by omega), f3.i (by omega)]; exact k4
theorem zCall.kept (w : zRel c h pp P L) {S : Nat → Nat} (ok : sOk2 (pR P) S) {X : Option ((Int32 ⊕ Nat) × zH)} (x : zKx pp h P L S X (Sum.inl v)) (g : zKy P L S K v) : zCall c h pp P (zHa X) (fun h => zlt (zwI h 52 4 (0 : Int32)) K) := by
  obtain ⟨h0, e0, l0, o0, p0, f0, g0⟩ := r_keep w
  have hR := w.2.1.1
  have hL := w.2.2.1
  obtain ⟨h1, e1, s1, f1⟩ := x h0 e0 l0.1
  obtain ⟨a1, a2, a3⟩ := r_act hR hL l0 o0 f0 f1 s1
  exact zCall.act w (zL_in e1).1 a3 a1 a2 (lKp_ok hL ok) (zKy.go hR hL g)
theorem zCal2.kept (w : zRel c h pp P L) {S : Nat → Nat} (ok : sOk2 (pR P) S) {X : Option (Int32 × zH)} (x : zKx pp h P L S X v) (g : zKy P L S K v) : zCal2 c h pp P X (fun h => zlt (zwI h 52 4 (0 : Int32)) K) := by
  obtain ⟨h0, e0, l0, o0, p0, f0, g0⟩ := r_keep w
  have hR := w.2.1.1
  have hL := w.2.2.1
  obtain ⟨h1, e1, s1, f1⟩ := x h0 e0 l0.1
  obtain ⟨a1, a2, a3⟩ := r_act hR hL l0 o0 f0 f1 s1
  exact zCal2.act w e1 a3 a1 a2 (lKp_ok hL ok) (zKy.go hR hL g)
theorem c_sell (w : zRel c h pp P L) (x : Int32) : zCall c h pp P (s_L_sell pp x 90 1 h) (s_X11_sell x) := by
  show zCall c h pp P (zHa (s_X10_sell pp x h)) (s_X11_sell x)
  obtain ⟨w0, hP, hL, wC, wM, cC, cM, wa, -⟩ := id w
  have hR := hP.1
  have hk := hL.1.1.2.2.2.2.2
  have bad : (x < nI 0 ∨ nI (pR P) ≤ x) → zCall c h pp P (zHa (s_X10_sell pp x h)) (s_X11_sell x) := by
    intro hx
    refine zCall.i1 (v := nI 0) w (by rw [s_X10_sell, n_rib0 w hx, zbx_r]) (zAsk.fail (fun h w => ?_))
    rw [r_rib0 w hx, ob_e, if_neg (fun n => n rfl)]
    rfl
  rcases zq_any x (pR P) (by omega) with hx | hx | ⟨j, hj, rfl⟩
  · exact bad (Or.inl hx)
  · exact bad (Or.inr hx)
  · have b9 := hL.1.1.1 j hj
    by_cases q : lS L j = 0
    · refine zCall.ref w (i := 1) (by omega) ?_ (fun h p l => ?_)
      · rw [s_X10_sell, n_rib1 w hj, zbx_l, zq_ix (show j < 12 by omega) (by omega), show zI h 20 j = nI (lS L j) from cC.1.1 j hj, q, if_neg (fun n => n rfl), zq_1]
      · rw [k_rib1 hR p.1 hj, ob_e, if_pos (by decide), k_goneAt hR l.1 hL.1.1 hj, ob_e, if_pos q, if_neg (by decide), zq_1]
    · have n0 : ¬ nI (lS L j) = 0 := fun e => q ((nI_eq (b := 0) (by omega) (by omega)).mp e)
      refine zCall.kept (v := nI (lS L j)) w (sOk2_u hL.1 hj hR (v := 0) (by omega)) ?_ ?_
      · intro h0 e0 s0
        refine ⟨zwI h0 20 j (nI 0), ?_, zSC_str hR hk s0 (by omega) 0, zfr.wI 20 j _ (by omega)⟩
        rw [s_X10_sell, n_rib1 w hj, zbx_l, zq_ix (show j < 12 by omega) (by omega), show zI h 20 j = nI (lS L j) from cC.1.1 j hj, if_pos n0, e0, ob_e, zq_ix (show j < 12 by omega) (by omega), zlt_e]
        rfl
      · intro h h0 p l e0 s0
        refine ⟨zwI h0 64 j (nI 0), ?_, zSM_str hR hk s0 (by omega) 0, zfr.wI 64 j _ (by omega)⟩
        dsimp only
        rw [k_rib1 hR p.1 hj, ob_e, if_pos (by decide), k_goneAt hR l.1 hL.1.1 hj, ob_e, if_neg q, if_pos (by decide), e0, ob_e, zq_ix (show j < 12 by omega) (by omega), zq_ix (show j < 12 by omega) (by omega), s0.1 j hj, zlt_e]
        rfl
theorem c_shore (w : zRel c h pp P L) (x y : Int32) : zCall c h pp P (s_L_shore pp x y 90 1 h) (s_X11_shore x y) := by
  show zCall c h pp P (zHa (s_X10_shore pp x y h)) (s_X11_shore x y)
  obtain ⟨w0, hP, hL, wC, wM, cC, cM, wa, -⟩ := id w
  have hR := hP.1
  have hk := hL.1.1.2.2.2.2.2
  have bad : (x < nI 0 ∨ nI (pR P) ≤ x) → zCall c h pp P (zHa (s_X10_shore pp x y h)) (s_X11_shore x y) := by
    intro hx
    refine zCall.i1 (v := nI 0) w (by rw [s_X10_shore, n_rib0 w hx, zbx_r]) (zAsk.fail (fun h w => ?_))
    rw [r_rib0 w hx, ob_e, if_neg (fun n => n rfl)]
    rfl
  rcases zq_any x (pR P) (by omega) with hx | hx | ⟨j, hj, rfl⟩
  · exact bad (Or.inl hx)
  · exact bad (Or.inr hx)
  · have b9 := hL.1.1.1 j hj
    rcases zq_with y 1 30 (by omega) (by omega) with hy | ⟨d, d1, d2, rfl⟩
    · refine zCall.ref w (i := 1) (by omega) ?_ (fun h p l => ?_)
      · rw [s_X10_shore, n_rib1 w hj, zbx_l]
        by_cases q : y < 1
        · rw [if_pos q, s_X10_shore_J9, zq_1]
        · rw [if_neg q, if_neg (show ¬ y ≤ 30 from fun n => by
            have e := hy.resolve_left q
            rw [Int32.lt_iff_toInt_lt] at e
            rw [Int32.le_iff_toInt_le] at n
            exact absurd (Int.lt_of_lt_of_le e n) (Int.lt_irrefl _)), s_X10_shore_J9, zq_1]
      · rw [k_rib1 hR p.1 hj, ob_e, if_pos (by decide), show s_X11_isIn y.toInt64 (1 : Int64) (30 : Int64) h = some (nI 0) from k_in0 (a := 1) (b := 30) hy h, ob_e, if_neg (fun n => n rfl), zq_1]
    · refine zCall.kept (v := nI (if lS L j + d < 99 then lS L j + d else 99)) w (sOk2_u hL.1 hj hR (v := if lS L j + d < 99 then lS L j + d else 99) (by split <;> omega)) ?_ ?_
      · intro h0 e0 s0
        refine ⟨zwI h0 20 j (nI (if lS L j + d < 99 then lS L j + d else 99)), ?_, zSC_str hR hk s0 (by omega) _, zfr.wI 20 j _ (by omega)⟩
        rw [s_X10_shore, n_rib1 w hj, zbx_l, if_neg (show ¬ nI d < 1 from nI_nlt (b := 1) d1 (by omega)), if_pos (show nI d ≤ 30 from nI_le (b := 30) d2 (by omega)), e0, ob_e, s_X8_strengthen, zq_ix (show j < 12 by omega) (by omega), show zI h0 (19 + 1) j = nI (lS L j) from s0.1 j hj, nI_add, show s_J9_min_7cf53 99 (nI (lS L j + d)) h0 = _ from k_min2 (a := 99) (b := lS L j + d) (by omega) (by omega) h0, ob_e, zq_ix (show j < 12 by omega) (by omega), zlt_e, ob_e, zq_ix (show j < 12 by omega) (by omega), zI_wI, if_pos rfl, if_pos rfl]
      · intro h h0 p l e0 s0
        refine ⟨zwI h0 64 j (nI (if lS L j + d < 99 then lS L j + d else 99)), ?_, zSM_str hR hk s0 (by omega) _, zfr.wI 64 j _ (by omega)⟩
        dsimp only
        rw [k_rib1 hR p.1 hj, ob_e, if_pos (by decide), show s_X11_isIn (nI d).toInt64 (1 : Int64) (30 : Int64) h = some (nI 1) from k_in1 (a := 1) (b := 30) d1 d2 (by omega) h, ob_e, if_pos (by decide), e0, ob_e, zq_ix (show j < 12 by omega) (by omega), s0.1 j hj, nI_add, show s_J9_min_7cf53 99 (nI (lS L j + d)) h0 = _ from k_min2 (a := 99) (b := lS L j + d) (by omega) (by omega) h0, ob_e, zq_ix (show j < 12 by omega) (by omega), zlt_e, zq_ix (show j < 12 by omega) (by omega), zI_wI, if_pos rfl, if_pos rfl]
theorem c_unpick (w : zRel c h pp P L) : zCal2 c h pp P (s_X10_unpick pp h) s_X11_unpick := by
  obtain ⟨w0, hP, hL, wC, wM, cC, cM, wa, -⟩ := id w
  have hR := hP.1
  have hk := hL.1.1.2.2.2.2.2
  have ht := hL.1.1.2.2.2.1
  have ea : zI h 22 0 + zI h 22 1 = nI (lS L 32 + lS L 33) := by
    rw [show zI h 22 0 = nI (lS L 32) from cC.1.2.2.2.1, show zI h 22 1 = nI (lS L 33) from cC.1.2.2.2.2.1, nI_add]
  have eM : ∀ h, zLM h (pR P) L → zI h 52 30 + zI h 52 31 = nI (lS L 32 + lS L 33) := by
    intro h l
    rw [l.1.2.2.2.1, l.1.2.2.2.2.1, nI_add]
  by_cases q : lS L 32 + lS L 33 = 0
  · refine zCal2.ref w (i := 1) (by omega) ?_ (fun h p l => ?_)
    · rw [s_X10_unpick, ea, q, if_neg (fun n => n rfl), zq_1]
    · rw [eM h l, q, if_neg (fun n => n rfl), zq_1]
  · have n0 : ¬ nI (lS L 32 + lS L 33) = 0 := fun e => q ((nI_eq (b := 0) (by omega) (by omega)).mp e)
    refine zCal2.kept (v := nI (lS L 32 + lS L 33)) w (sOk2_b hL.1) ?_ ?_
    · intro h0 e0 s0
      obtain ⟨h1, e1, s1, f1⟩ := k_bg hR s0 hk
      refine ⟨h1, ?_, s1, f1.mo (fun b k e => by omega)⟩
      rw [s_X10_unpick, ea, if_pos n0, e0, ob_e, e1, ob_e]
    · intro h h0 p l e0 s0
      have s1 := zSM_pa0 hR hk s0 0
      have s2 := zSM_pa1 hR (by rw [zu_ne _ _ (by omega)]; exact hk) s1 0
      have s3 := zSM_gap hR (by rw [zu_ne _ _ (by omega), zu_ne _ _ (by omega)]; exact hk) s2 0
      refine ⟨_, ?_, s3, ((zfr.wI 52 30 _ (by omega)).w 52 31 _ (by omega)).w 52 32 _ (by omega)⟩
      dsimp only
      rw [eM h l, if_pos n0, e0, ob_e, s_X11_beginAnew, zlt_e, zlt_e, zlt_e, ob_e]
      rfl
theorem c_teach (w : zRel c h pp P L) (x y : Int32) : zCall c h pp P (s_L_teach pp x y 90 1 h) (s_X11_teach x y) := by
  show zCall c h pp P (zHa (s_X10_teach pp x y h)) (s_X11_teach x y)
  obtain ⟨w0, hP, hL, wC, wM, cC, cM, wa, -⟩ := id w
  have hR := hP.1
  have hk := hL.1.1.2.2.2.2.2
  have bad : (x < nI 0 ∨ nI 2 ≤ x) → zCall c h pp P (zHa (s_X10_teach pp x y h)) (s_X11_teach x y) := by
    intro hx
    refine zCall.i1 (v := nI 0) w (by rw [s_X10_teach, n_cla0 hx, zbx_r]) (zAsk.fail (fun h w => ?_))
    rw [show (0 : Int64) = (nI 0).toInt64 from rfl, show (1 : Int64) = (nI 1).toInt64 from rfl, k_in0 (hx.imp id zq_lt2), ob_e, if_neg (fun n => n rfl)]
    rfl
  rcases zq_any x 2 (by omega) with hx | hx | ⟨j, hj, rfl⟩
  · exact bad (Or.inl hx)
  · exact bad (Or.inr hx)
  · have v3 : zI h 21 j = nI (lS L (30 + j)) := by
      have e : j = 0 ∨ j = 1 := by omega
      rcases e with e | e <;> subst e
      · exact cC.1.2.1
      · exact cC.1.2.2.1
    have b9 : lS L (30 + j) ≤ 9 := by
      have e : j = 0 ∨ j = 1 := by omega
      rcases e with e | e <;> subst e
      · exact hL.1.1.2.1
      · exact hL.1.1.2.2.1
    have i1 : ∀ h, s_X11_isIn (nI j).toInt64 (0 : Int64) (1 : Int64) h = some (nI 1) := fun h => k_in1 (a := 0) (b := 1) (by omega) (by omega) (by omega) h
    have refu : ((y < nI 0 ∨ nI 9 < y) ∨ y = nI (lS L (30 + j))) → zCall c h pp P (zHa (s_X10_teach pp (nI j) y h)) (s_X11_teach (nI j) y) := by
      intro hy
      refine zCall.ref w (i := 1) (by omega) ?_ (fun h p l => ?_)
      · rw [s_X10_teach, n_cla1 hj, zbx_l, zq_ix hj (by omega), v3, s_X10_teach_J18, zq_1]
        by_cases q : y < 0
        · rw [if_pos q]
        · rw [if_neg q]
          by_cases q2 : (9 : Int32) < y
          · rw [if_pos q2]
          · rw [if_neg q2, if_neg (fun n => n (hy.resolve_left (fun o => o.elim q q2)))]
      · rw [i1, ob_e, if_pos (by decide), zq_ix hj (by omega), k_skM l.1 hj, s_X11_teach_J27, zq_1]
        by_cases q : y < nI 0 ∨ nI 9 < y
        · rw [show s_X11_isIn y.toInt64 (0 : Int64) (9 : Int64) h = some (nI 0) from k_in0 (a := 0) (b := 9) q h, ob_e, if_pos (show nI 0 = 0 from rfl)]
        · have e := hy.resolve_left q
          rw [show s_X11_isIn y.toInt64 (0 : Int64) (9 : Int64) h = some (nI 1) from by
            rw [e]; exact k_in1 (a := 0) (b := 9) (by omega) b9 (by omega) h, ob_e, if_neg (by decide), if_neg (fun n => n e)]
    rcases zq_with y 0 9 (by omega) (by omega) with hy | ⟨d, d1, d2, rfl⟩
    · exact refu (Or.inl hy)
    · by_cases q : d = lS L (30 + j)
      · exact refu (Or.inr (by rw [q]))
      · have n0 : ¬ nI d = nI (lS L (30 + j)) := fun e => q ((nI_eq (by omega) (by omega)).mp e)
        refine zCall.kept (v := nI (lS L (30 + j))) w (sOk2_k hL.1 hj hR d2) ?_ ?_
        · intro h0 e0 s0
          refine ⟨zwI h0 21 j (nI d), ?_, ?_, zfr.wI 21 j _ (by omega)⟩
          · rw [s_X10_teach, n_cla1 hj, zbx_l, zq_ix hj (by omega), v3, if_neg (show ¬ nI d < 0 from nI_nlt (b := 0) (by omega) (by omega)), if_neg (show ¬ (9 : Int32) < nI d from nI_nlt (a := 9) d2 (by omega)), if_pos n0, e0, ob_e, zq_ix hj (by omega), zlt_e]
          · have e : j = 0 ∨ j = 1 := by omega
            rcases e with e | e <;> subst e
            · exact zSC_sk0 hR hk s0 d
            · exact zSC_sk1 hR hk s0 d
        · intro h h0 p l e0 s0
          refine ⟨zwI h0 65 j (nI d), ?_, ?_, zfr.wI 65 j _ (by omega)⟩
          · dsimp only
            rw [i1, ob_e, if_pos (by decide), zq_ix hj (by omega), k_skM l.1 hj, show s_X11_isIn (nI d).toInt64 (0 : Int64) (9 : Int64) h = some (nI 1) from k_in1 (a := 0) (b := 9) (by omega) d2 (by omega) h, ob_e, if_neg (by decide), if_pos n0, e0, ob_e, zq_ix hj (by omega), zlt_e]
          · have e : j = 0 ∨ j = 1 := by omega
            rcases e with e | e <;> subst e
            · exact zSM_sk0 hR hk s0 d
            · exact zSM_sk1 hR hk s0 d
end AD
