/-! ===== loom ===== -/
section LL
variable {h h1 h2 : zH} {tp pp c N : Nat} {B : Nat → Nat} {P : zPl} {L : zLg} {E : zDf} {A : Nat → Nat → Prop}
theorem dOk.le {D : zDf} {x y : Nat} (w : dOk D x) (e : x ≤ y) : dOk D y := by
  obtain ⟨d1, d2, d3, d4, d5, d6, d7, d8, d9, d10⟩ := w
  exact ⟨d1, d2, d3, d4, d5, d6, d7, d8, d9, by omega⟩
theorem pLo_ok (hN : N ≤ 700) : ∀ f x D, x ≤ N → dOk D x → ∀ E, pLo B N f x D = Sum.inr E → dOk E N := by
  intro f
  induction f with
  | zero =>
    intro x D hx ok E e
    have e : (Sum.inr D : (Nat × Nat) ⊕ zDf) = Sum.inr E := e
    cases e
    exact ok.le hx
  | succ f ih =>
    intro x D hx ok E e
    rw [pLo] at e
    by_cases q : tK B N x = 0
    · rw [if_pos q] at e
      cases e
      exact ok.le hx
    · rw [if_neg q] at e
      have pk := pLine_k (B := B) hN hx q ok
      cases hl : pLine B N D x with
      | inl p => rw [hl] at e; cases e
      | inr p =>
        rw [hl] at e pk
        obtain ⟨l1, l2, l3⟩ := pk
        exact ih p.1 p.2 l2 l3 E e
theorem zDC.pc (w : zDC h tp E) (hc : (dC E).length + (dW E).length ≤ 700) : zPC h tp (dPl E) := by
  obtain ⟨v1, v2, v3, v4, v5, v6, v7, v8, v9, v10, v11⟩ := w
  refine ⟨v1, v2, v3, v7, ⟨v10.1, fun n => ?_⟩, ⟨v11.1, fun n => ?_⟩⟩
  · obtain ⟨g, g1, g2, g3, g4⟩ := v10.2 n
    exact ⟨g, Nat.le_trans g1 hc, g2, g3, g4⟩
  · obtain ⟨g, g1, g2, g3, g4⟩ := v11.2 n
    exact ⟨g, Nat.le_trans g1 hc, g2, g3, g4⟩
theorem qOk_len {C : List Nat} (w : qOk C) : C.length ≤ 700 := by
  rcases w with e | e
  · rw [e]; exact Nat.zero_le _
  · exact e.2
theorem zPM.lo (w : zPM h P) (ok : pOk P) (f : zSm A h h1) (q : ∀ b k, (b = 56 ∧ k < 6) ∨ (b = 57 ∧ k < 12) ∨ (b = 59 ∧ k < 8) ∨ ((b = 60 ∨ b = 61) ∧ k < 700) → ¬ A b k) : zPM h1 P := by
  obtain ⟨w1, w2, w3, w4, w5, w6, w7, w8⟩ := w
  obtain ⟨o1, o2, o3, o4, o5, o6⟩ := ok
  have l5 := qOk_len o5
  have l6 := qOk_len o6
  refine ⟨?_, ?_, fun r hr => ?_, fun v hv => ?_, ?_, fun i hi => ?_, ?_, fun i hi => ?_⟩
  · rw [f _ _ (q _ _ (by omega))]; exact w1
  · rw [f _ _ (q _ _ (by omega))]; exact w2
  · rw [f _ _ (q _ _ (by omega))]; exact w3 r hr
  · rw [f _ _ (q _ _ (by omega))]; exact w4 v hv
  · rw [f _ _ (q _ _ (by omega))]; exact w5
  · rw [f _ _ (q _ _ (by omega))]; exact w6 i hi
  · rw [f _ _ (q _ _ (by omega))]; exact w7
  · rw [f _ _ (q _ _ (by omega))]; exact w8 i hi
theorem zSm.tr {C D : Nat → Nat → Prop} (f : zSm C h h1) (g : zSm D h1 h2) (m : ∀ b k, C b k → A b k) (n : ∀ b k, D b k → A b k) : zSm A h h2 := fun b k q => (g b k (fun z => q (n b k z))).trans (f b k (fun z => q (m b k z)))
/-- a ledger at its beginning -/
def l0 (E : zDf) (s : Nat → Int32) : zLg := (sS E, 0, fun _ _ => 0, 0, fun _ => 0, fun _ => 0, fun _ => 0, s)
/-- nothing is made but an exception -/
def zGe (h h2 : zH) : Prop := zK h2 = zK h ∧ zX h2 = zX h ∧ zc h2 ≤ zc h + 1 ∧ zs h2 ≤ zs h + 6
theorem c_loom (w : zRel c h pp P L) (vn : zVn h) (hq : (pp = 2 ∧ tp = 9) ∨ (pp = 9 ∧ tp = 2)) (x : Int32) : ∃ r k h1 v h2 pp' P' L', s_X10_loom pp tp x h = some r ∧ zHc (some r) = some (k, h1) ∧ s_X11_loom x h1 = some (v, h2) ∧ zI h2 52 4 = k ∧ (k = 0 → zL h2 90 0 = v.toInt64) ∧ zRel (c + 1) h2 pp' P' L' ∧ zGe h h2 ∧ (zI h2 0 8 = zI h 0 8 ∨ zI h2 0 8 = nI 0) ∧ ((r.1 = Sum.inl 0 ∧ pp' = tp) ∨ (r.1 ≠ Sum.inl 0 ∧ pp' = pp)) := by
  obtain ⟨w0, hP, hL, wC, wM, cC, cM, wa, ⟨b, wi⟩, ⟨t, wt⟩, w02, wk⟩ := id w
  have hR := hP.1
  have hp : tp = 2 ∨ tp = 9 := by omega
  obtain ⟨t7, t1, t13, tb⟩ := id wt
  have bad : (x < 0 ∨ ¬ x ≤ nI t) → ∃ r k h1 v h2 pp' P' L', s_X10_loom pp tp x h = some r ∧ zHc (some r) = some (k, h1) ∧ s_X11_loom x h1 = some (v, h2) ∧ zI h2 52 4 = k ∧ (k = 0 → zL h2 90 0 = v.toInt64) ∧ zRel (c + 1) h2 pp' P' L' ∧ zGe h h2 ∧ (zI h2 0 8 = zI h 0 8 ∨ zI h2 0 8 = nI 0) ∧ ((r.1 = Sum.inl 0 ∧ pp' = tp) ∨ (r.1 ≠ Sum.inl 0 ∧ pp' = pp)) := by
    intro hx
    have f : zfr zScr (zth h) (zwI (zwI (zth h) 52 4 (0 : Int32)) 52 4 (1 : Int32)) := (zfr.wI 52 4 _ (by unfold zScr; omega)).w 52 4 _ (by unfold zScr; omega)
    refine ⟨(Sum.inr 0, zth h), 1, zth h, 0, zwI (zwI (zth h) 52 4 (0 : Int32)) 52 4 (1 : Int32), pp, P, L, ?_, rfl, ?_, rfl, fun e => absurd e (by decide), ((w.co rfl).fr f).up, ⟨rfl, rfl, Nat.le_refl _, Nat.le_refl _⟩, Or.inl rfl, Or.inr ⟨by simp, rfl⟩⟩
    · rw [s_X10_loom]
      by_cases q : x < 0
      · rw [if_pos q]
      · rw [if_neg q, t1, if_neg (hx.resolve_left q)]
    · rw [s_X11_loom, zlt_e]
      by_cases q : x < 0
      · rw [if_pos q]; rfl
      · rw [if_neg q, show zI (zwI (zth h) 52 4 (0 : Int32)) 52 13 = nI t from t13, if_neg (hx.resolve_left q)]; rfl
  rcases zq_any x (t + 1) (by omega) with hx | hx | ⟨N, hN, rfl⟩
  · exact bad (Or.inl hx)
  · refine bad (Or.inr (fun n => ?_))
    rw [Int32.le_iff_toInt_le, nI_toInt (by omega)] at hx
    rw [Int32.le_iff_toInt_le, nI_toInt (by omega)] at n
    omega
  have hB : ∃ B : Nat → Nat, ∀ i, i < t → B i < 256 ∧ zI h 63 i = nI (B i) ∧ zI h 1 i = (nI (B i)).toInt8.toInt32 := by
    refine ⟨fun i => if q : i < t then Classical.choose (tb i q) else 0, fun i hi => ?_⟩
    simp only [dif_pos hi]
    exact Classical.choose_spec (tb i hi)
  obtain ⟨B, hB⟩ := hB
  have hE : ∀ E, pLo B N (N + 1) 0 d0 = Sum.inr E → dOk E N := fun E e => pLo_ok (show N ≤ 700 by omega) (N + 1) 0 d0 (Nat.zero_le N) d0_ok E e
  have kc := k_loomC (pp := pp) (h := h) (B := B) hp t7 t1 (show N ≤ t by omega) (fun i hi => ⟨(hB i (by omega)).1, (hB i (by omega)).2.2⟩) (fun E e => (hE E e).1)
  have hql : ∀ q, pLo B N (N + 1) 0 d0 = Sum.inl q → 1 ≤ q.1 ∧ q.1 ≤ 5 := fun q e => by
    rw [e] at kc
    exact ⟨kc.1, kc.2.1⟩
  cases hp9 : pLo B N (N + 1) 0 d0 with
  | inl q =>
    rw [hp9] at kc
    obtain ⟨q1, q5, g1, x1, y1, y2, y3, f1⟩ := kc
    have km := k_loomM (h := zwL g1 90 0 (nI q.1).toInt64) (B := B) (N := N) (show zVn g1 from vn.fk f1) t7 (show zI g1 52 13 = nI t by rw [f1.i (by unfold zAlz; omega)]; exact t13) (show N ≤ t by omega) (fun i hi => ⟨(hB i (by omega)).1, show zI g1 63 i = _ by rw [f1.i (by unfold zAlz; omega)]; exact (hB i (by omega)).2.1⟩) hql
    rw [hp9] at km
    obtain ⟨g2, x2, u4, u13, u22, u62, f2⟩ := km
    have sm : zSm (fun b k => zAlz tp b k ∨ zAlq b k) h g2 := zSm.tr (h1 := zwL g1 90 0 (nI q.1).toInt64) f1.sm f2.2.2.2.2.2.2 (fun b k e => Or.inl e) (fun b k e => Or.inr e)
    have r0 : ¬ nI q.1 = 0 := nI_ne0 (by omega) (by omega)
    refine ⟨(Sum.inl (nI q.1), g1), nI 0, zwL g1 90 0 (nI q.1).toInt64, nI q.1, g2, pp, P, lRf L 0, x1, (zL_in rfl).2.2, x2, u4, fun _ => ?_, ?_, ?_, Or.inl (sm _ _ (by unfold zAlz zAlq zAlm; omega)), Or.inr ⟨fun e => r0 (Sum.inl.inj e), rfl⟩⟩
    · rw [f2.2.2.1, zL_wL, if_pos rfl, if_pos rfl]
    · refine ⟨w0, hP, lRf_ok hL, wC.sm sm (fun b k e1 e2 => by unfold zAlz zAlq zAlm; omega), wM.lo hP sm (fun b k e => by unfold zAlz zAlq zAlm; omega), ?_, ?_, zCa_rf (wa.sm sm (fun b k e => by unfold zAlz zAlq zAlm; omega)), ⟨b, wi.sm sm (fun b k e => by unfold zAlz zAlq zAlm; omega) hR⟩, ⟨0, Nat.zero_le _, ?_, u13, fun i hi => absurd hi (Nat.not_lt_zero i)⟩, ?_, (wk.sm sm (fun b k e => by unfold zAlz zAlq zAlm; omega)).le (by omega)⟩
      · obtain ⟨c1, c2, c3, c4, c5, c6⟩ := cC
        refine ⟨c1.sm sm (fun b k _ _ => by unfold zAlz zAlq zAlm; omega), ?_, fun j hj => (c3 j hj).sm sm (fun _ _ _ => by unfold zAlz zAlq zAlm; omega) hR (hL.2.2.1 j hj).1.2.2.2.2.2, ?_, fun j hj => ⟨?_, ?_, ?_⟩, fun j hj => ?_⟩
        · rw [sm _ _ (by unfold zAlz zAlq zAlm; omega)]; exact c2
        · rw [sm _ _ (by unfold zAlz zAlq zAlm; omega)]; exact c4
        · rw [sm _ _ (by unfold zAlz zAlq zAlm; omega)]; exact (c5 j hj).1
        · rw [sm _ _ (by unfold zAlz zAlq zAlm; omega)]; exact (c5 j hj).2.1
        · rw [sm _ _ (by unfold zAlz zAlq zAlm; omega)]; exact (c5 j hj).2.2
        · show zI g2 28 j = if j = 0 then lt L j + 1 else lt L j
          by_cases z : j = 0
          · rw [if_pos z, z, f2.i (by unfold zAlq zAlm; omega)]
            show zI g1 28 0 = _
            rw [y3, show zI h 28 0 = lt L 0 from c6 0 (by omega)]
          · rw [if_neg z, sm _ _ (by unfold zAlz zAlq zAlm; omega)]; exact c6 j hj
      · obtain ⟨c1, c2, c3, c4, c5, c6⟩ := cM
        refine ⟨c1.sm sm (fun b k _ => by unfold zAlz zAlq zAlm; omega), ?_, fun j hj => (c3 j hj).sm sm (fun _ _ _ => by unfold zAlz zAlq zAlm; omega) hR (hL.2.2.1 j hj).1.2.2.2.2.2, ?_, fun j hj => ⟨?_, ?_, ?_⟩, fun j hj => ?_⟩
        · rw [sm _ _ (by unfold zAlz zAlq zAlm; omega)]; exact c2
        · rw [sm _ _ (by unfold zAlz zAlq zAlm; omega)]; exact c4
        · rw [sm _ _ (by unfold zAlz zAlq zAlm; omega)]; exact (c5 j hj).1
        · rw [sm _ _ (by unfold zAlz zAlq zAlm; omega)]; exact (c5 j hj).2.1
        · rw [sm _ _ (by unfold zAlz zAlq zAlm; omega)]; exact (c5 j hj).2.2
        · show zI g2 62 j = if j = 0 then lt L j + 1 else lt L j
          by_cases z : j = 0
          · rw [if_pos z, z, u62]
            show zI g1 62 0 + 1 = _
            rw [f1.i (by unfold zAlz; omega), show zI h 62 0 = lt L 0 from c6 0 (by omega)]
          · rw [if_neg z, sm _ _ (by unfold zAlz zAlq zAlm; omega)]; exact c6 j hj
      · rw [f2.i (by unfold zAlq zAlm; omega)]; exact y1
      · rw [f2.i (by unfold zAlq zAlm; omega), u22]; exact y2
    · obtain ⟨a1, a2, a3, a4, a5, a6, a7⟩ := f1
      obtain ⟨b1, b2, b3, b4, b5, b6, b7⟩ := f2
      refine ⟨b1.trans a1, b4.trans a4, ?_, ?_⟩
      · rw [b5]; show zc g1 ≤ _; rw [a5]; omega
      · rw [b6]; show zs g1 ≤ _; rw [a6]; omega
  | inr E =>
    rw [hp9] at kc
    obtain ⟨g1, x1, d1, s1, y6, y7, off, y1, y2, y8, f1⟩ := kc
    have km := k_loomM (h := zwL g1 90 0 (nI 0).toInt64) (B := B) (N := N) (show zVn g1 from vn.fk f1) t7 (show zI g1 52 13 = nI t by rw [f1.i (by unfold zAly; omega)]; exact t13) (show N ≤ t by omega) (fun i hi => ⟨(hB i (by omega)).1, show zI g1 63 i = _ by rw [f1.i (by unfold zAly; omega)]; exact (hB i (by omega)).2.1⟩) hql
    rw [hp9] at km
    obtain ⟨g2, x2, u4, u13, u22, p2, s2, u35, u36, u59, ok, f2⟩ := km
    have sm : zSm (fun b k => zAly tp b k ∨ zAlp b k) h g2 := zSm.tr (h1 := zwL g1 90 0 (nI 0).toInt64) f1.sm f2.2.2.2.2.2.2 (fun b k e => Or.inl e) (fun b k e => Or.inr e)
    have sm2 : zSm zAlp g1 g2 := fun b k z => f2.2.2.2.2.2.2 b k z
    have oc := ok.2.2.2.2.2.2.2.2.2
    refine ⟨(Sum.inl (nI 0), g1), nI 0, zwL g1 90 0 (nI 0).toInt64, nI 0, g2, tp, dPl E, l0 E (lt L), x1, (zL_in rfl).2.2, x2, u4, fun _ => ?_, ?_, ?_, Or.inr (by rw [sm2 _ _ (by unfold zAlp zAlm zAlw; omega)]; exact y8), Or.inl ⟨rfl, rfl⟩⟩
    · rw [f2.2.2.1, zL_wL, if_pos rfl, if_pos rfl]
    · have hR2 : dR E ≤ 12 := ok.1
      refine ⟨hp, dPl_ok ok, ⟨sS_ok ok, Nat.zero_le _, fun i hi => absurd hi (Nat.not_lt_zero i), Nat.zero_le _, fun i hi => absurd hi (Nat.not_lt_zero i)⟩, (d1.pc (by omega)).sm sm2 (fun b k e1 e2 => by unfold zAlp zAlm zAlw; omega), p2, ⟨s1.sm sm2 (fun b k e1 e2 => by unfold zAlp zAlm zAlw; omega), ?_, fun i hi => absurd hi (Nat.not_lt_zero i), ?_, fun i hi => absurd hi (Nat.not_lt_zero i), fun i hi => ?_⟩, ⟨s2, u35, fun i hi => absurd hi (Nat.not_lt_zero i), u36, fun i hi => absurd hi (Nat.not_lt_zero i), fun i hi => ?_⟩, ?_, ⟨0, Nat.zero_le _, ?_, u59, fun e => absurd e (by decide)⟩, ⟨0, Nat.zero_le _, ?_, u13, fun i hi => absurd hi (Nat.not_lt_zero i)⟩, ?_, (wk.sm sm (fun b k e => by unfold zAly zAlp zAlm zAlw; omega)).le (by omega)⟩
      · rw [sm2 _ _ (by unfold zAlp zAlm zAlw; omega)]; exact y6
      · rw [sm2 _ _ (by unfold zAlp zAlm zAlw; omega)]; exact y7
      · rw [sm _ _ (by unfold zAly zAlp zAlm zAlw; omega)]; exact cC.2.2.2.2.2 i hi
      · rw [sm _ _ (by unfold zAly zAlp zAlm zAlw; omega)]; exact cM.2.2.2.2.2 i hi
      · have o2 : zOff g2 := ⟨by rw [sm2 _ _ (by unfold zAlp zAlm zAlw; omega)]; exact off.1, by rw [sm2 _ _ (by unfold zAlp zAlm zAlw; omega)]; exact off.2.1, by rw [sm2 _ _ (by unfold zAlp zAlm zAlw; omega)]; exact off.2.2⟩
        exact o2.ca
      · rw [sm2 _ _ (by unfold zAlp zAlm zAlw; omega)]; exact y8
      · rw [sm2 _ _ (by unfold zAlp zAlm zAlw; omega)]; exact y1
      · rw [sm2 _ _ (by unfold zAlp zAlm zAlw; omega), u22]; exact y2
    · obtain ⟨a1, a2, a3, a4, a5, a6, a7⟩ := f1
      obtain ⟨b1, b2, b3, b4, b5, b6, b7⟩ := f2
      refine ⟨b1.trans a1, b4.trans a4, ?_, ?_⟩
      · rw [b5]; show zc g1 ≤ _; rw [a5]; omega
      · rw [b6]; show zs g1 ≤ _; rw [a6]; omega
end LL
