/-! ===== what ROTS gives, in the reference ===== -/
theorem k_isIn (x y z : Int32) (h : zH) : s_X11_isIn x.toInt64 y.toInt64 z.toInt64 h = some (nI (if x < y then 0 else if z < x then 0 else 1)) := by
  unfold s_X11_isIn
  have e1 : (lg_cmp x.toInt64 y.toInt64 < 0) ↔ x < y := by rw [lg_cmp_lt, fa_wide_lt]
  have e2 : (0 < lg_cmp x.toInt64 z.toInt64) ↔ z < x := by rw [lg_cmp_gt, fa_wide_lt]
  by_cases q : x < y
  · rw [if_pos (e1.mpr q), if_pos q]; rfl
  · rw [if_neg (fun n => q (e1.mp n)), if_neg q]
    by_cases q2 : z < x
    · rw [if_pos (e2.mpr q2), if_pos q2]; rfl
    · rw [if_neg (fun n => q2 (e2.mp n)), if_neg q2]; rfl
theorem k_in1 {j a b : Nat} (h1 : a ≤ j) (h2 : j ≤ b) (hb : b < 2 ^ 31) (h : zH) : s_X11_isIn (nI j).toInt64 (nI a).toInt64 (nI b).toInt64 h = some (nI 1) := by
  rw [k_isIn, if_neg (nI_nlt h1 (by omega)), if_neg (nI_nlt h2 (by omega))]
theorem k_in0 {x : Int32} {a b : Nat} (h1 : x < nI a ∨ nI b < x) (h : zH) : s_X11_isIn x.toInt64 (nI a).toInt64 (nI b).toInt64 h = some (nI 0) := by
  rw [k_isIn]
  rcases h1 with q | q
  · rw [if_pos q]
  · rw [if_pos q]
    split <;> rfl
theorem k_rib1 {h : zH} {R : Nat} (hR : R ≤ 12) (h0 : zI h 56 0 = nI R) {j : Nat} (hj : j < R) : s_X11_isRib (nI j) h = some (nI 1) := by
  rw [s_X11_isRib, h0]
  have e : nI R - 1 = nI (R - 1) := zq_sub (a := R) (b := 1) (by omega)
  rw [e]
  have := k_in1 (j := j) (a := 0) (b := R - 1) (by omega) (by omega) (by omega) h
  rw [show (0 : Int64) = (nI 0).toInt64 from rfl, this]
  rfl
theorem k_rib0 {h : zH} {R : Nat} (hR : R ≤ 12) (h0 : zI h 56 0 = nI R) {x : Int32} (hx : x < nI 0 ∨ nI R ≤ x) : s_X11_isRib x h = some (nI 0) := by
  rw [s_X11_isRib, h0, show (0 : Int64) = (nI 0).toInt64 from rfl, k_isIn]
  have e : (if x < nI 0 then 0 else if nI R - 1 < x then 0 else 1) = 0 := by
    rcases hx with q | q
    · rw [if_pos q]
    · by_cases q2 : x < nI 0
      · rw [if_pos q2]
      · rw [if_neg q2, if_pos]
        rcases Nat.eq_zero_or_pos R with q3 | q3
        · subst q3
          have : ¬ x < 0 := q2
          rw [fa_lt] at this ⊢
          have e1 : (nI 0 - 1).toInt = -1 := rfl
          have e2 : (0 : Int32).toInt = 0 := rfl
          omega
        · have e : nI R - 1 = nI (R - 1) := zq_sub (a := R) (b := 1) (by omega)
          rw [e]
          rw [fa_le] at q
          rw [fa_lt]
          rw [nI_toInt (by omega)] at q ⊢
          omega
  rw [e]
  rfl
theorem k_of {s k : Nat} (hs : s < 2 ^ 31) (hk : k < 31) (h : zH) : s_X11_isOf (nI s) (nI k) h = some (nI (s.testBit k).toNat) := by
  rw [s_X11_isOf]
  simp (disch := omega) only [zq_0, zq_1, zq_2, zq_3, zq_4, zq_5, zq_6, zq_7, zq_8, zq_9, zq_10, zq_12, zq_13, zq_16, zq_18, zq_20, zq_24, zq_30, zq_31, zq_32, zq_38, zq_39, zq_40, zq_41, zq_42, zq_43, zq_45, zq_47, zq_48, zq_57, zq_59, zq_60, zq_61, zq_63, zq_64, zq_96, zq_97, zq_99, zq_100, zq_122, zq_127, zq_255, zq_700, zq_999, zq_1000, zq_1482, zq_4095, zq_9999, zq_10000, zq_20000, zq_20003, zq_32767, zq_100000, zq_m1, nI_add, nI_leI, nI_ltI, nI_eq, zq_sub, pk_mul, zq_ix, zq_a31, zs_shl, zs_shr, zq_tb, fa_or, fa_and, fb_xorI, zq_pm, zq_eM, zq_Me, zq_MM, zq_of, zlt_e]
  cases s.testBit k <;> rfl
theorem k_goneAt {h : zH} {R : Nat} {S : Nat → Nat} (hR : R ≤ 12) (s : zSM h R S) (ho : sOk R S) {r : Nat} (hr : r < R) : s_X11_isGone (nI r) h = some (nI (if S r = 0 then 1 else 0)) := by
  have b := ho.1 r hr
  rw [s_X11_isGone, zq_ix (by omega) (by omega), s.1 r hr]
  by_cases q : S r = 0
  · rw [if_pos q, q]; rfl
  · rw [if_neg q, if_pos (show ¬ nI (S r) = 0 from nI_ne0 (by omega) (by omega))]; rfl
section ROTM
variable {h : zH} {R : Nat} {S : Nat → Nat} {P : zPl}
theorem k_strAt (hR : R ≤ 12) (h0 : zI h 56 0 = nI R) (s : zSM h R S) {r : Nat} (hr : r < R) : s_X11_strengthAt (nI r) h = some (nI (S r)) := by
  rw [s_X11_strengthAt, k_rib1 hR h0 hr]
  dsimp only [Option.bind]
  rw [if_neg (by decide), zq_ix (by omega) (by omega), s.1 r hr]
theorem k_strAt0 (hR : R ≤ 12) (h0 : zI h 56 0 = nI R) {x : Int32} (hx : x < nI 0 ∨ nI R ≤ x) : s_X11_strengthAt x h = some (nI 0) := by
  rw [s_X11_strengthAt, k_rib0 hR h0 hx]
  rfl
theorem k_rotM (hP : pOk P) (w : zPM h P) (s : zSM h (pR P) S) (ho : sOk (pR P) S) {r : Nat} (hr : r < pR P) : ∃ h', s_X11_rotsOf (nI r) h = some (nI (qRot P S r), h') ∧ zfr (fun b _ => b = 69 ∨ b = 70) h h' := by
  have hR := hP.1
  obtain ⟨w1, w2, w3, w4, w5, w6, w7, w8⟩ := id w
  obtain ⟨o0, o1, o2, o3, o4, o5⟩ := id ho
  have hgl := qGo_l S hR
  -- what is worked out, whatever the default
  have hl : (pC P).length < 2 ^ 31 := by
    rcases hP.2.2.2.2.1 with q | q
    · rw [q]; decide
    · omega
  have e21 : ∀ n : Nat, n = (if (0 < r ∧ S (r - 1) = 0) ∨ (r + 1 < pR P ∧ S (r + 1) = 0) then 1 else 0) → ∃ h', s_X11_rotsOf_J21 (nI r) (nI 1) (nI n) h = some (nI (qRot P S r), h') ∧ zfr (fun b _ => b = 69 ∨ b = 70) h h' := by
    intro n hn
    rw [s_X11_rotsOf_J21, w5, qRot]
    by_cases q : pC P = []
    · rw [if_pos (show nI (pC P).length ≤ 0 by rw [q]; decide), if_pos q, s_X11_rotsOf_J82, nI_add]
      refine ⟨h, ?_, zfr.rf _ h⟩
      have := k_cl2 (m := 20) (by omega) (nI (1 + n)) h (fun v => some (v, h))
      have b : 1 + n ≤ 20 := by rw [hn]; split <;> omega
      rw [qCl_nI (by omega) b] at this
      refine this.trans ?_
      rw [hn]
      congr 3
      split <;> rfl
    · have q1 : 0 < (pC P).length := List.length_pos_iff.mpr q
      rw [if_neg (show ¬ nI (pC P).length ≤ 0 from nI_nle q1 hl), if_neg q, zq_ix (by omega) (by omega)]
      dsimp only [zlt]
      generalize e3 : zwI (zwI h 69 0 (zI h 64 r)) 69 1 (nI r) = h3
      have f3 : zfr (fun b _ => b = 69 ∨ b = 70) h h3 := by
        rw [← e3]
        exact (zfr.wI 69 0 _ (Or.inl rfl)).w 69 1 _ (Or.inl rfl)
      have s3 : zSM h3 (pR P) S := s.fr f3 (fun b k e => by omega)
      have p3 : zPM h3 P := w.fr f3 (fun b k e => by omega)
      have a1 : s_X11_strengthAt (nI r - 1) h3 = some (nI (qBf S r)) := by
        rw [qBf]
        rcases Nat.eq_zero_or_pos r with q2 | q2
        · subst q2
          exact k_strAt0 hR p3.1 (Or.inl (by decide))
        · rw [if_neg (by omega), show nI r - 1 = nI (r - 1) from zq_sub (b := 1) (by omega)]
          exact k_strAt hR p3.1 s3 (by omega)
      have a2 : s_X11_strengthAt (nI r + 1) h3 = some (nI (qBh (pR P) S r)) := by
        rw [qBh, show nI r + 1 = nI (r + 1) from nI_1 r]
        rcases Nat.lt_or_ge (r + 1) (pR P) with q2 | q2
        · rw [if_pos q2]
          exact k_strAt hR p3.1 s3 q2
        · rw [if_neg (by omega)]
          exact k_strAt0 hR p3.1 (Or.inr (nI_le q2 (by omega)))
      rw [a1, a2]
      dsimp only [Option.bind]
      generalize e4 : zwI h3 69 2 (nI (qBf S r) + nI (qBh (pR P) S r)) = h4
      have f4 : zfr (fun b _ => b = 69 ∨ b = 70) h h4 := by
        rw [← e4]
        exact f3.w 69 2 _ (Or.inl rfl)
      have s4 : zSM h4 (pR P) S := s.fr f4 (fun b k e => by omega)
      have p4 : zPM h4 P := w.fr f4 (fun b k e => by omega)
      have v0 : zI h4 69 0 = nI (S r) := by rw [← e4, ← e3]; exact s.1 r hr
      have v1 : zI h4 69 1 = nI r := by rw [← e4, ← e3]; rfl
      have v2 : zI h4 69 2 = nI (qBf S r + qBh (pR P) S r) := by rw [← e4]; exact nI_add _ _
      rw [k_pastM hR p4.1 s4 ho hr]
      have fin : ∀ n : Nat, n = qPa (pR P) S r → ∃ h', s_X11_rotsOf_J66 (nI 3) (nI n) h4 = some (nI (qCl 20 (qVal (qVr (pR P) S r) (pC P))), h') ∧ zfr (fun b _ => b = 69 ∨ b = 70) h h' := by
        intro n hn
        rw [s_X11_rotsOf_J66, zq_ix (by omega) (by omega)]
        dsimp only [zlt]
        generalize e5 : zwI (zwI h4 69 3 (nI n)) 69 4 (zI (zwI h4 69 3 (nI n)) 52 29) = h5
        have f5 : zfr (fun b _ => b = 69 ∨ b = 70) h h5 := by
          rw [← e5]
          exact (f4.w 69 3 _ (Or.inl rfl)).w 69 4 _ (Or.inl rfl)
        have p5 : zPM h5 P := w.fr f5 (fun b k e => by omega)
        have u0 : zI h5 69 0 = nI (S r) := by rw [← e5]; exact v0
        have u1 : zI h5 69 1 = nI r := by rw [← e5]; exact v1
        have u2 : zI h5 69 2 = nI (qBf S r + qBh (pR P) S r) := by rw [← e5]; exact v2
        have u3 : zI h5 69 3 = nI (qPa (pR P) S r) := by rw [← e5, ← hn]; rfl
        have u4 : zI h5 69 4 = nI (S 35) := by rw [← e5]; exact s4.2.2.2.2.2.2.1
        obtain ⟨h6, e6, f6⟩ := k_evalM (h := h5) (b := 60) (g := qPr) (C := pC P) (vals := qVr (pR P) S r) (by decide) qPr_lt q hP.2.2.2.2.1 p5.2.2.2.2.2.1 (fun v hv => by
          have e8 : v = 0 ∨ v = 1 ∨ v = 2 ∨ v = 3 ∨ v = 4 := by omega
          rcases e8 with e8 | e8 | e8 | e8 | e8 <;> subst e8
          · exact u0
          · exact u1
          · exact u4
          · exact u2
          · exact u3)
        rw [p5.2.2.2.2.1, e6]
        dsimp only [zbd]
        rw [s_X11_rotsOf_J82]
        exact ⟨h6, k_cl2 (m := 20) (by omega) _ h6 (fun v => some (v, h6)), f5.tr (f6.mo (fun b k e => Or.inr e))⟩
      have e9 : qPa (pR P) S r = 0 ∨ qPa (pR P) S r = 1 := by
        unfold qPa
        split
        · exact Or.inr rfl
        · split
          · exact Or.inl rfl
          · exact Or.inr rfl
      rcases e9 with e9 | e9
      · rw [e9]
        show ∃ h', (if nI 0 = 0 then s_X11_rotsOf_J66 3 0 h4 else s_X11_rotsOf_J66 3 1 h4) = _ ∧ _
        rw [if_pos (show nI 0 = 0 from rfl)]
        exact fin 0 e9.symm
      · rw [e9]
        show ∃ h', (if nI 1 = 0 then s_X11_rotsOf_J66 3 0 h4 else s_X11_rotsOf_J66 3 1 h4) = _ ∧ _
        rw [if_neg (by decide)]
        exact fin 1 e9.symm
  have e12 : ¬ (0 < r ∧ S (r - 1) = 0) → ∃ h', s_X11_rotsOf_J12 (nI r) (nI (qGo S (pR P))) (nI 1) h = some (nI (qRot P S r), h') ∧ zfr (fun b _ => b = 69 ∨ b = 70) h h' := by
    intro q
    rw [s_X11_rotsOf_J12, show nI r + 1 = nI (r + 1) from nI_1 r, k_of (by omega) (by omega), qGo_tb]
    dsimp only [Option.bind]
    by_cases q1 : r + 1 < pR P ∧ S (r + 1) = 0
    · have e : (decide (r + 1 < pR P) && decide (S (r + 1) = 0)).toNat = 1 := by simp [q1]
      rw [e, if_neg (by decide)]
      exact e21 1 (by rw [if_pos (Or.inr q1)])
    · have e : (decide (r + 1 < pR P) && decide (S (r + 1) = 0)).toNat = 0 := by
        rw [zq_tn0]
        rw [Bool.and_eq_false_iff, decide_eq_false_iff_not, decide_eq_false_iff_not]
        rcases Nat.lt_or_ge (r + 1) (pR P) with q2 | q2
        · exact Or.inr (fun q3 => q1 ⟨q2, q3⟩)
        · exact Or.inl (by omega)
      rw [e, if_pos (show nI 0 = 0 from rfl)]
      exact e21 0 (by rw [if_neg (fun n => n.elim q q1)])
  rw [s_X11_rotsOf, k_goneM hR w1 s.1 o0]
  dsimp only [Option.bind]
  rcases Nat.eq_zero_or_pos r with q | q
  · subst q
    rw [if_pos (by decide)]
    exact e12 (fun n => absurd n.1 (Nat.lt_irrefl 0))
  · rw [if_neg (nI_nle q (by omega)), show nI r - 1 = nI (r - 1) from zq_sub (b := 1) (by omega), k_of (by omega) (by omega), qGo_tb]
    try dsimp only
    by_cases q1 : S (r - 1) = 0
    · have e : (decide (r - 1 < pR P) && decide (S (r - 1) = 0)).toNat = 1 := by
        rw [zq_tn]
        simp [q1]
        omega
      rw [e, if_pos (by decide)]
      exact e21 1 (by rw [if_pos (Or.inl ⟨q, q1⟩)])
    · have e : (decide (r - 1 < pR P) && decide (S (r - 1) = 0)).toNat = 0 := by
        rw [zq_tn0]
        simp [q1]
      rw [e, if_neg (fun n => n rfl)]
      exact e12 (fun n => q1 n.2)
end ROTM
