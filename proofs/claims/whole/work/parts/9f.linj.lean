/-! ===== each line in the reference ===== -/
theorem tb_or {J R r : Nat} (hJ : J < 2 ^ R) (hr : r < R + 1) {jw : Nat} (hj : jw ≤ 1) : ((J ||| (if jw = 0 then 0 else 2 ^ R)).testBit r).toNat = if r = R then jw else (J.testBit r).toNat := by
  rw [Nat.testBit_or]
  by_cases q : r = R
  · rw [if_pos q, q, Nat.testBit_lt_two_pow hJ]
    by_cases z : jw = 0
    · rw [if_pos z, z, Nat.zero_testBit]; rfl
    · rw [if_neg z, Nat.testBit_two_pow_self, show jw = 1 by omega]; rfl
  · rw [if_neg q]
    by_cases z : jw = 0
    · rw [if_pos z, Nat.zero_testBit, Bool.or_false]
    · rw [if_neg z, Nat.testBit_two_pow_of_ne (fun e => q e.symm), Bool.or_false]
theorem dn_a (a : Bool) (p q : Prop) [Decidable p] [Decidable q] : (1 : Int32) &&& nI (a.toNat + ((if p then 0 else 2) + (if q then 0 else 4))) = nI a.toNat ∧ (2 : Int32) &&& nI (a.toNat + ((if p then 0 else 2) + (if q then 0 else 4))) = nI (if p then 0 else 2) ∧ (4 : Int32) &&& nI (a.toNat + ((if p then 0 else 2) + (if q then 0 else 4))) = nI (if q then 0 else 4) ∧ nI (a.toNat + ((if p then 0 else 2) + (if q then 0 else 4))) ||| 1 = nI (true.toNat + ((if p then 0 else 2) + (if q then 0 else 4))) ∧ nI (a.toNat + ((if p then 0 else 2) + (if q then 0 else 4))) ||| 2 = nI (a.toNat + (2 + (if q then 0 else 4))) ∧ nI (a.toNat + ((if p then 0 else 2) + (if q then 0 else 4))) ||| 4 = nI (a.toNat + ((if p then 0 else 2) + 4)) ∧ nI (a.toNat + ((if p then 0 else 2) + (if q then 0 else 4))) ||| 0 = nI (a.toNat + ((if p then 0 else 2) + (if q then 0 else 4))) := by
  by_cases e1 : p
  · simp only [if_pos e1]
    by_cases e2 : q
    · simp only [if_pos e2]; cases a <;> decide
    · simp only [if_neg e2]; cases a <;> decide
  · simp only [if_neg e1]
    by_cases e2 : q
    · simp only [if_pos e2]; cases a <;> decide
    · simp only [if_neg e2]; cases a <;> decide
section YB
variable {h0 h h1 h2 : zH} {B : Nat → Nat} {N x : Nat} {D : zDf}
/-- a line that is at fault -/
theorem y_bad {k p : Nat} (b : zBm h0 h k p) (k1 : 1 ≤ k) (k2 : k ≤ 5) (l1 l3 : Int32) : zMo h0 B N (s_X11_readLine_J58 l1 l3 h) (Sum.inl (k, p)) := ⟨_, h, y_58B (b.bad k1 k2) l1 l3, b⟩
theorem zLm.put (s : zLm h0 B N h x D) {A : Nat → Nat → Prop} (f : zfr A h h1) (q : ∀ b k, A b k → 56 ≤ b ∧ zAlm b k) {E : zDf} (m : zDM h1 E) : zLm h0 B N h1 x E := by
  obtain ⟨s1, s2, s3, s4⟩ := s
  refine ⟨s1.fr f (fun b k e => (q b k e).2), s2.fr f (fun b k e1 e2 => by have := (q b k e2).1; unfold zAu at e1; omega), ?_, m⟩
  rw [f.i (fun z => by have := (q _ _ z).1; omega)]; exact s3
theorem y_ano (w : zTbm h0 B N) (s : zLm h0 B N h x D) (hx : x ≤ N) {a n m : Nat} (ha : a < 2) (e : zI h 56 (6 + a) = nI n) (hn : n ≤ m) (hm : m < 100) : (n = m → ∃ h', s_X11_another (nI a) (nI m) h = some ((0 : Int32), h') ∧ zBm h0 h' 2 (tP B N x)) ∧ (n ≠ m → ∃ h', s_X11_another (nI a) (nI m) h = some ((1 : Int32), h') ∧ zLm h0 B N h' (tE B N x) D ∧ zfr zAu h h') := by
  obtain ⟨s1, s2, s3, s4⟩ := id s
  rw [s_X11_another, show (6 : Int32) + nI a = nI (6 + a) from nI_add 6 a, zq_ix (by omega) (by omega), e]
  refine ⟨fun q => ?_, fun q => ?_⟩
  · obtain ⟨h2, g2, b2⟩ := y_wr s1 s2 s3 2
    rw [if_neg (fun z => z (by rw [q])), show s_X11_wrong (2 : Int32) h = some h2 from g2, ob_e, s_X11_another_J11, if_neg (b2.bad (by omega) (by omega))]
    exact ⟨h2, rfl, b2⟩
  · obtain ⟨h2, g2, b2, f2⟩ := y_st w s hx
    rw [if_pos (nI_ne (b := m) q (by omega) (by omega)), s_X11_another_J11, if_pos (show zI h 52 20 = 0 from s3), g2, ob_e]
    exact ⟨h2, rfl, b2, f2⟩
theorem y_rib (w : zTbm h0 B N) (s : zLm h0 B N h x D) (hx : x ≤ N) (ok : dOk D x) {jw : Nat} (hj : jw ≤ 1) : zMo h0 B N ((s_X11_sayRib (nI jw) h).bind fun h4 => s_X11_readLine_J58 (nI (dn D)) 0 h4) (pRib B N jw D x) := by
  have hN := w.1
  have r12 := ok.1
  have e2 := (tE_le (B := B) hx).2.1
  have or0 : nI (dn D) ||| 0 = nI (dn D) := (dn_a (dcl D) (dC D = []) (dW D = [])).2.2.2.2.2.2
  obtain ⟨a1, a2⟩ := y_ano w s hx (a := 0) (n := dR D) (m := 12) (by omega) s.2.2.2.1 r12 (by omega)
  unfold pRib
  rw [s_X11_sayRib]
  by_cases q : dR D = 12
  · obtain ⟨h2, g2, b2⟩ := a1 q
    rw [show s_X11_another (0 : Int32) (12 : Int32) h = some ((0 : Int32), h2) from g2, zbd_e, if_neg (fun z => z rfl), ob_e, if_pos q]
    exact y_bad b2 (by omega) (by omega) _ _
  · obtain ⟨h2, g2, s2, f2⟩ := a2 q
    have i6 := s2.2.2.2.1
    rw [show s_X11_another (0 : Int32) (12 : Int32) h = some ((1 : Int32), h2) from g2, zbd_e, if_pos (by decide), if_neg q, i6, show (12 : Int32) + nI (dR D) = nI (12 + dR D) from nI_add 12 _, zq_ix (by omega) (by omega), zlt_e]
    have f3 : zfr (fun b k => b = 57 ∧ k = 12 + dR D) h2 (zwI h2 57 (12 + dR D) (nI jw)) := zfr.wI _ _ _ ⟨rfl, rfl⟩
    have c3 : zI (zwI h2 57 (12 + dR D) (nI jw)) 57 (12 + dR D) = nI jw := by rw [zI_wI, if_pos rfl, if_pos rfl]
    generalize zwI h2 57 (12 + dR D) (nI jw) = h3 at f3 c3 ⊢
    have s3 : zLm h0 B N h3 (tE B N x) D := s2.put f3 (fun b k e => by unfold zAlm; omega) (by
      obtain ⟨m1, m2, m3, m4, m5, m6, m7, m8, m9, m10⟩ := s2.2.2.2
      refine ⟨?_, ?_, ?_, ?_, ?_, ?_, fun r hr => ⟨?_, ?_⟩, fun v hv => ?_, fun i hi => ?_, fun i hi => ?_⟩
      · rw [f3.i (by omega)]; exact m1
      · rw [f3.i (by omega)]; exact m2
      · rw [f3.i (by omega)]; exact m3
      · rw [f3.i (by omega)]; exact m4
      · rw [f3.i (by omega)]; exact m5
      · rw [f3.i (by omega)]; exact m6
      · rw [f3.i (by omega)]; exact (m7 r hr).1
      · rw [f3.i (by omega)]; exact (m7 r hr).2
      · rw [f3.i (by omega)]; exact m8 v hv
      · rw [f3.i (by omega)]; exact m9 i hi
      · rw [f3.i (by omega)]; exact m10 i hi)
    obtain ⟨n1, n2⟩ := y_rn w s3 e2 (top := 99) (by omega)
    have nb := pNc_b (B := B) (N := N) 99 (tE B N x)
    by_cases q0 : pNc B N 99 (tE B N x) = 0
    · obtain ⟨h4, g4, s4, f4⟩ := n1 q0
      obtain ⟨m1, m2, m3, m4, m5, m6, m7, m8, m9, m10⟩ := s4.2.2.2
      have c4 : zI h4 57 (12 + dR D) = nI jw := by rw [f4.i (by unfold zAu; omega)]; exact c3
      rw [show s_X11_readNumber (0 : Int32) (99 : Int32) h3 = _ from g4, zbd_e, zq_ix (by omega) (by omega), zlt_e, zlt_e, if_pos q0, zI_wI, if_neg (by omega), m1, show nI (dR D) + 1 = nI (dR D + 1) from nI_1 _, ob_e]
      have f5 : zfr (fun b k => (b = 58 ∧ k = 12 + dR D) ∨ (b = 56 ∧ k = 6)) h4 (zwI (zwI h4 58 (12 + dR D) (nI (tV B N (tE B N x)))) 56 6 (nI (dR D + 1))) := (zfr.wI 58 _ _ (by omega)).w 56 6 _ (by omega)
      have c5 : zI (zwI (zwI h4 58 (12 + dR D) (nI (tV B N (tE B N x)))) 56 6 (nI (dR D + 1))) 56 6 = nI (dR D + 1) := by rw [zI_wI, if_pos rfl, if_pos rfl]
      have c6 : zI (zwI (zwI h4 58 (12 + dR D) (nI (tV B N (tE B N x)))) 56 6 (nI (dR D + 1))) 58 (12 + dR D) = nI (tV B N (tE B N x)) := by rw [zI_wI, if_neg (by decide), zI_wI, if_pos rfl, if_pos rfl]
      generalize zwI (zwI h4 58 (12 + dR D) (nI (tV B N (tE B N x)))) 56 6 (nI (dR D + 1)) = h5 at f5 c5 c6 ⊢
      have s5 := s4.put f5 (fun b k e => by unfold zAlm; omega) (E := (dR D + 1, dJ D ||| (if jw = 0 then 0 else 2 ^ dR D), zu (dS D) (dR D) (tV B N (tE B N x)), dV D, dT D, dk D, dl D, dcl D, dC D, dW D)) (by
        refine ⟨c5, ?_, ?_, ?_, ?_, ?_, fun r hr => ?_, fun v hv => ?_, fun i hi => ?_, fun i hi => ?_⟩
        · rw [f5.i (by omega)]; exact m2
        · rw [f5.i (by omega)]; exact m3
        · rw [f5.i (by omega)]; exact m4
        · rw [f5.i (by omega)]; exact m5
        · rw [f5.i (by omega)]; exact m6
        · have hr : r < dR D + 1 := hr
          show zI h5 57 (12 + r) = nI ((dJ D ||| (if jw = 0 then 0 else 2 ^ dR D)).testBit r).toNat ∧ zI h5 58 (12 + r) = nI (zu (dS D) (dR D) (tV B N (tE B N x)) r)
          rw [tb_or ok.2.1 hr hj]
          by_cases z : r = dR D
          · rw [if_pos z, z, zu_eq, f5.i (by omega)]; exact ⟨c4, c6⟩
          · rw [if_neg z, zu_ne _ _ z, f5.i (by omega), f5.i (by omega)]; exact m7 r (by omega)
        · rw [f5.i (by omega)]; exact m8 v hv
        · rw [f5.i (by omega)]; exact m9 i hi
        · rw [f5.i (by omega)]; exact m10 i hi)
      exact y_end w s5 (tE_le (B := B) e2).2.1 or0
    · obtain ⟨h4, g4, b4⟩ := n2 q0
      rw [show s_X11_readNumber (0 : Int32) (99 : Int32) h3 = _ from g4, zbd_e, zq_ix (by omega) (by omega), zlt_e, zlt_e, if_neg q0, ob_e]
      exact y_bad ((b4.w _ (by unfold zAlm; omega) (by omega)).w _ (by unfold zAlm; omega) (by omega)) (by omega) (by omega) _ _
theorem y_ver (w : zTbm h0 B N) (s : zLm h0 B N h x D) (hx : x ≤ N) (ok : dOk D x) : zMo h0 B N ((s_X11_sayVerse h).bind fun h4 => s_X11_readLine_J58 (nI (dn D)) 0 h4) (pVer B N D x) := by
  have hN := w.1
  have r8 := ok.2.2.2.1
  have e2 := (tE_le (B := B) hx).2.1
  have or0 : nI (dn D) ||| 0 = nI (dn D) := (dn_a (dcl D) (dC D = []) (dW D = [])).2.2.2.2.2.2
  obtain ⟨a1, a2⟩ := y_ano w s hx (a := 1) (n := dV D) (m := 8) (by omega) s.2.2.2.2.1 r8 (by omega)
  unfold pVer
  rw [s_X11_sayVerse]
  by_cases q : dV D = 8
  · obtain ⟨h2, g2, b2⟩ := a1 q
    rw [show s_X11_another (1 : Int32) (8 : Int32) h = some ((0 : Int32), h2) from g2, zbd_e, if_neg (fun z => z rfl), ob_e, if_pos q]
    exact y_bad b2 (by omega) (by omega) _ _
  · obtain ⟨h2, g2, s2, f2⟩ := a2 q
    have i6 := s2.2.2.2.2.1
    obtain ⟨n1, n2⟩ := y_rn w s2 e2 (top := 4095) (by omega)
    have nb := pNc_b (B := B) (N := N) 4095 (tE B N x)
    rw [show s_X11_another (1 : Int32) (8 : Int32) h = some ((1 : Int32), h2) from g2, zbd_e, if_pos (by decide), if_neg q, i6, show (8 : Int32) + nI (dV D) = nI (8 + dV D) from nI_add 8 _]
    by_cases q0 : pNc B N 4095 (tE B N x) = 0
    · obtain ⟨h4, g4, s4, f4⟩ := n1 q0
      obtain ⟨m1, m2, m3, m4, m5, m6, m7, m8, m9, m10⟩ := s4.2.2.2
      rw [show s_X11_readNumber (0 : Int32) (4095 : Int32) h2 = _ from g4, zbd_e, zq_ix (by omega) (by omega), zlt_e, zlt_e, if_pos q0, zI_wI, if_neg (by omega), m2, show nI (dV D) + 1 = nI (dV D + 1) from nI_1 _, ob_e]
      have f5 : zfr (fun b k => (b = 59 ∧ k = 8 + dV D) ∨ (b = 56 ∧ k = 7)) h4 (zwI (zwI h4 59 (8 + dV D) (nI (tV B N (tE B N x)))) 56 7 (nI (dV D + 1))) := (zfr.wI 59 _ _ (by omega)).w 56 7 _ (by omega)
      have c5 : zI (zwI (zwI h4 59 (8 + dV D) (nI (tV B N (tE B N x)))) 56 7 (nI (dV D + 1))) 56 7 = nI (dV D + 1) := by rw [zI_wI, if_pos rfl, if_pos rfl]
      have c6 : zI (zwI (zwI h4 59 (8 + dV D) (nI (tV B N (tE B N x)))) 56 7 (nI (dV D + 1))) 59 (8 + dV D) = nI (tV B N (tE B N x)) := by rw [zI_wI, if_neg (by decide), zI_wI, if_pos rfl, if_pos rfl]
      generalize zwI (zwI h4 59 (8 + dV D) (nI (tV B N (tE B N x)))) 56 7 (nI (dV D + 1)) = h5 at f5 c5 c6 ⊢
      have s5 := s4.put f5 (fun b k e => by unfold zAlm; omega) (E := (dR D, dJ D, dS D, dV D + 1, zu (dT D) (dV D) (tV B N (tE B N x)), dk D, dl D, dcl D, dC D, dW D)) (by
        refine ⟨?_, c5, ?_, ?_, ?_, ?_, fun r hr => ⟨?_, ?_⟩, fun v hv => ?_, fun i hi => ?_, fun i hi => ?_⟩
        · rw [f5.i (by omega)]; exact m1
        · rw [f5.i (by omega)]; exact m3
        · rw [f5.i (by omega)]; exact m4
        · rw [f5.i (by omega)]; exact m5
        · rw [f5.i (by omega)]; exact m6
        · rw [f5.i (by omega)]; exact (m7 r hr).1
        · rw [f5.i (by omega)]; exact (m7 r hr).2
        · have hv : v < dV D + 1 := hv
          show zI h5 59 (8 + v) = nI (zu (dT D) (dV D) (tV B N (tE B N x)) v)
          by_cases z : v = dV D
          · rw [z, zu_eq]; exact c6
          · rw [zu_ne _ _ z, f5.i (by omega)]; exact m8 v (by omega)
        · rw [f5.i (by omega)]; exact m9 i hi
        · rw [f5.i (by omega)]; exact m10 i hi)
      exact y_end w s5 (tE_le (B := B) e2).2.1 or0
    · obtain ⟨h4, g4, b4⟩ := n2 q0
      rw [show s_X11_readNumber (0 : Int32) (4095 : Int32) h2 = _ from g4, zbd_e, zq_ix (by omega) (by omega), zlt_e, zlt_e, if_neg q0, ob_e]
      exact y_bad ((b4.w _ (by unfold zAlm; omega) (by omega)).w _ (by unfold zAlm; omega) (by omega)) (by omega) (by omega) _ _
/-- a draft whose skills are others -/
theorem y_sk (s : zLm h0 B N h x D) {k v : Nat} (hk : k < 2) : zLm h0 B N (zwI h 56 (8 + k) (nI v)) x (dR D, dJ D, dS D, dV D, dT D, (if k = 0 then v else dk D), (if k = 0 then dl D else v), dcl D, dC D, dW D) := by
  obtain ⟨m1, m2, m3, m4, m5, m6, m7, m8, m9, m10⟩ := s.2.2.2
  have f5 : zfr (fun b j => b = 56 ∧ j = 8 + k) h (zwI h 56 (8 + k) (nI v)) := zfr.wI _ _ _ ⟨rfl, rfl⟩
  have c3 : zI (zwI h 56 (8 + k) (nI v)) 56 (8 + k) = nI v := by rw [zI_wI, if_pos rfl, if_pos rfl]
  generalize zwI h 56 (8 + k) (nI v) = h5 at f5 c3 ⊢
  refine s.put f5 (fun b k e => by unfold zAlm; omega) ⟨?_, ?_, ?_, ?_, ?_, ?_, fun r hr => ⟨?_, ?_⟩, fun v hv => ?_, fun i hi => ?_, fun i hi => ?_⟩
  · rw [f5.i (by omega)]; exact m1
  · rw [f5.i (by omega)]; exact m2
  · show zI h5 56 8 = nI (if k = 0 then v else dk D)
    by_cases z : k = 0
    · rw [if_pos z, ← show 8 + k = 8 by omega]; exact c3
    · rw [if_neg z, f5.i (by omega)]; exact m3
  · show zI h5 56 9 = nI (if k = 0 then dl D else v)
    by_cases z : k = 0
    · rw [if_pos z, f5.i (by omega)]; exact m4
    · rw [if_neg z, ← show 8 + k = 9 by omega]; exact c3
  · rw [f5.i (by omega)]; exact m5
  · rw [f5.i (by omega)]; exact m6
  · rw [f5.i (by omega)]; exact (m7 r hr).1
  · rw [f5.i (by omega)]; exact (m7 r hr).2
  · rw [f5.i (by omega)]; exact m8 v hv
  · rw [f5.i (by omega)]; exact m9 i hi
  · rw [f5.i (by omega)]; exact m10 i hi
theorem y_cla (w : zTbm h0 B N) (s : zLm h0 B N h x D) (hx : x ≤ N) (hc : dcl D = false) : zMo h0 B N ((s_X11_sayOnce 1 h).bind fun h4 => s_X11_readLine_J58 (nI (dn D)) 1 h4) (pCla B N D x) := by
  have hN := w.1
  have e2 := (tE_le (B := B) hx).2.1
  have e4 := (tE_le (B := B) e2).2.1
  have e6 := (tE_le (B := B) e4).2.1
  have or1 : nI (dn D) ||| 1 = nI (true.toNat + ((if dC D = [] then 0 else 2) + (if dW D = [] then 0 else 4))) := (dn_a (dcl D) (dC D = []) (dW D = [])).2.2.2.1
  obtain ⟨h2, g2, s2, f2⟩ := y_st w s hx
  obtain ⟨n1, n2⟩ := y_rn w s2 e2 (top := 9) (by omega)
  have nb := pNc_b (B := B) (N := N) 9 (tE B N x)
  have nb2 := pNc_b (B := B) (N := N) 9 (tE B N (tE B N x))
  unfold pCla
  rw [if_neg (show ¬ dcl D = true by rw [hc]; decide), s_X11_sayOnce, g2, ob_e, if_neg (fun z => z rfl)]
  by_cases q0 : pNc B N 9 (tE B N x) = 0
  · obtain ⟨h3, g3, s3, f3⟩ := n1 q0
    rw [show s_X11_readNumber (0 : Int32) (9 : Int32) h2 = _ from g3, zbd_e, zlt_e, if_pos q0]
    have s4 := y_sk s3 (k := 0) (v := tV B N (tE B N x)) (by omega)
    have s4 : zLm h0 B N (zwI h3 56 8 (nI (tV B N (tE B N x)))) (tE B N (tE B N x)) (dR D, dJ D, dS D, dV D, dT D, tV B N (tE B N x), dl D, dcl D, dC D, dW D) := s4
    generalize zwI h3 56 8 (nI (tV B N (tE B N x))) = h4 at s4 ⊢
    obtain ⟨k1, k2⟩ := y_rn w s4 e4 (top := 9) (by omega)
    by_cases q1 : pNc B N 9 (tE B N (tE B N x)) = 0
    · obtain ⟨h5, g5, s5, f5⟩ := k1 q1
      rw [show s_X11_readNumber (0 : Int32) (9 : Int32) h4 = _ from g5, zbd_e, zlt_e, if_pos q1, ob_e]
      have s6 := y_sk s5 (k := 1) (v := tV B N (tE B N (tE B N x))) (by omega)
      have s6 : zLm h0 B N (zwI h5 56 9 (nI (tV B N (tE B N (tE B N x))))) (tE B N (tE B N (tE B N x))) (dR D, dJ D, dS D, dV D, dT D, tV B N (tE B N x), tV B N (tE B N (tE B N x)), true, dC D, dW D) := s6
      exact y_end w s6 e6 or1
    · obtain ⟨h5, g5, b5⟩ := k2 q1
      rw [show s_X11_readNumber (0 : Int32) (9 : Int32) h4 = _ from g5, zbd_e, zlt_e, if_neg q1, ob_e]
      exact y_bad (b5.w _ (by unfold zAlm; omega) (by omega)) (by omega) (by omega) _ _
  · obtain ⟨h3, g3, b3⟩ := n2 q0
    rw [show s_X11_readNumber (0 : Int32) (9 : Int32) h2 = _ from g3, zbd_e, zlt_e, if_neg q0]
    have b4 : zBm h0 (zwI h3 56 8 (0 : Int32)) (pNc B N 9 (tE B N x)) (tP B N (tE B N x)) := b3.w _ (by unfold zAlm; omega) (by omega)
    rw [y_rnB (b4.bad (by omega) (by omega)), zbd_e, zlt_e, ob_e]
    exact y_bad (b4.w _ (by unfold zAlm; omega) (by omega)) (by omega) (by omega) _ _
end YB
