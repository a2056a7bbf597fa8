/-! ===== the tape ===== -/
/-- what the tape may change -/
def zAp : Nat → Nat → Prop := fun b k => zScr b k ∨ (b = 0 ∧ k = 1) ∨ b = 1 ∨ b = 63 ∨ (b = 52 ∧ k = 13)
/-- the k-th byte's word and the byte itself, as it is shifted -/
def qWo (a b c d e : Int32) (k : Nat) : Int32 := if k < 4 then a else if k < 8 then b else if k < 12 then c else if k < 16 then d else e
def qBy (a b c d e : Int32) (k : Nat) : Int32 := qWo a b c d e k >>> (nI (24 - 8 * (k % 4)) &&& 31)
theorem k_byte (x : Int32) : ∃ b, b < 256 ∧ x &&& 255 = nI b ∧ x.toInt8.toInt32 = (nI b).toInt8.toInt32 := by
  obtain ⟨b, h1, h2⟩ := pk_andE x (m := 255) 8 rfl
  refine ⟨b, h1, h2, ?_⟩
  rw [← h2, fa_byte_low]
theorem k_m8 {m : Nat} : nI (8 * (m + 1)) + (-8 : Int32) = nI (8 * m) := by
  rw [show 8 * (m + 1) = 8 * m + 8 by omega, ← nI_add, show (-8 : Int32) = -(nI 8) from rfl]
  rw [← Int32.sub_eq_add_neg, Int32.add_sub_cancel]
section FE
variable {c pp : Nat} {h h1 : zH} {P : zPl} {L : zLg}
theorem k_fn (x : Int32) : ∀ m n h t, m ≤ 4 → m < n → zI h 0 1 = nI t → t + m ≤ 700 → ∃ h', s_X10_feedNumber_L2 pp n x (nI (8 * m) + (-8)) h = some h' ∧ zI h' 0 1 = nI (t + m) ∧ (∀ j, j < m → zI h' 1 (t + j) = (x >>> (nI (8 * (m - 1 - j)) &&& 31)).toInt8.toInt32) ∧ zfr (fun b k => (b = 0 ∧ k = 1) ∨ (b = 1 ∧ t ≤ k ∧ k < t + m)) h h' := by
  intro m
  induction m with
  | zero =>
    intro n h t _ hn ht _
    obtain ⟨n, rfl, -⟩ := zq_suc hn
    refine ⟨h, ?_, ht, fun j hj => by omega, zfr.rf _ h⟩
    rw [s_X10_feedNumber_L2, if_pos (by decide)]
  | succ m ih =>
    intro n h t hm hn ht h7
    obtain ⟨n, rfl, hn2⟩ := zq_suc hn
    rw [k_m8, s_X10_feedNumber_L2, if_neg (nI_pos (by omega)), ht, if_neg (show ¬ (700 : Int32) ≤ nI t from nI_ge (b := 700) (by omega) (by omega)), zq_ix (by omega) (by omega), zlt_e, zlt_e, zI_wI, if_neg (by decide), ht, show nI t + 1 = nI (t + 1) from nI_1 t, fb_byte_twice]
    have f1 : zfr (fun b k => (b = 0 ∧ k = 1) ∨ (b = 1 ∧ k = t)) h (zwI (zwI h 1 t (x >>> (nI (8 * m) &&& 31)).toInt8.toInt32) 0 1 (nI (t + 1))) := (zfr.wI 1 t _ (Or.inr ⟨rfl, rfl⟩)).w 0 1 _ (Or.inl ⟨rfl, rfl⟩)
    have c1 : zI (zwI (zwI h 1 t (x >>> (nI (8 * m) &&& 31)).toInt8.toInt32) 0 1 (nI (t + 1))) 0 1 = nI (t + 1) := by rw [zI_wI, if_pos rfl, if_pos rfl]
    have c2 : zI (zwI (zwI h 1 t (x >>> (nI (8 * m) &&& 31)).toInt8.toInt32) 0 1 (nI (t + 1))) 1 t = (x >>> (nI (8 * m) &&& 31)).toInt8.toInt32 := by rw [zI_wI, if_neg (by decide), zI_wI, if_pos rfl, if_pos rfl]
    generalize zwI (zwI h 1 t (x >>> (nI (8 * m) &&& 31)).toInt8.toInt32) 0 1 (nI (t + 1)) = h2 at f1 c1 c2 ⊢
    obtain ⟨h3, e3, d1, d2, f3⟩ := ih n h2 (t + 1) (by omega) (by omega) c1 (by omega)
    refine ⟨h3, e3, by rw [d1, show t + 1 + m = t + (m + 1) by omega], fun j hj => ?_, (f1.mo (fun b k e => by omega)).tr (f3.mo (fun b k e => by omega))⟩
    cases j with
    | zero => rw [Nat.add_zero, f3.i (by omega), c2, show m + 1 - 1 - 0 = m by omega]
    | succ j => rw [show t + (j + 1) = t + 1 + j by omega, d2 j (by omega), show m + 1 - 1 - (j + 1) = m - 1 - j by omega]
theorem k_fnum (x : Int32) {t : Nat} (ht : zI h 0 1 = nI t) (h7 : t + 4 ≤ 700) : ∃ h', s_X10_feedNumber pp x h = some h' ∧ zI h' 0 1 = nI (t + 4) ∧ (∀ j, j < 4 → zI h' 1 (t + j) = (x >>> (nI (24 - 8 * j) &&& 31)).toInt8.toInt32) ∧ zfr (fun b k => (b = 0 ∧ k = 1) ∨ (b = 1 ∧ t ≤ k ∧ k < t + 4)) h h' := by
  obtain ⟨h1, e1, a1, a2, f1⟩ := k_fn (pp := pp) x 4 zfu h t (by omega) (zq_fu (by omega)) ht h7
  refine ⟨h1, ?_, a1, fun j hj => ?_, f1⟩
  · rw [s_X10_feedNumber]; exact e1
  · rw [a2 j hj, show 8 * (4 - 1 - j) = 24 - 8 * j by omega]
theorem k_feed (a b c d e : Int32) {t : Nat} (ht : zI h 0 1 = nI t) (h7 : t + 20 ≤ 700) : ∃ h', s_X10_feed pp a b c d e h = some (nI (t + 20), h') ∧ zI h' 0 1 = nI (t + 20) ∧ (∀ k, k < 20 → zI h' 1 (t + k) = (qBy a b c d e k).toInt8.toInt32) ∧ zfr (fun b k => (b = 0 ∧ k = 1) ∨ (b = 1 ∧ t ≤ k)) h h' := by
  obtain ⟨h1, e1, a1, b1, f1⟩ := k_fnum (pp := pp) a ht (by omega)
  obtain ⟨h2, e2, a2, b2, f2⟩ := k_fnum (pp := pp) b a1 (by omega)
  obtain ⟨h3, e3, a3, b3, f3⟩ := k_fnum (pp := pp) c a2 (by omega)
  obtain ⟨h4, e4, a4, b4, f4⟩ := k_fnum (pp := pp) d a3 (by omega)
  obtain ⟨h5, e5, a5, b5, f5⟩ := k_fnum (pp := pp) e a4 (by omega)
  rw [show t + 4 + 4 + 4 + 4 + 4 = t + 20 by omega] at a5
  refine ⟨h5, ?_, a5, fun k hk => ?_, ((((f1.mo (fun b k e => by omega)).tr (f2.mo (fun b k e => by omega))).tr (f3.mo (fun b k e => by omega))).tr (f4.mo (fun b k e => by omega))).tr (f5.mo (fun b k e => by omega))⟩
  · rw [s_X10_feed, ht, show nI t + (20 : Int32) = nI (t + 20) from nI_add t 20, if_pos (show nI (t + 20) ≤ (700 : Int32) from nI_le (b := 700) h7 (by omega)), e1, ob_e, e2, ob_e, e3, ob_e, e4, ob_e, e5, ob_e, a5]
  · unfold qBy qWo
    by_cases q1 : k < 4
    · rw [if_pos q1, show k % 4 = k by omega, f5.i (by omega), f4.i (by omega), f3.i (by omega), f2.i (by omega)]
      exact b1 k q1
    · rw [if_neg q1]
      by_cases q2 : k < 8
      · rw [if_pos q2, show k % 4 = k - 4 by omega, f5.i (by omega), f4.i (by omega), f3.i (by omega), show t + k = t + 4 + (k - 4) by omega]
        exact b2 (k - 4) (by omega)
      · rw [if_neg q2]
        by_cases q3 : k < 12
        · rw [if_pos q3, show k % 4 = k - 8 by omega, f5.i (by omega), f4.i (by omega), show t + k = t + 4 + 4 + (k - 8) by omega]
          exact b3 (k - 8) (by omega)
        · rw [if_neg q3]
          by_cases q4 : k < 16
          · rw [if_pos q4, show k % 4 = k - 12 by omega, f5.i (by omega), show t + k = t + 4 + 4 + 4 + (k - 12) by omega]
            exact b4 (k - 12) (by omega)
          · rw [if_neg q4, show k % 4 = k - 16 by omega, show t + k = t + 4 + 4 + 4 + 4 + (k - 16) by omega]
            exact b5 (k - 16) (by omega)
theorem k_feedM (a b c d e : Int32) : ∀ k m n h t, m + k = 20 → k < n → zI h 52 13 = nI (t + m) → t + 20 ≤ 700 → ∃ h', s_X11_feed_L13 n a b c d e (nI m) h = some (nI (t + 20), h') ∧ zI h' 52 13 = nI (t + 20) ∧ (∀ j, m ≤ j → j < 20 → zI h' 63 (t + j) = qBy a b c d e j &&& 255) ∧ zfr (fun b k => (b = 52 ∧ k = 13) ∨ (b = 63 ∧ t + m ≤ k)) h h' := by
  intro k
  induction k with
  | zero =>
    intro m n h t em hn ht h7
    obtain ⟨n, rfl, -⟩ := zq_suc hn
    have e2 : m = 20 := by omega
    subst e2
    refine ⟨h, ?_, ht, fun j j1 j2 => by omega, zfr.rf _ h⟩
    rw [s_X11_feed_L13, if_pos (by decide), ht]
  | succ k ih =>
    intro m n h t em hn ht h7
    obtain ⟨n, rfl, hn2⟩ := zq_suc hn
    have key : ∀ w : Int32, w = qWo a b c d e m → ∃ h', s_X11_feed_J37 (s_X11_feed_L13 n) a b c d e (nI m) w h = some (nI (t + 20), h') ∧ zI h' 52 13 = nI (t + 20) ∧ (∀ j, m ≤ j → j < 20 → zI h' 63 (t + j) = qBy a b c d e j &&& 255) ∧ zfr (fun b k => (b = 52 ∧ k = 13) ∨ (b = 63 ∧ t + m ≤ k)) h h' := by
      intro w ew
      rw [s_X11_feed_J37, show zre (nI m) (4 : Int32) = some (nI (m % 4)) from zre_e (b := 4) (by omega) (by omega) (by omega), ob_e, ht, zq_ix (by omega) (by omega), zlt_e, zlt_e, zI_wI, if_neg (by decide), ht, show nI (t + m) + 1 = nI (t + m + 1) from nI_1 _, show (24 : Int32) - ((8 : Int32) * nI (m % 4)) = nI (24 - 8 * (m % 4)) by
        rw [show (8 : Int32) * nI (m % 4) = nI (8 * (m % 4)) from pk_mul 8 _]
        exact zq_sub (a := 24) (by omega), show nI m + 1 = nI (m + 1) from nI_1 m, ew, show qWo a b c d e m >>> (nI (24 - 8 * (m % 4)) &&& 31) = qBy a b c d e m from rfl]
      have f1 : zfr (fun b k => (b = 52 ∧ k = 13) ∨ (b = 63 ∧ k = t + m)) h (zwI (zwI h 63 (t + m) (qBy a b c d e m &&& 255)) 52 13 (nI (t + m + 1))) := (zfr.wI 63 _ _ (Or.inr ⟨rfl, rfl⟩)).w 52 13 _ (Or.inl ⟨rfl, rfl⟩)
      have c1 : zI (zwI (zwI h 63 (t + m) (qBy a b c d e m &&& 255)) 52 13 (nI (t + m + 1))) 52 13 = nI (t + m + 1) := by rw [zI_wI, if_pos rfl, if_pos rfl]
      have c2 : zI (zwI (zwI h 63 (t + m) (qBy a b c d e m &&& 255)) 52 13 (nI (t + m + 1))) 63 (t + m) = qBy a b c d e m &&& 255 := by rw [zI_wI, if_neg (by decide), zI_wI, if_pos rfl, if_pos rfl]
      generalize zwI (zwI h 63 (t + m) (qBy a b c d e m &&& 255)) 52 13 (nI (t + m + 1)) = h2 at f1 c1 c2 ⊢
      obtain ⟨h3, e3, d1, d2, f3⟩ := ih (m + 1) n h2 t (by omega) (by omega) (by rw [c1, Nat.add_assoc]) h7
      refine ⟨h3, e3, d1, fun j j1 j2 => ?_, (f1.mo (fun b k e => by omega)).tr (f3.mo (fun b k e => by omega))⟩
      by_cases q : j = m
      · subst q; rw [f3.i (by omega)]; exact c2
      · exact d2 j (by omega) j2
    rw [s_X11_feed_L13, if_neg (show ¬ (20 : Int32) ≤ nI m from nI_ge (b := 20) (by omega) (by omega))]
    by_cases q1 : m < 4
    · rw [if_neg (show ¬ (4 : Int32) ≤ nI m from nI_ge (b := 4) q1 (by omega))]
      exact key a (by unfold qWo; rw [if_pos q1])
    · rw [if_pos (show (4 : Int32) ≤ nI m from nI_le (a := 4) (by omega) (by omega))]
      by_cases q2 : m < 8
      · rw [if_neg (show ¬ (8 : Int32) ≤ nI m from nI_ge (b := 8) q2 (by omega))]
        exact key b (by unfold qWo; rw [if_neg q1, if_pos q2])
      · rw [if_pos (show (8 : Int32) ≤ nI m from nI_le (a := 8) (by omega) (by omega))]
        by_cases q3 : m < 12
        · rw [if_neg (show ¬ (12 : Int32) ≤ nI m from nI_ge (b := 12) q3 (by omega))]
          exact key c (by unfold qWo; rw [if_neg q1, if_neg q2, if_pos q3])
        · rw [if_pos (show (12 : Int32) ≤ nI m from nI_le (a := 12) (by omega) (by omega))]
          by_cases q4 : m < 16
          · rw [if_neg (show ¬ (16 : Int32) ≤ nI m from nI_ge (b := 16) q4 (by omega))]
            exact key d (by unfold qWo; rw [if_neg q1, if_neg q2, if_neg q3, if_pos q4])
          · rw [if_pos (show (16 : Int32) ≤ nI m from nI_le (a := 16) (by omega) (by omega))]
            exact key e (by unfold qWo; rw [if_neg q1, if_neg q2, if_neg q3, if_neg q4])
theorem zRel.ta (w : zRel c h pp P L) (f : zSm zAp h h1) {t : Nat} (q : zTa h1 t) : zRel c h1 pp P L := by
  obtain ⟨w0, w1, w2, w3, w4, w5, w6, w7, ⟨b, w8⟩, -, w10, w11⟩ := w
  have hR := w1.1
  refine ⟨w0, w1, w2, w3.sm f ?_, w4.sm f ?_, w5.sm f ?_ hR w2, w6.sm f ?_ hR w2, w7.sm f ?_, ⟨b, w8.sm f ?_ hR⟩, ⟨t, q⟩, ?_, w11.sm f ?_⟩
  · intro b k e1 e2; unfold zAp zScr; omega
  · intro b k e; unfold zAp zScr; omega
  · intro b k e1 e2; unfold zAp zScr; omega
  · intro b k e; unfold zAp zScr; omega
  · intro b k e; unfold zAp zScr; omega
  · intro b k e; unfold zAp zScr; omega
  · rw [f _ _ (by unfold zAp zScr; omega), f _ _ (by unfold zAp zScr; omega)]; exact w10
  · intro b k e; unfold zAp zScr; omega
theorem c_feed (w : zRel c h pp P L) (a1 a2 a3 a4 a5 : Int32) : zCal2 c h pp P (s_X10_feed pp a1 a2 a3 a4 a5 h) (s_X11_feed a1 a2 a3 a4 a5) := by
  obtain ⟨t, t0, t1, t2, t3⟩ := w.2.2.2.2.2.2.2.2.2.1
  have f0 : zfr zScr h h := zfr.rf _ h
  by_cases q : t + 20 ≤ 700
  · obtain ⟨h1, e1, b1, b2, f1⟩ := k_feed (pp := pp) a1 a2 a3 a4 a5 t1 q
    have f2 : zfr (fun b k => b = 52 ∧ k = 4) h1 (zwI h1 52 4 (0 : Int32)) := zfr.wI 52 4 _ ⟨rfl, rfl⟩
    generalize e9 : zwI h1 52 4 (0 : Int32) = h2 at f2
    have t4 : zI h2 52 13 = nI (t + 0) := by rw [f2.i (by omega), f1.i (by omega), Nat.add_zero]; exact t2
    obtain ⟨h3, e3, c1, c2, f3⟩ := k_feedM a1 a2 a3 a4 a5 20 0 zfu h2 t (by omega) (zq_fu (by omega)) t4 q
    have f9 : zfr zAp h h3 := ((f1.mo (fun b k e => by unfold zAp; omega)).tr (f2.mo (fun b k e => by unfold zAp zScr; omega))).tr (f3.mo (fun b k e => by unfold zAp; omega))
    refine ⟨nI (t + 20), h1, h3, L, e1, ?_, (w.ta f9.sm (t := t + 20) ⟨q, ?_, c1, fun i hi => ?_⟩).up, f9.gd (by unfold zAp zScr; omega)⟩
    · rw [s_X11_feed, zlt_e, e9, t4, show nI (t + 0) + (20 : Int32) = nI (t + 20) from nI_add _ 20, if_pos (show nI (t + 20) ≤ (700 : Int32) from nI_le (b := 700) q (by omega))]
      exact e3
    · rw [f3.i (by omega), f2.i (by omega)]; exact b1
    · by_cases z : i < t
      · obtain ⟨b, x1, x2, x3⟩ := t3 i z
        exact ⟨b, x1, by rw [f3.i (by omega), f2.i (by omega), f1.i (by omega)]; exact x2, by rw [f3.i (by omega), f2.i (by omega), f1.i (by omega)]; exact x3⟩
      · obtain ⟨j, rfl⟩ : ∃ j, i = t + j := ⟨i - t, by omega⟩
        obtain ⟨b, x1, x2, x3⟩ := k_byte (qBy a1 a2 a3 a4 a5 j)
        refine ⟨b, x1, by rw [c2 j (by omega) (by omega)]; exact x2, ?_⟩
        rw [f3.i (by omega), f2.i (by omega), b2 j (by omega)]
        exact x3
  · have f2 : zfr zScr h (zwI h 52 4 (0 : Int32)) := zfr.wI 52 4 _ (by unfold zScr; omega)
    refine ⟨nM, h, zwI h 52 4 (0 : Int32), L, ?_, ?_, (w.fr f2).up, f2.gd (by unfold zScr; omega)⟩
    · rw [s_X10_feed, t1, show nI t + (20 : Int32) = nI (t + 20) from nI_add t 20, if_neg (show ¬ nI (t + 20) ≤ (700 : Int32) from nI_ge (a := 700) (by omega) (by omega))]
      rfl
    · rw [s_X11_feed, zlt_e, f2.i (by unfold zScr; omega), t2, show nI t + (20 : Int32) = nI (t + 20) from nI_add t 20, if_neg (show ¬ nI (t + 20) ≤ (700 : Int32) from nI_ge (a := 700) (by omega) (by omega))]
      rfl
end FE
