/-! ===== an act is kept ===== -/
def qKa (n : Nat) (A : Nat → Nat → Nat) (S : Nat → Nat) (i : Nat) : Nat → Nat := if n < 40 then (if i = n then S else A i) else (if i < 39 then A (i + 1) else S)
/-- the ledger with the act kept, and another state -/
def lKp (L : zLg) (S : Nat → Nat) : zLg := (S, (if ln L < 40 then ln L + 1 else 40), qKa (ln L) (lA L) (lS L), lm L, lr L, ld L, lg L, lt L)
def lWi (L : zLg) (S : Nat → Nat) : zLg := (S, ln L, lA L, lm L, lr L, ld L, lg L, lt L)
theorem lKp_ok {R : Nat} {L : zLg} (h : lOk R L) {S : Nat → Nat} (hS : sOk2 R S) : lOk R (lKp L S) := by
  obtain ⟨h1, h2, h3, h4, h5⟩ := h
  refine ⟨hS, ?_, fun i hi => ?_, h4, h5⟩
  · show (if ln L < 40 then ln L + 1 else 40) ≤ 40
    split <;> omega
  · have hi : i < (if ln L < 40 then ln L + 1 else 40) := hi
    show sOk2 R (qKa (ln L) (lA L) (lS L) i)
    unfold qKa
    split
    · rename_i q
      rw [if_pos q] at hi
      split
      · exact h1
      · exact h3 i (by omega)
    · rename_i q
      rw [if_neg q] at hi
      split
      · exact h3 (i + 1) (by omega)
      · exact h1
section KP
variable {h h1 : zH} {R : Nat} {L : zLg} {a : Nat} {S : Nat → Nat}
theorem zLC.wi {A : Nat → Nat → Prop} (w : zLC h a R L) (hR : R ≤ 12) (hL : lOk R L) (f : zfr A h h1) (q : ∀ b k, (b = a ∧ (k = 6 ∨ k = 7)) ∨ (a + 7 ≤ b ∧ b ≤ a + 11) → ¬ A b k) (s : zSC h1 (a + 1) R S) : zLC h1 a R (lWi L S) := by
  obtain ⟨w1, w2, w3, w4, w5, w6⟩ := w
  refine ⟨s, ?_, fun i hi => (w3 i hi).sm f.sm (fun j _ _ => q _ _ (by omega)) hR (hL.2.2.1 i hi).1.2.2.2.2.2, ?_, fun i hi => ⟨?_, ?_, ?_⟩, fun i hi => ?_⟩
  · rw [f.i (q _ _ (by omega))]; exact w2
  · rw [f.i (q _ _ (by omega))]; exact w4
  · rw [f.i (q _ _ (by omega))]; exact (w5 i hi).1
  · rw [f.i (q _ _ (by omega))]; exact (w5 i hi).2.1
  · rw [f.i (q _ _ (by omega))]; exact (w5 i hi).2.2
  · rw [f.i (q _ _ (by omega))]; exact w6 i hi
theorem zLM.wi {A : Nat → Nat → Prop} (w : zLM h R L) (hR : R ≤ 12) (hL : lOk R L) (f : zfr A h h1) (q : ∀ b k, b = 62 ∨ b = 68 ∨ b = 76 ∨ b = 77 ∨ b = 79 ∨ (b = 52 ∧ 35 ≤ k ∧ k ≤ 36) → ¬ A b k) (s : zSM h1 R S) : zLM h1 R (lWi L S) := by
  obtain ⟨w1, w2, w3, w4, w5, w6⟩ := w
  refine ⟨s, ?_, fun i hi => (w3 i hi).sm f.sm (fun j _ _ => q _ _ (by omega)) hR (hL.2.2.1 i hi).1.2.2.2.2.2, ?_, fun i hi => ⟨?_, ?_, ?_⟩, fun i hi => ?_⟩
  · rw [f.i (q _ _ (by omega))]; exact w2
  · rw [f.i (q _ _ (by omega))]; exact w4
  · rw [f.i (q _ _ (by omega))]; exact (w5 i hi).1
  · rw [f.i (q _ _ (by omega))]; exact (w5 i hi).2.1
  · rw [f.i (q _ _ (by omega))]; exact (w5 i hi).2.2
  · rw [f.i (q _ _ (by omega))]; exact w6 i hi
theorem k_keep1 (hR : R ≤ 12) (hL : lOk R L) {n : Nat} {A : Nat → Nat → Nat} (hn : n < 40) (s : zSC h 19 R S) (hk : S 37 ≤ 9) (h6 : zI h 18 6 = nI n) (hA : ∀ i, i < n → zAC h 29 (38 * i) R (A i)) (hA2 : ∀ i, i < n → A i 37 ≤ 9) : ∃ h1, s_X2_keepAct_J15 18 h = some h1 ∧ zI h1 18 6 = nI (n + 1) ∧ (∀ i, i < n + 1 → zAC h1 29 (38 * i) R (if i = n then S else A i)) ∧ zfr (fun b k => b = 29 ∨ (b = 18 ∧ k = 6)) h h1 := by
  rw [s_X2_keepAct_J15, h6, show nI n * 38 = nI (n * 38) from pk_mul n 38]
  obtain ⟨h2, e2, s2, f2⟩ := k_pack (h := h) (a0 := 19) (b := 29) (n := 1520) (o := n * 38) (by omega) hR hk (by omega) (by omega) s
  have h62 : zI h2 18 6 = nI n := by rw [f2.i (by omega)]; exact h6
  rw [show s_X8_pack (18 + 1) (18 + 11) 1520 (nI (n * 38)) h = some h2 from e2, ob_e, zlt_e, h62, show nI n + 1 = nI (n + 1) from nI_1 n]
  have f3 : zfr (fun b k => b = 18 ∧ k = 6) h2 (zwI h2 18 6 (nI (n + 1))) := zfr.wI 18 6 _ ⟨rfl, rfl⟩
  refine ⟨_, rfl, rfl, fun i hi => ?_, (f2.mo (fun b k e => by omega)).tr (f3.mo (fun b k e => by omega))⟩
  by_cases q : i = n
  · subst q
    rw [if_pos rfl, show 38 * i = i * 38 by omega]
    exact s2.sm f3.sm (fun j _ _ => by omega) hR hk
  · rw [if_neg q]
    exact ((hA i (by omega)).sm f2.sm (fun j j1 j2 => by omega) hR (hA2 i (by omega))).sm f3.sm (fun j _ _ => by omega) hR (hA2 i (by omega))
theorem k_keep (hR : R ≤ 12) (hL : lOk R L) (w : zLC h 18 R L) : ∃ h1, s_X2_keepAct 18 h = some h1 ∧ zLC h1 18 R (lKp L (lS L)) ∧ zfr (fun b k => b = 29 ∨ (b = 18 ∧ k = 6)) h h1 := by
  obtain ⟨w1, w2, w3, w4, w5, w6⟩ := id w
  have hk := hL.1.1.2.2.2.2.2
  have hn := hL.2.1
  have fin : ∀ h1, (∀ i, i < (if ln L < 40 then ln L + 1 else 40) → zAC h1 29 (38 * i) R (qKa (ln L) (lA L) (lS L) i)) → zI h1 18 6 = nI (if ln L < 40 then ln L + 1 else 40) → zfr (fun b k => b = 29 ∨ (b = 18 ∧ k = 6)) h h1 → zLC h1 18 R (lKp L (lS L)) := by
    intro h1 a1 a2 f
    refine ⟨w1.fr f (fun b k _ _ => by omega), a2, a1, ?_, fun i hi => ⟨?_, ?_, ?_⟩, fun i hi => ?_⟩
    · rw [f.i (by omega)]; exact w4
    · rw [f.i (by omega)]; exact (w5 i hi).1
    · rw [f.i (by omega)]; exact (w5 i hi).2.1
    · rw [f.i (by omega)]; exact (w5 i hi).2.2
    · rw [f.i (by omega)]; exact w6 i hi
  rw [s_X2_keepAct, w2]
  rcases Nat.lt_or_ge (ln L) 40 with q | q
  · rw [if_pos (show nI (ln L) < 40 from nI_lt (b := 40) q (by omega))]
    obtain ⟨h1, e1, a1, a2, f1⟩ := k_keep1 hR hL q w1 hk w2 w3 (fun i hi => (hL.2.2.1 i hi).1.2.2.2.2.2)
    refine ⟨h1, e1, fin h1 (fun i hi => ?_) (by rw [a1, if_pos q]) f1, f1⟩
    rw [if_pos q] at hi
    unfold qKa
    rw [if_pos q]
    exact a2 i hi
  · rw [if_neg (show ¬ nI (ln L) < 40 from nI_nlt (b := 40) q (by omega)), zq_38, zq_0, zq_1482, zcq_e (by omega) (by omega) (by omega) (by omega), zlt_e]
    have en : ln L = 40 := by omega
    have f0 : zfr (fun b k => b = 29) h (zwA h 29 (va_cpy (zI h 29) (zI h 29) 38 0 1482)) := (zfr.rf _ h).cpy 29 29 38 0 1482 (fun _ _ _ => rfl)
    have sh : ∀ i, i < 39 → zAC (zwA h 29 (va_cpy (zI h 29) (zI h 29) 38 0 1482)) 29 (38 * i) R (lA L (i + 1)) := by
      intro i hi
      obtain ⟨b0, b1, b2⟩ := w3 (i + 1) (by omega)
      have hk1 := (hL.2.2.1 (i + 1) (by omega)).1.2.2.2.2.2
      refine ⟨fun r hr => ?_, fun j j1 j2 => ?_, fun j hj => ⟨?_, ?_⟩⟩
      · rw [zI_cpy, if_pos (by omega), show 38 + (38 * i + r - 0) = 38 * (i + 1) + r by omega]; exact b0 r hr
      · rw [zI_cpy, if_pos (by omega), show 38 + (38 * i + j - 0) = 38 * (i + 1) + j by omega]; exact b1 j j1 j2
      · rw [zI_cpy, if_pos (by omega), show 38 + (38 * i + (12 + j) - 0) = 38 * (i + 1) + (12 + j) by omega]; exact (b2 j hj).1
      · rw [zI_cpy, if_pos (by omega), show 38 + (38 * i + (21 + j) - 0) = 38 * (i + 1) + (21 + j) by omega]; exact (b2 j hj).2
    generalize zwA h 29 (va_cpy (zI h 29) (zI h 29) 38 0 1482) = h2 at f0 sh ⊢
    have f2 : zfr (fun b k => b = 18 ∧ k = 6) h2 (zwI h2 18 6 (39 : Int32)) := zfr.wI 18 6 _ ⟨rfl, rfl⟩
    have z2 : zI (zwI h2 18 6 (39 : Int32)) 18 6 = nI 39 := rfl
    generalize zwI h2 18 6 (39 : Int32) = h3 at f2 z2 ⊢
    have f03 : zfr (fun b k => b = 29 ∨ (b = 18 ∧ k = 6)) h h3 := (f0.mo (fun b k e => Or.inl e)).tr (f2.mo (fun b k e => Or.inr e))
    obtain ⟨h1, e1, a1, a2, f1⟩ := k_keep1 hR hL (n := 39) (A := fun i => lA L (i + 1)) (by omega) (w1.fr f03 (fun b k _ _ => by omega)) hk z2 (fun i hi => (sh i hi).sm f2.sm (fun j _ _ => by omega) hR (hL.2.2.1 (i + 1) (by omega)).1.2.2.2.2.2) (fun i hi => (hL.2.2.1 (i + 1) (by omega)).1.2.2.2.2.2)
    refine ⟨h1, e1, fin h1 (fun i hi => ?_) (by rw [a1, if_neg (by omega)]) (f03.tr f1), f03.tr f1⟩
    rw [if_neg (by omega)] at hi
    unfold qKa
    rw [if_neg (by omega)]
    have := a2 i (by omega)
    by_cases q3 : i = 39
    · rw [if_pos q3] at this
      rw [if_neg (by omega)]
      exact this
    · rw [if_neg q3] at this
      rw [if_pos (by omega)]
      exact this
theorem k_keepM1 (hR : R ≤ 12) {n : Nat} {A : Nat → Nat → Nat} (hn : n < 40) (s : zSM h R S) (hk : S 37 ≤ 9) (h6 : zI h 52 35 = nI n) (hA : ∀ i, i < n → zAM h 68 (38 * i) R (A i)) (hA2 : ∀ i, i < n → A i 37 ≤ 9) : ∃ h1, s_X11_keep_J29 h = some h1 ∧ zI h1 52 35 = nI (n + 1) ∧ (∀ i, i < n + 1 → zAM h1 68 (38 * i) R (if i = n then S else A i)) ∧ zfr (fun b k => b = 68 ∨ (b = 52 ∧ k = 35)) h h1 := by
  rw [s_X11_keep_J29, h6, show (38 : Int32) * nI n = nI (38 * n) from pk_mul 38 n]
  obtain ⟨h2, e2, v2, f2⟩ := k_packM (h := h) (b := 68) (n := 1520) (o := 38 * n) (by omega) (by omega) (by omega)
  have s2 := zAM.of (h1 := h2) (b := 68) (o := 38 * n) hR hk s v2
  have h62 : zI h2 52 35 = nI n := by rw [f2.i (by omega)]; exact h6
  rw [e2, ob_e, zlt_e, h62, show nI n + 1 = nI (n + 1) from nI_1 n]
  have f3 : zfr (fun b k => b = 52 ∧ k = 35) h2 (zwI h2 52 35 (nI (n + 1))) := zfr.wI 52 35 _ ⟨rfl, rfl⟩
  refine ⟨_, rfl, rfl, fun i hi => ?_, (f2.mo (fun b k e => by omega)).tr (f3.mo (fun b k e => by omega))⟩
  by_cases q : i = n
  · subst q
    rw [if_pos rfl]
    exact s2.sm f3.sm (fun j _ _ => by omega) hR hk
  · rw [if_neg q]
    exact ((hA i (by omega)).sm f2.sm (fun j j1 j2 => by omega) hR (hA2 i (by omega))).sm f3.sm (fun j _ _ => by omega) hR (hA2 i (by omega))
theorem k_shM : ∀ k m n h, m + k = 1520 → 38 ≤ m → k < n → ∃ h1, s_X11_keep_L6 n (nI m) h = s_X11_keep_L6 1 (nI 1520) h1 ∧ (∀ j, m - 38 ≤ j → j < 1482 → zI h1 68 j = zI h 68 (j + 38)) ∧ (∀ j, j < m - 38 → zI h1 68 j = zI h 68 j) ∧ zfr (fun b _ => b = 68) h h1 := by
  intro k
  induction k with
  | zero =>
    intro m n h e h1 hn
    obtain ⟨n, rfl, -⟩ := zq_suc hn
    have e2 : m = 1520 := by omega
    subst e2
    refine ⟨h, ?_, fun j j1 j2 => by omega, fun j _ => rfl, zfr.rf _ h⟩
    rw [s_X11_keep_L6, s_X11_keep_L6, if_pos (show Int32.ofNat 1520 ≤ nI 1520 from nI_le (a := 1520) (by omega) (by omega)), if_pos (show Int32.ofNat 1520 ≤ nI 1520 from nI_le (a := 1520) (by omega) (by omega))]
  | succ k ih =>
    intro m n h e h1 hn
    obtain ⟨n, rfl, hm⟩ := zq_suc hn
    rw [s_X11_keep_L6, if_neg (show ¬ Int32.ofNat 1520 ≤ nI m from nI_ge (b := 1520) (by omega) (by omega)), zq_ix (by omega) (by omega), show nI m - 38 = nI (m - 38) from zq_sub (b := 38) (by omega), zq_ix (by omega) (by omega), zlt_e, show nI m + 1 = nI (m + 1) from nI_1 m]
    have f0 : zfr (fun b _ => b = 68) h (zwI h 68 (m - 38) (zI h 68 m)) := zfr.wI 68 _ _ rfl
    obtain ⟨h2, e2, v2, u2, f2⟩ := ih (m + 1) n (zwI h 68 (m - 38) (zI h 68 m)) (by omega) (by omega) (by omega)
    refine ⟨h2, e2, fun j j1 j2 => ?_, fun j hj => ?_, f0.tr f2⟩
    · rcases Nat.eq_or_lt_of_le j1 with q | q
      · rw [u2 j (by omega), zI_wI, if_pos rfl, if_pos q.symm, ← q, show m - 38 + 38 = m by omega]
      · rw [v2 j (by omega) j2, zI_wI, if_pos rfl, if_neg (by omega)]
    · rw [u2 j (by omega), zI_wI, if_pos rfl, if_neg (by omega)]
theorem k_keepM (hR : R ≤ 12) (hL : lOk R L) (w : zLM h R L) : ∃ h1, s_X11_keep h = some h1 ∧ zLM h1 R (lKp L (lS L)) ∧ zfr (fun b k => b = 68 ∨ (b = 52 ∧ k = 35)) h h1 := by
  obtain ⟨w1, w2, w3, w4, w5, w6⟩ := id w
  have hk := hL.1.1.2.2.2.2.2
  have hn := hL.2.1
  have fin : ∀ h1, (∀ i, i < (if ln L < 40 then ln L + 1 else 40) → zAM h1 68 (38 * i) R (qKa (ln L) (lA L) (lS L) i)) → zI h1 52 35 = nI (if ln L < 40 then ln L + 1 else 40) → zfr (fun b k => b = 68 ∨ (b = 52 ∧ k = 35)) h h1 → zLM h1 R (lKp L (lS L)) := by
    intro h1 a1 a2 f
    refine ⟨w1.fr f (fun b k e => by omega), a2, a1, ?_, fun i hi => ⟨?_, ?_, ?_⟩, fun i hi => ?_⟩
    · rw [f.i (by omega)]; exact w4
    · rw [f.i (by omega)]; exact (w5 i hi).1
    · rw [f.i (by omega)]; exact (w5 i hi).2.1
    · rw [f.i (by omega)]; exact (w5 i hi).2.2
    · rw [f.i (by omega)]; exact w6 i hi
  rw [s_X11_keep, w2]
  by_cases q : ln L = 40
  · rw [if_neg (fun n => n (show nI (ln L) = 40 by rw [q]; rfl))]
    obtain ⟨h2, e2, v2, -, f0⟩ := k_shM 1482 38 zfu h (by omega) (by omega) (zq_fu (by omega))
    have sh : ∀ i, i < 39 → zAM h2 68 (38 * i) R (lA L (i + 1)) := by
      intro i hi
      obtain ⟨b0, ⟨b1, b2, b3, b4, b5, b6, b7, b8⟩, b9⟩ := w3 (i + 1) (by omega)
      have hk1 := (hL.2.2.1 (i + 1) (by omega)).1.2.2.2.2.2
      refine ⟨fun r hr => ?_, ⟨?_, ?_, ?_, ?_, ?_, ?_, ?_, ?_⟩, fun j hj => ⟨?_, ?_⟩⟩
      · rw [v2 _ (by omega) (by omega), show 38 * i + (24 + r) + 38 = 38 * (i + 1) + (24 + r) by omega]; exact b0 r hr
      · rw [v2 _ (by omega) (by omega), show 38 * i + 36 + 38 = 38 * (i + 1) + 36 by omega]; exact b1
      · rw [v2 _ (by omega) (by omega), show 38 * i + 37 + 38 = 38 * (i + 1) + 37 by omega]; exact b2
      · rw [v2 _ (by omega) (by omega), show 38 * i + 1 + 38 = 38 * (i + 1) + 1 by omega]; exact b3
      · rw [v2 _ (by omega) (by omega), show 38 * i + 2 + 38 = 38 * (i + 1) + 2 by omega]; exact b4
      · rw [v2 _ (by omega) (by omega), show 38 * i + 3 + 38 = 38 * (i + 1) + 3 by omega]; exact b5
      · rw [v2 _ (by omega) (by omega), show 38 * i + 38 = 38 * (i + 1) by omega]; exact b6
      · rw [v2 _ (by omega) (by omega), show 38 * i + 4 + 38 = 38 * (i + 1) + 4 by omega]; exact b7
      · rw [v2 _ (by omega) (by omega), show 38 * i + 5 + 38 = 38 * (i + 1) + 5 by omega]; exact b8
      · rw [v2 _ (by omega) (by omega), show 38 * i + (6 + j) + 38 = 38 * (i + 1) + (6 + j) by omega]; exact (b9 j hj).1
      · rw [v2 _ (by omega) (by omega), show 38 * i + (15 + j) + 38 = 38 * (i + 1) + (15 + j) by omega]; exact (b9 j hj).2
    have z35 : zI h2 52 35 = nI 40 := by rw [f0.i (by omega), w2, q]
    rw [show s_X11_keep_L6 zfu 38 h = _ from e2, s_X11_keep_L6, if_pos (show Int32.ofNat 1520 ≤ nI 1520 from nI_le (a := 1520) (by omega) (by omega)), zlt_e, z35, show nI 40 - 1 = nI 39 from zq_sub (a := 40) (b := 1) (by omega)]
    have f2 : zfr (fun b k => b = 52 ∧ k = 35) h2 (zwI h2 52 35 (nI 39)) := zfr.wI 52 35 _ ⟨rfl, rfl⟩
    have z2 : zI (zwI h2 52 35 (nI 39)) 52 35 = nI 39 := rfl
    generalize zwI h2 52 35 (nI 39) = h3 at f2 z2 ⊢
    have f03 : zfr (fun b k => b = 68 ∨ (b = 52 ∧ k = 35)) h h3 := (f0.mo (fun b k e => Or.inl e)).tr (f2.mo (fun b k e => Or.inr e))
    obtain ⟨h1, e1, a1, a2, f1⟩ := k_keepM1 hR (n := 39) (A := fun i => lA L (i + 1)) (by omega) (w1.fr f03 (fun b k e => by omega)) hk z2 (fun i hi => (sh i hi).sm f2.sm (fun j _ _ => by omega) hR (hL.2.2.1 (i + 1) (by omega)).1.2.2.2.2.2) (fun i hi => (hL.2.2.1 (i + 1) (by omega)).1.2.2.2.2.2)
    refine ⟨h1, e1, fin h1 (fun i hi => ?_) (by rw [a1, if_neg (by omega)]) (f03.tr f1), f03.tr f1⟩
    rw [if_neg (by omega)] at hi
    unfold qKa
    rw [if_neg (by omega)]
    have := a2 i (by omega)
    by_cases q3 : i = 39
    · rw [if_pos q3] at this
      rw [if_neg (by omega)]
      exact this
    · rw [if_neg q3] at this
      rw [if_pos (by omega)]
      exact this
  · have q2 : ln L < 40 := by omega
    rw [if_pos (show ¬ nI (ln L) = 40 from fun e => q ((nI_eq (by omega) (by omega)).mp (show nI (ln L) = nI 40 from e)))]
    obtain ⟨h1, e1, a1, a2, f1⟩ := k_keepM1 hR q2 w1 hk w2 w3 (fun i hi => (hL.2.2.1 i hi).1.2.2.2.2.2)
    refine ⟨h1, e1, fin h1 (fun i hi => ?_) (by rw [a1, if_pos q2]) f1, f1⟩
    rw [if_pos q2] at hi
    unfold qKa
    rw [if_pos q2]
    exact a2 i hi
end KP
