/-! ===== years ===== -/
def qSd (x : Int32) : Int32 := x * 1103515245 + 12345
def qRd (x : Int32) : Nat := ((x.toUInt32 >>> ((16 : Int32).toUInt32 &&& Int32.toUInt32 31)).toInt32 &&& (32767 : Int32)).toBitVec.toNat
theorem k_dn (x : Int32) : (x.toUInt32 >>> ((16 : Int32).toUInt32 &&& Int32.toUInt32 31)).toInt32 &&& (32767 : Int32) = nI (qRd x) := by
  apply Int32.toBitVec.inj
  show _ = BitVec.ofNat 32 (qRd x)
  unfold qRd
  rw [BitVec.ofNat_toNat, BitVec.setWidth_eq]
theorem qRd_lt (x : Int32) : qRd x < 32768 := by
  unfold qRd
  rw [Int32.toBitVec_and, BitVec.toNat_and]
  exact Nat.lt_of_le_of_lt Nat.and_le_right (by decide)
theorem b_32767 : ∀ i, i < 32 → 16 ≤ i → bt 32767 i = false := by decide +kernel
theorem k_dn2 (x : Int32) : (x >>> ((16 : Int32) &&& 31)) &&& (32767 : Int32) = nI (qRd x) := by
  rw [← k_dn]
  apply b_ext
  intro i hi
  rw [b_and, b_and, show bt (x >>> ((16 : Int32) &&& 31)) i = _ from b_sshr 16 (by omega) x hi, show bt ((x.toUInt32 >>> ((16 : Int32).toUInt32 &&& Int32.toUInt32 31)).toInt32) i = _ from b_ushr 16 (by omega) x i]
  by_cases q : 16 + i < 32
  · rw [if_pos q]
  · rw [b_32767 i hi (by omega), Bool.and_false, Bool.and_false]
theorem k_re {a m : Nat} (ha : a < 2 ^ 31) (hm : 0 < m) (hm2 : m < 2 ^ 31) : zre (nI a) (nI m) = some (nI (a % m)) := by
  have e : (nI m == 0) = false := by
    cases q : (nI m == 0) with
    | false => rfl
    | true => exact absurd ((nI_eq (b := 0) (by omega) (by omega)).mp (eq_of_beq q)) (by omega)
  unfold zre
  rw [e, cond_false, pk_rem ha hm hm2]
theorem k_draw {m : Nat} (hm : 0 < m) (hm2 : m < 2 ^ 31) (h : zH) : s_X0_draw (nI m) h = some (nI (qRd (qSd (zI h 50 0)) % m), zwI h 50 0 (qSd (zI h 50 0))) := by
  have := qRd_lt (qSd (zI h 50 0))
  rw [s_X0_draw, zlt_e, if_neg (show ¬ nI m ≤ 0 from nI_ge (b := m) (a := 0) hm hm2), zI_wI, if_pos rfl, if_pos rfl, show zI h 50 0 * 1103515245 + 12345 = qSd (zI h 50 0) from rfl, k_dn, k_re (by omega) hm hm2, ob_e]
theorem k_drawM {m : Nat} (hm : 0 < m) (hm2 : m < 2 ^ 31) (h : zH) : s_X11_drawOf (nI m) h = some (nI (qRd (qSd (zI h 52 58)) % m), zwI h 52 58 (qSd (zI h 52 58))) := by
  have := qRd_lt (qSd (zI h 52 58))
  rw [s_X11_drawOf, zlt_e, zI_wI, if_pos rfl, if_pos rfl, show zI h 52 58 * 1103515245 + 12345 = qSd (zI h 52 58) from rfl, k_dn2, k_re (by omega) hm hm2, ob_e]
theorem sOk_u {R : Nat} {S : Nat → Nat} (h : sOk R S) {j v : Nat} (hj : j < R) (hR : R ≤ 12) (hv : v ≤ 99) : sOk R (zu S j v) := by
  obtain ⟨a1, a2, a3, a4, a5, a6⟩ := h
  have e : ∀ k, 12 ≤ k → zu S j v k = S k := fun k hk => zu_ne _ _ (by omega)
  refine ⟨fun r hr => ?_, by rw [e _ (by omega)]; exact a2, by rw [e _ (by omega)]; exact a3, by rw [e _ (by omega), e _ (by omega)]; exact a4, by rw [e _ (by omega)]; exact a5, by rw [e _ (by omega)]; exact a6⟩
  by_cases q : r = j
  · subst q; rw [zu_eq]; exact hv
  · rw [zu_ne _ _ q]; exact a1 r hr
theorem sOk_k {R : Nat} {S : Nat → Nat} (h : sOk R S) {j v : Nat} (hj : j < 2) (hR : R ≤ 12) (hv : v ≤ 9) : sOk R (zu S (30 + j) v) := by
  obtain ⟨a1, a2, a3, a4, a5, a6⟩ := h
  have e : ∀ k, k ≠ 30 + j → zu S (30 + j) v k = S k := fun k hk => zu_ne _ _ hk
  refine ⟨fun r hr => by rw [e _ (by omega)]; exact a1 r hr, ?_, ?_, by rw [e _ (by omega), e _ (by omega)]; exact a4, by rw [e _ (by omega)]; exact a5, by rw [e _ (by omega)]; exact a6⟩
  · by_cases q : 30 = 30 + j
    · rw [← q, zu_eq]; exact hv
    · rw [e _ q]; exact a2
  · by_cases q : 31 = 30 + j
    · rw [← q, zu_eq]; exact hv
    · rw [e _ q]; exact a3
/-- what chance does: seed, state -/
def qM9 (s d : Nat) : Nat := if s + d < 99 then s + d else 99
def qLc (P : zPl) (x : Int32) (S : Nat → Nat) : Int32 × (Nat → Nat) :=
  if qRd (qSd x) % 7 ≤ 1 then (if pR P = 0 then (qSd x, S) else (qSd (qSd x), zu S (qRd (qSd (qSd x)) % pR P) (if qRd (qSd x) % 7 = 0 then 0 else qM9 (S (qRd (qSd (qSd x)) % pR P)) 9)))
  else if qRd (qSd x) % 7 = 2 then (qSd (qSd x), zu S 30 (qRd (qSd (qSd x)) % 10))
  else if qRd (qSd x) % 7 = 3 then (qSd (qSd x), zu S 31 (qRd (qSd (qSd x)) % 10))
  else (qSd x, S)
theorem qM9_le (s d : Nat) : qM9 s d ≤ 99 := by unfold qM9; split <;> omega
theorem qLc_ok {P : zPl} (hR : pR P ≤ 12) {x : Int32} {S : Nat → Nat} (h : sOk (pR P) S) : sOk (pR P) (qLc P x S).2 := by
  unfold qLc
  split
  · split
    · exact h
    · refine sOk_u h (Nat.mod_lt _ (by omega)) hR ?_
      split
      · omega
      · exact qM9_le _ _
  · split
    · exact sOk_k h (j := 0) (by omega) hR (by have := Nat.mod_lt (qRd (qSd (qSd x))) (show 0 < 10 by omega); omega)
    · split
      · exact sOk_k h (j := 1) (by omega) hR (by have := Nat.mod_lt (qRd (qSd (qSd x))) (show 0 < 10 by omega); omega)
      · exact h
section YE
variable {c pp : Nat} {h h1 : zH} {P : zPl} {L : zLg} {S : Nat → Nat} {x : Int32}
theorem k_chance (hP : pOk P) (hp : pp = 2 ∨ pp = 9) (w : zPC h pp P) (s : zSC h 30 (pR P) S) (ho : sOk (pR P) S) (hx : zI h 50 0 = x) : ∃ h', s_X10_letChanceAct pp h = some h' ∧ zSC h' 30 (pR P) (qLc P x S).2 ∧ zI h' 50 0 = (qLc P x S).1 ∧ zfr (fun b _ => (30 ≤ b ∧ b ≤ 35) ∨ b = 50) h h' := by
  subst hx
  have hR := hP.1
  have hk := ho.2.2.2.2.2
  rw [s_X10_letChanceAct, show s_X0_draw 7 h = _ from k_draw (m := 7) (by omega) (by omega) h, zbd_e]
  have f1 : zfr (fun b _ => (30 ≤ b ∧ b ≤ 35) ∨ b = 50) h (zwI h 50 0 (qSd (zI h 50 0))) := zfr.wI 50 0 _ (by omega)
  have f1' : zfr (fun b _ => b = 50) h (zwI h 50 0 (qSd (zI h 50 0))) := zfr.wI 50 0 _ rfl
  have z1 : zI (zwI h 50 0 (qSd (zI h 50 0))) 50 0 = qSd (zI h 50 0) := by rw [zI_wI, if_pos rfl, if_pos rfl]
  have am := Nat.mod_lt (qRd (qSd (zI h 50 0))) (show 0 < 7 by omega)
  unfold qLc
  generalize qRd (qSd (zI h 50 0)) % 7 = a at am ⊢
  generalize qSd (zI h 50 0) = x1 at f1 f1' z1 ⊢
  generalize zwI h 50 0 x1 = h1 at f1 f1' z1 ⊢
  have w1 : zPC h1 pp P := w.fr f1' (fun b k _ _ => by omega)
  have s1 : zSC h1 30 (pR P) S := s.fr f1' (fun b k _ _ => by omega)
  rw [w1.1]
  have f2 : zfr (fun b _ => b = 50) h1 (zwI h1 50 0 (qSd x1)) := zfr.wI 50 0 _ rfl
  have z2 : zI (zwI h1 50 0 (qSd x1)) 50 0 = qSd x1 := by rw [zI_wI, if_pos rfl, if_pos rfl]
  have dr : ∀ m, 0 < m → m < 2 ^ 31 → s_X0_draw (nI m) h1 = some (nI (qRd (qSd x1) % m), zwI h1 50 0 (qSd x1)) := by
    intro m m1 m2
    have := k_draw m1 m2 h1
    rw [z1] at this
    exact this
  generalize zwI h1 50 0 (qSd x1) = h2 at f2 z2 dr ⊢
  have s2 : zSC h2 30 (pR P) S := s1.fr f2 (fun b k _ _ => by omega)
  have f12 : zfr (fun b _ => (30 ≤ b ∧ b ≤ 35) ∨ b = 50) h h2 := f1.tr (f2.mo (fun b k e => Or.inr e))
  by_cases q1 : a ≤ 1
  · rw [if_pos q1, if_neg (show ¬ (1 : Int32) < nI a from nI_nlt (a := 1) q1 (by omega))]
    by_cases q0 : pR P = 0
    · rw [if_pos q0, q0, if_pos (show nI 0 ≤ 0 by decide), s_X10_letChanceAct_J34, if_pos (show ¬ nI a = 2 from fun e => by have := (nI_eq (b := 2) (by omega) (by omega)).mp e; omega), if_pos (show ¬ nI a = 3 from fun e => by have := (nI_eq (b := 3) (by omega) (by omega)).mp e; omega)]
      rw [q0] at s1
      exact ⟨h1, rfl, s1, z1, f1⟩
    · have rm := Nat.mod_lt (qRd (qSd x1)) (show 0 < pR P by omega)
      rw [if_neg q0, if_neg (show ¬ nI (pR P) ≤ 0 from nI_ge (a := 0) (by omega) (by omega)), dr _ (by omega) (by omega), zbd_e]
      generalize qRd (qSd x1) % pR P = r at rm ⊢
      have b9 := ho.1 r rm
      by_cases q2 : a = 0
      · rw [if_pos q2, q2, if_neg (fun n => n rfl), zq_ix (show r < 12 by omega) (by omega), zlt_e]
        exact ⟨_, rfl, zSC_str hR hk s2 (by omega) 0, by rw [zI_wI, if_neg (by omega)]; exact z2, f12.w 31 r _ (by omega)⟩
      · rw [if_neg q2, if_pos (show ¬ nI a = 0 from fun e => q2 ((nI_eq (b := 0) (by omega) (by omega)).mp e)), s_X8_strengthen, zq_ix (show r < 12 by omega) (by omega), show zI h2 (30 + 1) r = nI (S r) from s2.1 r rm, show nI (S r) + 9 = nI (S r + 9) from nI_add _ _, show s_J9_min_7cf53 99 (nI (S r + 9)) h2 = _ from k_min2 (a := 99) (b := S r + 9) (by omega) (by omega) h2, ob_e, zq_ix (show r < 12 by omega) (by omega), zlt_e, ob_e]
        exact ⟨_, rfl, zSC_str hR hk s2 (by omega) _, by rw [zI_wI, if_neg (by omega)]; exact z2, f12.w 31 r _ (by omega)⟩
  · rw [if_neg q1, if_pos (show (1 : Int32) < nI a from nI_lt (a := 1) (by omega) (by omega)), s_X10_letChanceAct_J34]
    by_cases q2 : a = 2
    · rw [if_pos q2, q2, if_neg (fun n => n rfl), show s_X0_draw 10 h1 = _ from dr 10 (by omega) (by omega), zbd_e, zlt_e]
      exact ⟨_, rfl, zSC_sk0 hR hk s2 _, by rw [zI_wI, if_neg (by omega)]; exact z2, f12.w 32 0 _ (by omega)⟩
    · rw [if_neg q2, if_pos (show ¬ nI a = 2 from fun e => q2 ((nI_eq (b := 2) (by omega) (by omega)).mp e))]
      by_cases q3 : a = 3
      · rw [if_pos q3, q3, if_neg (fun n => n rfl), show s_X0_draw 10 h1 = _ from dr 10 (by omega) (by omega), zbd_e, zlt_e]
        exact ⟨_, rfl, zSC_sk1 hR hk s2 _, by rw [zI_wI, if_neg (by omega)]; exact z2, f12.w 32 1 _ (by omega)⟩
      · rw [if_neg q3, if_pos (show ¬ nI a = 3 from fun e => q3 ((nI_eq (b := 3) (by omega) (by omega)).mp e))]
        exact ⟨h1, rfl, s1, z1, f1⟩
def zAy : Nat → Nat → Prop := fun b k => (b = 64 ∧ k < 12) ∨ (b = 65 ∧ k < 2) ∨ (b = 52 ∧ k = 58)
theorem k_chanM (hP : pOk P) (w : zPM h P) (s : zSM h (pR P) S) (ho : sOk (pR P) S) (hx : zI h 52 58 = x) : ∃ h', s_X11_something h = some h' ∧ zSM h' (pR P) (qLc P x S).2 ∧ zI h' 52 58 = (qLc P x S).1 ∧ zfr zAy h h' := by
  subst hx
  have hR := hP.1
  have hk := ho.2.2.2.2.2
  rw [s_X11_something, show s_X11_drawOf 7 h = _ from k_drawM (m := 7) (by omega) (by omega) h, zbd_e]
  have f1 : zfr zAy h (zwI h 52 58 (qSd (zI h 52 58))) := zfr.wI 52 58 _ (by unfold zAy; omega)
  have f1' : zfr (fun b k => b = 52 ∧ k = 58) h (zwI h 52 58 (qSd (zI h 52 58))) := zfr.wI 52 58 _ ⟨rfl, rfl⟩
  have z1 : zI (zwI h 52 58 (qSd (zI h 52 58))) 52 58 = qSd (zI h 52 58) := by rw [zI_wI, if_pos rfl, if_pos rfl]
  have am := Nat.mod_lt (qRd (qSd (zI h 52 58))) (show 0 < 7 by omega)
  unfold qLc
  generalize qRd (qSd (zI h 52 58)) % 7 = a at am ⊢
  generalize qSd (zI h 52 58) = x1 at f1 f1' z1 ⊢
  generalize zwI h 52 58 x1 = h1 at f1 f1' z1 ⊢
  have w1 : zPM h1 P := w.fr f1' (fun b k e => by omega)
  have s1 : zSM h1 (pR P) S := s.fr f1' (fun b k e => by omega)
  have f2 : zfr (fun b k => b = 52 ∧ k = 58) h1 (zwI h1 52 58 (qSd x1)) := zfr.wI 52 58 _ ⟨rfl, rfl⟩
  have z2 : zI (zwI h1 52 58 (qSd x1)) 52 58 = qSd x1 := by rw [zI_wI, if_pos rfl, if_pos rfl]
  have dr : ∀ m, 0 < m → m < 2 ^ 31 → s_X11_drawOf (nI m) h1 = some (nI (qRd (qSd x1) % m), zwI h1 52 58 (qSd x1)) := by
    intro m m1 m2
    have := k_drawM m1 m2 h1
    rw [z1] at this
    exact this
  generalize zwI h1 52 58 (qSd x1) = h2 at f2 z2 dr ⊢
  have s2 : zSM h2 (pR P) S := s1.fr f2 (fun b k e => by omega)
  have f12 : zfr zAy h h2 := f1.tr (f2.mo (fun b k e => by unfold zAy; omega))
  by_cases q1 : a ≤ 1
  · rw [if_pos q1, if_neg (show ¬ nI a = 2 from fun e => by have := (nI_eq (b := 2) (by omega) (by omega)).mp e; omega), if_pos (show ¬ nI a = 3 from fun e => by have := (nI_eq (b := 3) (by omega) (by omega)).mp e; omega), s_X11_something_J19, if_neg (show ¬ (1 : Int32) < nI a from nI_nlt (a := 1) q1 (by omega)), w1.1]
    by_cases q0 : pR P = 0
    · rw [if_pos q0, q0, if_neg (fun n => n rfl)]
      rw [q0] at s1
      exact ⟨h1, rfl, s1, z1, f1⟩
    · have rm := Nat.mod_lt (qRd (qSd x1)) (show 0 < pR P by omega)
      rw [if_neg q0, if_pos (show ¬ nI (pR P) = 0 from fun e => q0 ((nI_eq (b := 0) (by omega) (by omega)).mp e)), dr _ (by omega) (by omega), zbd_e]
      generalize qRd (qSd x1) % pR P = r at rm ⊢
      have b9 := ho.1 r rm
      by_cases q2 : a = 0
      · rw [if_pos q2, q2, if_neg (fun n => n rfl), zq_ix (show r < 12 by omega) (by omega), zlt_e]
        exact ⟨_, rfl, zSM_str hR hk s2 (by omega) 0, by rw [zI_wI, if_neg (by omega)]; exact z2, f12.w 64 r _ (by unfold zAy; omega)⟩
      · rw [if_neg q2, if_pos (show ¬ nI a = 0 from fun e => q2 ((nI_eq (b := 0) (by omega) (by omega)).mp e)), zq_ix (show r < 12 by omega) (by omega), s2.1 r rm, show nI (S r) + 9 = nI (S r + 9) from nI_add _ _, show s_J9_min_7cf53 99 (nI (S r + 9)) h2 = _ from k_min2 (a := 99) (b := S r + 9) (by omega) (by omega) h2, ob_e, zq_ix (show r < 12 by omega) (by omega), zlt_e]
        exact ⟨_, rfl, zSM_str hR hk s2 (by omega) _, by rw [zI_wI, if_neg (by omega)]; exact z2, f12.w 64 r _ (by unfold zAy; omega)⟩
  · rw [if_neg q1]
    by_cases q2 : a = 2
    · rw [if_pos q2, q2, if_pos (show nI 2 = 2 from rfl), s_X11_something_J10, show s_X11_drawOf 10 h1 = _ from dr 10 (by omega) (by omega), zbd_e, show nI 2 - 2 = nI 0 from zq_sub (a := 2) (b := 2) (by omega), zq_ix (show 0 < 2 by omega) (by omega), zlt_e, s_X11_something_J19, if_pos (show (1 : Int32) < nI 2 by decide)]
      exact ⟨_, rfl, zSM_sk0 hR hk s2 _, by rw [zI_wI, if_neg (by omega)]; exact z2, f12.w 65 0 _ (by unfold zAy; omega)⟩
    · rw [if_neg q2, if_neg (show ¬ nI a = 2 from fun e => q2 ((nI_eq (b := 2) (by omega) (by omega)).mp e))]
      by_cases q3 : a = 3
      · rw [if_pos q3, q3, if_neg (fun n => n rfl), s_X11_something_J10, show s_X11_drawOf 10 h1 = _ from dr 10 (by omega) (by omega), zbd_e, show nI 3 - 2 = nI 1 from zq_sub (a := 3) (b := 2) (by omega), zq_ix (show 1 < 2 by omega) (by omega), zlt_e, s_X11_something_J19, if_pos (show (1 : Int32) < nI 3 by decide)]
        exact ⟨_, rfl, zSM_sk1 hR hk s2 _, by rw [zI_wI, if_neg (by omega)]; exact z2, f12.w 65 1 _ (by unfold zAy; omega)⟩
      · rw [if_neg q3, if_pos (show ¬ nI a = 3 from fun e => q3 ((nI_eq (b := 3) (by omega) (by omega)).mp e)), s_X11_something_J19, if_pos (show (1 : Int32) < nI a from nI_lt (a := 1) (by omega) (by omega))]
        exact ⟨h1, rfl, s1, z1, f1⟩
end YE
