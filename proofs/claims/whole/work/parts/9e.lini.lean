/-! ===== lines in the reference ===== -/
/-- all stays but some ints, and the reference that may change -/
def zfs (A : Nat → Nat → Prop) (h h' : zH) : Prop := zK h' = zK h ∧ (∀ a y, zmu a y = false → zR h' a y = zR h a y) ∧ zL h' = zL h ∧ zX h' = zX h ∧ zc h' = zc h ∧ zs h' = zs h ∧ ∀ a k, ¬ A a k → zI h' a k = zI h a k
/-- what reading a text writes in the reference -/
def zAlm : Nat → Nat → Prop := fun b k => (b = 52 ∧ (k = 14 ∨ (16 ≤ k ∧ k ≤ 21) ∨ k = 23)) ∨ (b = 56 ∧ 6 ≤ k) ∨ (b = 57 ∧ 12 ≤ k) ∨ (b = 58 ∧ 12 ≤ k) ∨ (b = 59 ∧ 8 ≤ k) ∨ ((b = 60 ∨ b = 61) ∧ 700 ≤ k)
/-- the names that the reference keeps -/
def zVn (h : zH) : Prop := (zR h 53 0 = some (29, 30, 0) ∧ zR h 53 1 = some (30, 30, 0)) ∧ (zR h 54 0 = some (31, 30, 0) ∧ zR h 54 1 = some (32, 30, 0) ∧ zR h 54 2 = some (33, 30, 0) ∧ zR h 54 3 = some (34, 30, 0) ∧ zR h 54 4 = some (35, 30, 0)) ∧ (zR h 55 0 = some (36, 30, 0) ∧ zR h 55 1 = some (31, 30, 0) ∧ zR h 55 2 = some (32, 30, 0) ∧ zR h 55 3 = some (37, 30, 0) ∧ zR h 55 4 = some (35, 30, 0))
def zDM (h : zH) (D : zDf) : Prop := zI h 56 6 = nI (dR D) ∧ zI h 56 7 = nI (dV D) ∧ zI h 56 8 = nI (dk D) ∧ zI h 56 9 = nI (dl D) ∧ zI h 56 10 = nI (dC D).length ∧ zI h 56 11 = nI (dW D).length ∧ (∀ r, r < dR D → zI h 57 (12 + r) = nI ((dJ D).testBit r).toNat ∧ zI h 58 (12 + r) = nI (dS D r)) ∧ (∀ v, v < dV D → zI h 59 (8 + v) = nI (dT D v)) ∧ (∀ i, i < (dC D).length → zI h 60 (700 + i) = qEn qPr ((dC D).getD i 0)) ∧ ∀ i, i < (dW D).length → zI h 61 (700 + i) = qEn qPw ((dW D).getD i 0)
/-- which lines were read that may stand once -/
def dn (D : zDf) : Nat := (dcl D).toNat + ((if dC D = [] then 0 else 2) + (if dW D = [] then 0 else 4))
def zLm (h0 : zH) (B : Nat → Nat) (N : Nat) (h : zH) (x : Nat) (D : zDf) : Prop := zfs zAlm h0 h ∧ zTM h B N x ∧ zI h 52 20 = nI 0 ∧ zDM h D
def zBm (h0 h : zH) (k p : Nat) : Prop := zfs zAlm h0 h ∧ zI h 52 20 = nI k ∧ zI h 52 21 = nI p
def zMo (h0 : zH) (B : Nat → Nat) (N : Nat) (F : Option (Int32 × zH)) (r : pRd) : Prop := match r with
  | Sum.inl q => ∃ v h', F = some (v, h') ∧ zBm h0 h' q.1 q.2
  | Sum.inr q => ∃ h', F = some (nI (dn q.2), h') ∧ zLm h0 B N h' q.1 q.2
section YA
variable {A C : Nat → Nat → Prop} {h0 h h1 h2 : zH} {B : Nat → Nat} {N x : Nat} {D : zDf}
theorem zfs.rf : zfs A h h := ⟨rfl, fun _ _ _ => rfl, rfl, rfl, rfl, rfl, fun _ _ _ => rfl⟩
theorem zfr.fs (f : zfr A h h1) (m : ∀ a k, A a k → C a k) : zfs C h h1 := by
  obtain ⟨a1, a2, a3, a4, a5, a6, a7⟩ := f
  exact ⟨a1, fun a y _ => by rw [a2], a3, a4, a5, a6, fun a k q => a7 a k (fun z => q (m a k z))⟩
theorem zfs.tr (f : zfs A h h1) (g : zfs A h1 h2) : zfs A h h2 := by
  obtain ⟨a1, a2, a3, a4, a5, a6, a7⟩ := f
  obtain ⟨b1, b2, b3, b4, b5, b6, b7⟩ := g
  exact ⟨b1.trans a1, fun a y q => (b2 a y q).trans (a2 a y q), b3.trans a3, b4.trans a4, b5.trans a5, b6.trans a6, fun a k q => (b7 a k q).trans (a7 a k q)⟩
theorem zfs.fr (f : zfs A h h1) (g : zfr C h1 h2) (m : ∀ a k, C a k → A a k) : zfs A h h2 := f.tr (g.fs m)
theorem zfs.i (f : zfs A h h1) {a k : Nat} (q : ¬ A a k) : zI h1 a k = zI h a k := f.2.2.2.2.2.2 a k q
theorem zfs.r3 (r : Option zF) : zfs A h (zwR h 52 3 r) := ⟨rfl, fun a y q => by
  show (if a = 52 then (if y = 3 then r else zR h a y) else zR h a y) = zR h a y
  by_cases z : a = 52
  · by_cases z2 : y = 3
    · rw [z, z2] at q; cases q
    · rw [if_pos z, if_neg z2]
  · rw [if_neg z], rfl, rfl, rfl, rfl, fun _ _ _ => rfl⟩
theorem zVn.fs (w : zVn h) (f : zfs A h h1) : zVn h1 := by
  obtain ⟨⟨a0, a1⟩, ⟨b0, b1, b2, b3, b4⟩, c0, c1, c2, c3, c4⟩ := w
  have g := f.2.1
  exact ⟨⟨(g 53 0 rfl).trans a0, (g 53 1 rfl).trans a1⟩, ⟨(g 54 0 rfl).trans b0, (g 54 1 rfl).trans b1, (g 54 2 rfl).trans b2, (g 54 3 rfl).trans b3, (g 54 4 rfl).trans b4⟩, (g 55 0 rfl).trans c0, (g 55 1 rfl).trans c1, (g 55 2 rfl).trans c2, (g 55 3 rfl).trans c3, (g 55 4 rfl).trans c4⟩
theorem zVn_q {ρ : Nat → Nat → Option zF} (hR : zRq h ρ) (s : zSh ρ) : zVn h := ⟨⟨zrf hR rfl (s 53 0 rfl), zrf hR rfl (s 53 1 rfl)⟩, ⟨zrf hR rfl (s 54 0 rfl), zrf hR rfl (s 54 1 rfl), zrf hR rfl (s 54 2 rfl), zrf hR rfl (s 54 3 rfl), zrf hR rfl (s 54 4 rfl)⟩, zrf hR rfl (s 55 0 rfl), zrf hR rfl (s 55 1 rfl), zrf hR rfl (s 55 2 rfl), zrf hR rfl (s 55 3 rfl), zrf hR rfl (s 55 4 rfl)⟩
theorem zDM.fr (w : zDM h D) (f : zfr A h h1) (q : ∀ b k, 56 ≤ b → b ≤ 61 → ¬ A b k) : zDM h1 D := by
  obtain ⟨w1, w2, w3, w4, w5, w6, w7, w8, w9, w10⟩ := w
  refine ⟨?_, ?_, ?_, ?_, ?_, ?_, fun r hr => ⟨?_, ?_⟩, fun v hv => ?_, fun i hi => ?_, fun i hi => ?_⟩
  · rw [f.i (q _ _ (by omega) (by omega))]; exact w1
  · rw [f.i (q _ _ (by omega) (by omega))]; exact w2
  · rw [f.i (q _ _ (by omega) (by omega))]; exact w3
  · rw [f.i (q _ _ (by omega) (by omega))]; exact w4
  · rw [f.i (q _ _ (by omega) (by omega))]; exact w5
  · rw [f.i (q _ _ (by omega) (by omega))]; exact w6
  · rw [f.i (q _ _ (by omega) (by omega))]; exact (w7 r hr).1
  · rw [f.i (q _ _ (by omega) (by omega))]; exact (w7 r hr).2
  · rw [f.i (q _ _ (by omega) (by omega))]; exact w8 v hv
  · rw [f.i (q _ _ (by omega) (by omega))]; exact w9 i hi
  · rw [f.i (q _ _ (by omega) (by omega))]; exact w10 i hi
theorem y_tb (w : zTbm h0 B N) (s : zfs zAlm h0 h) : zTbm h B N := by
  obtain ⟨w1, w2, w3⟩ := w
  refine ⟨w1, ?_, fun i hi => ⟨(w3 i hi).1, ?_⟩⟩
  · rw [s.i (by unfold zAlm; omega)]; exact w2
  · rw [s.i (by unfold zAlm; omega)]; exact (w3 i hi).2
theorem y_st (w : zTbm h0 B N) (s : zLm h0 B N h x D) (hx : x ≤ N) : ∃ h', s_X11_stepOn h = some h' ∧ zLm h0 B N h' (tE B N x) D ∧ zfr zAu h h' := by
  obtain ⟨s1, s2, s3, s4⟩ := s
  obtain ⟨h1, e1, t1, f1⟩ := k_step (y_tb w s1) (tE_le (B := B) hx).2.1 s2.1
  refine ⟨h1, e1, ⟨s1.fr f1 (fun b k e => by unfold zAu at e; unfold zAlm; omega), t1, ?_, s4.fr f1 (fun b k e1 e2 => by unfold zAu; omega)⟩, f1⟩
  rw [f1.i (by unfold zAu; omega)]; exact s3
theorem y_wr (s1 : zfs zAlm h0 h) (s2 : zTM h B N x) (s3 : zI h 52 20 = nI 0) (k : Nat) : ∃ h', s_X11_wrong (nI k) h = some h' ∧ zBm h0 h' k (tP B N x) := by
  rw [s_X11_wrong, if_pos (show zI h 52 20 = 0 from s3), zlt_e, zlt_e]
  refine ⟨_, rfl, s1.fr (C := fun b k => b = 52 ∧ (k = 20 ∨ k = 21)) ((zfr.wI 52 20 _ (by omega)).w 52 21 _ (by omega)) (fun b k e => by unfold zAlm; omega), ?_, ?_⟩
  · rw [zI_wI, if_pos rfl, if_neg (by decide), zI_wI, if_pos rfl, if_pos rfl]
  · rw [zI_wI, if_pos rfl, if_pos rfl, zI_wI, if_pos rfl, if_neg (by decide)]; exact s2.2.2.1
theorem zBm.bad {k p : Nat} (w : zBm h0 h k p) (h1 : 1 ≤ k) (h2 : k ≤ 5) : ¬ zI h 52 20 = 0 := by
  rw [w.2.1]
  exact nI_ne0 (by omega) (by omega)
theorem zBm.w {k p : Nat} (w : zBm h0 h k p) {b j : Nat} (v : Int32) (q : zAlm b j) (n : b ≠ 52) : zBm h0 (zwI h b j v) k p := by
  obtain ⟨w1, w2, w3⟩ := w
  have f : zfr (fun b' j' => b' = b ∧ j' = j) h (zwI h b j v) := zfr.wI _ _ _ ⟨rfl, rfl⟩
  refine ⟨w1.fr f (fun b' j' e => by obtain ⟨rfl, rfl⟩ := e; exact q), ?_, ?_⟩
  · rw [f.i (by omega)]; exact w2
  · rw [f.i (by omega)]; exact w3
/-- a number of at most top -/
theorem y_rn (w : zTbm h0 B N) (s : zLm h0 B N h x D) (hx : x ≤ N) {top : Nat} (ht : top < 10000) : (pNc B N top x = 0 → ∃ h', s_X11_readNumber (0 : Int32) (nI top) h = some (nI (tV B N x), h') ∧ zLm h0 B N h' (tE B N x) D ∧ zfr zAu h h') ∧ (pNc B N top x ≠ 0 → ∃ h', s_X11_readNumber (0 : Int32) (nI top) h = some ((0 : Int32), h') ∧ zBm h0 h' (pNc B N top x) (tP B N x)) := by
  have hN := w.1
  obtain ⟨s1, s2, s3, s4⟩ := id s
  obtain ⟨t1, t2, t3, t4, t5⟩ := id s2
  have e1 := tE_le (B := B) hx
  have hk := tK_le (B := B) (N := N) (x := x)
  have bad : ∀ k, 1 ≤ k → k ≤ 2 → ∃ h', ((s_X11_wrong (nI k) h).bind fun h1 => s_X11_readNumber_J31 h1) = some ((0 : Int32), h') ∧ zBm h0 h' k (tP B N x) := by
    intro k k1 k2
    obtain ⟨h2, g2, b2⟩ := y_wr s1 s2 s3 k
    have bb := b2.bad k1 (by omega)
    rw [g2, ob_e, s_X11_readNumber_J31, if_pos bb, s_X11_readNumber_J38, if_pos bb]
    exact ⟨h2, rfl, b2⟩
  rw [s_X11_readNumber, if_pos (show zI h 52 20 = 0 from s3), t2]
  unfold pNc
  by_cases q : tK B N x = 3
  · have hv := tV_lt (B := B) q
    rw [if_pos (show nI (tK B N x - 1) = (2 : Int32) by rw [q]; rfl), t4, t3, zq_sub e1.1, if_pos q]
    by_cases q2 : 4 < tE B N x - tP B N x
    · rw [if_pos (show (4 : Int32) < nI (tE B N x - tP B N x) from nI_lt (a := 4) q2 (by omega)), if_pos q2]
      exact ⟨fun n => by omega, fun _ => bad 2 (by omega) (by omega)⟩
    · rw [if_neg (show ¬ (4 : Int32) < nI (tE B N x - tP B N x) from nI_nlt (a := 4) (by omega) (by omega)), t5 q (by omega), if_neg (nI_pos (by omega)), if_neg q2]
      by_cases q3 : tV B N x ≤ top
      · obtain ⟨h2, g2, s5, f5⟩ := y_st w s hx
        rw [if_pos (nI_le q3 (by omega)), if_pos q3, s_X11_readNumber_J31, if_neg (fun n => n (show zI h 52 20 = 0 from s3)), s_X11_readNumber_J38, if_neg (fun n => n (show zI h 52 20 = 0 from s3)), g2, ob_e, t5 q (by omega)]
        exact ⟨fun _ => ⟨h2, rfl, s5, f5⟩, fun n => absurd rfl n⟩
      · rw [if_neg (nI_ge (by omega) (by omega)), if_neg q3]
        exact ⟨fun n => by omega, fun _ => bad 2 (by omega) (by omega)⟩
  · rw [if_neg (show ¬ nI (tK B N x - 1) = (2 : Int32) from nI_ne (b := 2) (by have := tK_1 (B := B) (N := N) (x := x); omega) (by omega) (by omega)), if_neg q]
    exact ⟨fun n => by omega, fun _ => bad 1 (by omega) (by omega)⟩
theorem y_rnB (b : ¬ zI h 52 20 = 0) (t : Int32) : s_X11_readNumber (0 : Int32) t h = some ((0 : Int32), h) := by rw [s_X11_readNumber, if_neg b]
theorem y_58B (b : ¬ zI h 52 20 = 0) (l1 l3 : Int32) : s_X11_readLine_J58 l1 l3 h = some (l1 ||| l3, h) := by rw [s_X11_readLine_J58, b_mark b, ob_e]
theorem y_end (w : zTbm h0 B N) (s : zLm h0 B N h x D) (hx : x ≤ N) {l1 l3 : Int32} (e : l1 ||| l3 = nI (dn D)) : zMo h0 B N (s_X11_readLine_J58 l1 l3 h) (pEnd B N D x) := by
  obtain ⟨s1, s2, s3, s4⟩ := id s
  unfold pEnd
  rw [s_X11_readLine_J58, s_X11_mark, if_neg (fun n => n (show zI h 52 20 = 0 from s3)), show s_X11_isMarked (59 : Int32) h = _ from k_im (y_tb w s1) s2 s3 (c := 59) (by omega), ob_e]
  cases hq : tM B N x 59 with
  | true =>
    obtain ⟨h2, g2, s5, -⟩ := y_st w s hx
    rw [if_pos (by decide), if_pos rfl, s_X11_mark_J10, if_neg (fun n => n (show zI h 52 20 = 0 from s3)), g2, ob_e, ob_e, e]
    exact ⟨h2, rfl, s5⟩
  | false =>
    obtain ⟨h2, g2, b2⟩ := y_wr s1 s2 s3 1
    rw [if_neg (fun n => n rfl), if_neg (by decide), show s_X11_wrong (1 : Int32) h = some h2 from g2, ob_e, s_X11_mark_J10, if_pos (b2.bad (by omega) (by omega)), ob_e]
    exact ⟨_, h2, rfl, b2⟩
end YA
