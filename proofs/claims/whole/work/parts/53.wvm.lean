/-! ===== weaving, in the reference ===== -/
theorem zu_same (S : Nat → Nat) {k v : Nat} (h : v = S k) : zu S k v = S := by
  funext j
  unfold zu
  split
  · rename_i e; rw [e]; exact h
  · rfl
theorem qF3_cong {S T : Nat → Nat} {w : Nat} : ∀ k, (∀ j, w ≤ j → j < w + k → S j = T j) → qF3 S w k = qF3 T w k := by
  intro k
  induction k with
  | zero => intro _; rfl
  | succ k ih =>
    intro e
    rw [qF3, qF3, ih (fun j h1 h2 => e j h1 (by omega)), e (w + k) (by omega) (by omega)]
theorem qF3_head {S : Nat → Nat} {w : Nat} (h : S w = 0) : ∀ k, qF3 S w (k + 1) = qF3 S (w + 1) k := by
  intro k
  induction k with
  | zero =>
    show (if S (w + 0) = 0 then _ else _) = _
    rw [Nat.add_zero, if_pos h]
    rfl
  | succ k ih =>
    rw [qF3, ih, qF3, show w + (k + 1) = w + 1 + k by omega]
theorem qF3_first {S : Nat → Nat} {w : Nat} (h : S w ≠ 0) : ∀ k, (qF3 S w (k + 1)).1 ≠ 0 ∧ (qF3 S w (k + 1)).2.1 = w := by
  intro k
  induction k with
  | zero =>
    rw [qF3, if_neg (by rw [Nat.add_zero]; exact h)]
    exact ⟨by show (0 : Nat) + 1 ≠ 0; omega, rfl⟩
  | succ k ih =>
    rw [qF3]
    split
    · exact ih
    · dsimp only
      exact ⟨by omega, by rw [if_neg ih.1]; exact ih.2⟩
theorem qGp_bt {R : Nat} {S : Nat → Nat} (hR : R ≤ 12) {c : Nat} (hc : c < 2) (n : S 32 + S 33 < R) (z : S (qPl R S c) = 0) : qBt R (qGp R S c) = qBt R S := by
  have g := qGp_at (R := R) (S := S) hc
  have e : c = 0 ∨ c = 1 := by omega
  rcases e with e | e <;> subst e
  · have e1 : qGp R S 0 32 = S 32 + 1 := g.2.1
    have e2 : qGp R S 0 33 = S 33 := g.1 33 (by omega) (by omega)
    rw [qBt, qBt, e1, e2]
    have e3 : R - S 33 - S 32 = (R - S 33 - (S 32 + 1)) + 1 := by omega
    rw [e3, qF3_head (show S (S 32) = 0 from z)]
    exact qF3_cong _ (fun j h1 h2 => g.1 j (by omega) (by omega))
  · have e1 : qGp R S 1 33 = S 33 + 1 := g.2.1
    have e2 : qGp R S 1 32 = S 32 := g.1 32 (by omega) (by omega)
    rw [qBt, qBt, e1, e2]
    have e3 : R - S 33 - S 32 = (R - (S 33 + 1) - S 32) + 1 := by omega
    have z2 : S (S 32 + (R - (S 33 + 1) - S 32)) = 0 := by
      have : qPl R S 1 = S 32 + (R - (S 33 + 1) - S 32) := by
        rw [qPl, if_neg (by omega)]; omega
      rw [← this]; exact z
    rw [e3, qF3, if_pos z2]
    exact qF3_cong _ (fun j h1 h2 => g.1 j (by omega) (by omega))
/-- behind the gaps: nothing but 32, 33, 34 has changed; as many are left; none is gone right before it -/
theorem qSk_at {R : Nat} (hR : R ≤ 12) {c : Nat} (hc : c < 2) : ∀ k S, R ≤ S 32 + S 33 + k → (∀ j, j < 32 ∨ 34 < j → qSk R c k S j = S j) ∧ qBt R (qSk R c k S) = qBt R S ∧ (qSk R c k S 32 + qSk R c k S 33 < R → qSk R c k S (qPl R (qSk R c k S) c) ≠ 0) := by
  intro k
  induction k with
  | zero =>
    intro S h
    exact ⟨fun j _ => rfl, rfl, fun n => absurd n (by show ¬ S 32 + S 33 < R; omega)⟩
  | succ k ih =>
    intro S h
    rw [qSk]
    by_cases q : S 32 + S 33 < R ∧ S (qPl R S c) = 0
    · rw [if_pos q]
      obtain ⟨i1, i2, i3⟩ := ih (qGp R S c) (by rw [qGp_sum hc]; omega)
      refine ⟨fun j hj => ?_, ?_, i3⟩
      · rw [i1 j hj]
        exact (qGp_at hc).1 j (by omega) (by omega)
      · rw [i2, qGp_bt hR hc q.1 q.2]
    · rw [if_neg q]
      exact ⟨fun j _ => rfl, rfl, fun n z => q ⟨n, z⟩⟩
/-- WEAVES may be asked ahead of the gaps -/
theorem qPace_sk {P : zPl} (hP : pOk P) {c : Nat} (hc : c < 2) {S : Nat → Nat} (n : qSk (pR P) c (pR P) S 32 + qSk (pR P) c (pR P) S 33 < pR P) : qPace P S c = qWa P (qSk (pR P) c (pR P) S) c (qPl (pR P) (qSk (pR P) c (pR P) S) c) (qBt (pR P) (qSk (pR P) c (pR P) S)).1 := by
  have hR := hP.1
  obtain ⟨i1, i2, i3⟩ := qSk_at hR hc (pR P) S (by omega)
  have i4 := i3 n
  generalize qSk (pR P) c (pR P) S = T at i1 i2 i4 n ⊢
  have e3 : pR P - T 33 - T 32 = (pR P - T 33 - T 32 - 1) + 1 := by omega
  have wa : ∀ r l, r < 12 → qWa P S c r l = qWa P T c r l := by
    intro r l hr
    unfold qWa
    have e30 : T (30 + c) = S (30 + c) := i1 _ (by omega)
    rw [e30]
    split
    · rfl
    · have e : qVw S c r l = qVw T c r l := by
        funext k
        unfold qVw
        rw [i1 r (by omega), i1 35 (by omega), e30]
      rw [e]
  have hl := qPl_lt c n
  rw [qPace, ← i2]
  have e : c = 0 ∨ c = 1 := by omega
  rcases e with e | e <;> subst e
  · have z : T (T 32) ≠ 0 := i4
    obtain ⟨f1, f2⟩ := qF3_first z (pR P - T 33 - T 32 - 1)
    rw [← e3] at f1 f2
    rw [if_neg (show ¬ (qBt (pR P) T).1 = 0 from f1), if_pos rfl, show (qBt (pR P) T).2.1 = T 32 from f2]
    exact wa _ _ (by omega)
  · have z : T (T 32 + (pR P - T 33 - T 32 - 1)) ≠ 0 := by
      have : qPl (pR P) T 1 = T 32 + (pR P - T 33 - T 32 - 1) := by
        rw [qPl, if_neg (by omega)]; omega
      rw [← this]; exact i4
    have f1 : (qBt (pR P) T).1 ≠ 0 := by
      rw [qBt, e3, qF3, if_neg z]
      show _ + 1 ≠ 0
      omega
    have f2 : (qBt (pR P) T).2.2 = qPl (pR P) T 1 := by
      have e5 : qPl (pR P) T 1 = pR P - 1 - T 33 := rfl
      rw [e5, qBt, e3, qF3, if_neg z]
      show T 32 + (pR P - T 33 - T 32 - 1) = _
      omega
    rw [if_neg f1, if_neg (by omega), f2]
    exact wa _ _ (by omega)
theorem qLp_no {R c : Nat} {S : Nat → Nat} (n : ¬ S 32 + S 33 < R) (k t : Nat) : qLp R c k t S = S := by
  cases k with
  | zero => rfl
  | succ k => rw [qLp, if_neg (fun q => n q.2)]
section WM
variable {h : zH} {S : Nat → Nat} {P : zPl} {c : Nat}
theorem k_anyM (hP : pOk P) (w : zPM h P) (s : zSM h (pR P) S) (ho : sOk (pR P) S) : s_X11_isAny h = some (nI (if S 32 + S 33 < pR P then 1 else 0)) := by
  have hR := hP.1
  obtain ⟨o0, o1, o2, o3, o4, o5⟩ := ho
  rw [s_X11_isAny, w.1, s.2.2.2.1, s.2.2.2.2.1, nI_add]
  rcases Nat.lt_or_ge (S 32 + S 33) (pR P) with q | q
  · rw [if_neg (nI_ge q (by omega)), if_pos q]; rfl
  · rw [if_pos (nI_le q (by omega)), if_neg (by omega)]; rfl
theorem k_before (hP : pOk P) (w : zPM h P) (s : zSM h (pR P) S) (hc : c < 2) (n : S 32 + S 33 < pR P) : s_X11_beforeClan (nI c) h = some (nI (qPl (pR P) S c)) := by
  have hR := hP.1
  rw [s_X11_beforeClan, w.1, s.2.2.2.1, s.2.2.2.2.1, qPl]
  have e : c = 0 ∨ c = 1 := by omega
  rcases e with e | e <;> subst e
  · rfl
  · rw [if_pos (by decide), if_neg (by decide), show nI (pR P) - 1 = nI (pR P - 1) from zq_sub (b := 1) (by omega), zq_sub (by omega)]
theorem k_goBy (hP : pOk P) (w : zPM h P) (s : zSM h (pR P) S) (ho : sOk (pR P) S) (hc : c < 2) (n : S 32 + S 33 < pR P) : ∃ h', s_X11_goBy (nI c) h = some (nI (if S (qPl (pR P) S c) = 0 then 0 else 1), h') ∧ zSM h' (pR P) (qGp (pR P) S c) ∧ zfr (fun b k => b = 52 ∧ 30 ≤ k ∧ k ≤ 32) h h' := by
  have hR := hP.1
  have hl := qPl_lt c n
  have b := ho.1 _ hl
  have b5 := ho.2.2.2.2.2
  have key : ∀ m : Nat, m = (if S (qPl (pR P) S c) = 0 then 2 ^ qPl (pR P) S c else 0) → ∃ h', s_X11_goBy_J16 (nI c) (nI (qPl (pR P) S c)) (nI (S 34)) (nI m) h = some (nI (if S (qPl (pR P) S c) = 0 then 0 else 1), h') ∧ zSM h' (pR P) (qGp (pR P) S c) ∧ zfr (fun b k => b = 52 ∧ 30 ≤ k ∧ k ≤ 32) h h' := by
    intro m hm
    rw [s_X11_goBy_J16, fa_or]
    dsimp only [zlt]
    have f1 : zfr (fun b k => b = 52 ∧ 30 ≤ k ∧ k ≤ 32) h (zwI h 52 32 (nI (S 34 ||| m))) := zfr.wI 52 32 _ ⟨rfl, by omega, by omega⟩
    have s1 := zSM_gap hR b5 s (S 34 ||| m)
    have fin : ∀ d : Nat, d + c = 1 → ∃ h', s_X11_goBy_J26 (nI c) (nI (qPl (pR P) S c)) (zI (zwI h 52 32 (nI (S 34 ||| m))) 52 30) (nI d) (zwI h 52 32 (nI (S 34 ||| m))) = some (nI (if S (qPl (pR P) S c) = 0 then 0 else 1), h') ∧ zSM h' (pR P) (qGp (pR P) S c) ∧ zfr (fun b k => b = 52 ∧ 30 ≤ k ∧ k ≤ 32) h h' := by
      intro d hd
      generalize e1 : zwI h 52 32 (nI (S 34 ||| m)) = h1 at f1 s1 ⊢
      generalize e0 : zu S 34 (S 34 ||| m) = T at s1
      have t37 : T 37 ≤ 9 := by rw [← e0, zu_ne _ _ (by omega)]; exact b5
      rw [s_X11_goBy_J26, s1.2.2.2.1, nI_add]
      dsimp only [zlt]
      have s2 := zSM_pa0 hR t37 s1 (T 32 + d)
      rw [s2.2.2.2.2.1, zu_ne _ _ (show 33 ≠ 32 by omega), nI_add]
      have s3 := zSM_pa1 hR (by rw [zu_ne _ _ (by omega)]; exact t37) s2 (T 33 + c)
      have f3 := (f1.w 52 30 (nI (T 32 + d)) ⟨rfl, by omega, by omega⟩).w 52 31 (nI (T 33 + c)) ⟨rfl, by omega, by omega⟩
      have e2 : zu (zu T 32 (T 32 + d)) 33 (T 33 + c) = qGp (pR P) S c := by
        rw [qGp, ← hm, e0]
        have e : c = 0 ∨ c = 1 := by omega
        rcases e with e | e <;> subst e
        · have : d = 1 := by omega
          subst this
          rw [zu_same _ (show T 33 + 0 = zu T 32 (T 32 + 1) 33 by rw [zu_ne _ _ (by omega)]; rfl)]
          rw [← e0, zu_ne S _ (show 32 ≠ 34 by omega)]
        · have : d = 0 := by omega
          subst this
          rw [zu_same T (show T 32 + 0 = T 32 from rfl)]
          rw [← e0, zu_ne S _ (show 33 ≠ 34 by omega)]
      rw [e2] at s3
      have hg : s_X11_isGone (nI (qPl (pR P) S c)) (zwI (zwI h1 52 30 (nI (T 32 + d))) 52 31 (nI (T 33 + c))) = some (nI (if S (qPl (pR P) S c) = 0 then 1 else 0)) := by
        have := k_goneAt hR s3 (qGp_ok hR hc ho n) hl
        rw [(qGp_at hc).1 _ (by omega) (by omega)] at this
        exact this
      rw [hg]
      simp only [Option.bind]
      by_cases q : S (qPl (pR P) S c) = 0
      · rw [if_pos q, if_pos (by decide), if_pos q]
        exact ⟨_, rfl, s3, f3⟩
      · rw [if_neg q, if_neg (fun n => n rfl), if_neg q]
        exact ⟨_, rfl, s3, f3⟩
    have e : c = 0 ∨ c = 1 := by omega
    rcases e with e | e <;> subst e
    · rw [if_neg (fun n => n rfl)]
      exact fin 1 rfl
    · rw [if_pos (by decide)]
      exact fin 0 rfl
  rw [s_X11_goBy, k_before hP w s hc n]
  simp only [Option.bind]
  rw [k_goneAt hR s ho hl, s.2.2.2.2.2.1]
  simp only [Option.bind]
  by_cases q : S (qPl (pR P) S c) = 0
  · have e : (1 : Int32) <<< (nI (qPl (pR P) S c) &&& 31) = nI (2 ^ qPl (pR P) S c) := zq_shl (by omega)
    have := key (2 ^ qPl (pR P) S c) (by rw [if_pos q])
    rw [if_pos q, if_neg (by decide), e]
    exact this
  · have := key 0 (by rw [if_neg q])
    rw [if_neg q, if_pos (by decide)]
    exact this
theorem k_left_L (hP : pOk P) (w : zPM h P) (s : zSM h (pR P) S) (ho : sOk (pR P) S) : ∀ j k n, k + j = pR P - S 33 - S 32 → j < n → s_X11_leftNow_L5 n (nI (qF3 S (S 32) k).1) (nI (S 32 + k)) h = some (nI (qBt (pR P) S).1) := by
  have hR := hP.1
  obtain ⟨o0, o1, o2, o3, o4, o5⟩ := id ho
  intro j
  induction j with
  | zero =>
    intro k n e hn
    obtain ⟨m, rfl, -⟩ := zq_suc hn
    have e1 : k = pR P - S 33 - S 32 := by omega
    rw [s_X11_leftNow_L5, w.1, s.2.2.2.2.1, zq_sub (by omega), if_pos (nI_le (by omega) (by omega)), qBt, ← e1]
  | succ j ih =>
    intro k n e hn
    obtain ⟨m, rfl, hm⟩ := zq_suc hn
    have hF := qF3_in S (S 32) k
    have ih1 := ih (k + 1) m (by omega) (by omega)
    rw [s_X11_leftNow_L5, w.1, s.2.2.2.2.1, zq_sub (by omega), if_neg (nI_ge (by omega) (by omega)), k_goneAt hR s ho (by omega)]
    simp only [Option.bind]
    rw [qF3] at ih1
    rw [show nI (S 32 + k) + 1 = nI (S 32 + (k + 1)) from nI_1 _]
    by_cases q : S (S 32 + k) = 0
    · rw [if_pos q] at ih1
      rw [if_pos q, if_neg (by decide), show nI (qF3 S (S 32) k).1 + 0 = nI (qF3 S (S 32) k).1 from nI_add _ 0]
      exact ih1
    · rw [if_neg q] at ih1
      rw [if_neg q, if_pos (by decide), show nI (qF3 S (S 32) k).1 + 1 = nI ((qF3 S (S 32) k).1 + 1) from nI_1 _]
      exact ih1
theorem k_left (hP : pOk P) (w : zPM h P) (s : zSM h (pR P) S) (ho : sOk (pR P) S) : s_X11_leftNow h = some (nI (qBt (pR P) S).1) := by
  have hR := hP.1
  rw [s_X11_leftNow, s.2.2.2.1]
  exact k_left_L hP w s ho (pR P - S 33 - S 32) 0 zfu (by omega) (zq_fu (by omega))
theorem k_skM {h : zH} {R : Nat} {S : Nat → Nat} (s : zSM h R S) (hc : c < 2) : zI h 65 c = nI (S (30 + c)) := by
  have e : c = 0 ∨ c = 1 := by omega
  rcases e with e | e <;> subst e
  · exact s.2.1
  · exact s.2.2.1
theorem k_wa (hP : pOk P) (w : zPM h P) (s : zSM h (pR P) S) (ho : sOk (pR P) S) (hc : c < 2) {r : Nat} (hr : r < pR P) : ∃ h', s_X11_weavesAt (nI c) (nI r) h = some (nI (qWa P S c r (qBt (pR P) S).1), h') ∧ zfr (fun b _ => b = 69 ∨ b = 70) h h' := by
  have hR := hP.1
  obtain ⟨w1, w2, w3, w4, w5, w6, w7, w8⟩ := id w
  have b := sOk_sk ho hc
  have hl : (pD P).length < 2 ^ 31 := by
    rcases hP.2.2.2.2.2 with q | q
    · rw [q]; decide
    · omega
  rw [s_X11_weavesAt, zq_ix (by omega) (by omega), k_skM s hc]
  have ed : zdv (nI (S (30 + c))) 4 = some (nI (S (30 + c) / 4)) := by
    unfold zdv
    show some (nI (S (30 + c)) / nI 4) = _
    rw [pk_div (by omega) (by omega) (by omega)]
  rw [ed]
  simp only [Option.bind]
  rw [w7]
  by_cases q : pD P = []
  · rw [if_pos (show nI (pD P).length ≤ 0 by rw [q]; decide), qWa, if_pos q, s_X11_weavesAt_J56, show (1 : Int32) + nI (S (30 + c) / 4) = nI (1 + S (30 + c) / 4) from nI_add 1 _]
    refine ⟨h, ?_, zfr.rf _ h⟩
    have := k_cl2 (m := 5) (by omega) (nI (1 + S (30 + c) / 4)) h (fun v => some (v, h))
    rw [qCl_nI (by omega) (by omega)] at this
    exact this
  · have q1 : 0 < (pD P).length := List.length_pos_iff.mpr q
    rw [if_neg (show ¬ nI (pD P).length ≤ 0 from nI_nle q1 hl), qWa, if_neg q, zq_ix (by omega) (by omega)]
    dsimp only [zlt]
    rw [zq_ix (by omega) (by omega)]
    generalize e3 : zwI (zwI (zwI h 69 0 (zI h 65 c)) 69 1 (zI (zwI h 69 0 (zI h 65 c)) 64 r)) 69 2 (nI r) = h3
    have f3 : zfr (fun b _ => b = 69 ∨ b = 70) h h3 := by
      rw [← e3]
      exact ((zfr.wI 69 0 _ (Or.inl rfl)).w 69 1 _ (Or.inl rfl)).w 69 2 _ (Or.inl rfl)
    have s3 : zSM h3 (pR P) S := s.fr f3 (fun b k e => by omega)
    have p3 : zPM h3 P := w.fr f3 (fun b k e => by omega)
    have v0 : zI h3 69 0 = nI (S (30 + c)) := by rw [← e3]; exact k_skM s hc
    have v1 : zI h3 69 1 = nI (S r) := by rw [← e3]; exact s.1 r hr
    have v2 : zI h3 69 2 = nI r := by rw [← e3]; rfl
    rw [k_left hP p3 s3 ho]
    simp only [Option.bind]
    generalize e5 : zwI (zwI h3 69 3 (nI (qBt (pR P) S).1)) 69 4 (zI (zwI h3 69 3 (nI (qBt (pR P) S).1)) 52 29) = h5
    have f5 : zfr (fun b _ => b = 69 ∨ b = 70) h h5 := by
      rw [← e5]
      exact (f3.w 69 3 _ (Or.inl rfl)).w 69 4 _ (Or.inl rfl)
    have p5 : zPM h5 P := w.fr f5 (fun b k e => by omega)
    have u0 : zI h5 69 0 = nI (S (30 + c)) := by rw [← e5]; exact v0
    have u1 : zI h5 69 1 = nI (S r) := by rw [← e5]; exact v1
    have u2 : zI h5 69 2 = nI r := by rw [← e5]; exact v2
    have u3 : zI h5 69 3 = nI (qBt (pR P) S).1 := by rw [← e5]; rfl
    have u4 : zI h5 69 4 = nI (S 35) := by rw [← e5]; exact s3.2.2.2.2.2.2.1
    obtain ⟨h6, e6, f6⟩ := k_evalM (h := h5) (b := 61) (g := qPw) (C := pD P) (vals := qVw S c r (qBt (pR P) S).1) (by decide) qPw_lt q hP.2.2.2.2.2 p5.2.2.2.2.2.2.2 (fun v hv => by
      have e8 : v = 0 ∨ v = 1 ∨ v = 2 ∨ v = 3 ∨ v = 4 := by omega
      rcases e8 with e8 | e8 | e8 | e8 | e8 <;> subst e8
      · exact u1
      · exact u2
      · exact u4
      · exact u0
      · exact u3)
    rw [p5.2.2.2.2.2.2.1, e6]
    simp only [zbd]
    rw [s_X11_weavesAt_J56]
    exact ⟨h6, k_cl2 (m := 5) (by omega) _ h6 (fun v => some (v, h6)), f5.tr (f6.mo (fun b k e => Or.inr e))⟩
/-- what weaving changes in the reference -/
def zAw : Nat → Nat → Prop := fun b k => b = 69 ∨ b = 70 ∨ (b = 52 ∧ 30 ≤ k ∧ k ≤ 32)
theorem k_lpM (hP : pOk P) (hc : c < 2) : ∀ k t n h S, k < n → t ≤ 5 → zPM h P → zSM h (pR P) S → sOk (pR P) S → pR P ≤ S 32 + S 33 + k → ∃ h', s_X11_weave_L25 n (nI c) (nI t) h = some h' ∧ zSM h' (pR P) (qLp (pR P) c k t S) ∧ zfr zAw h h' := by
  have hR := hP.1
  intro k
  induction k with
  | zero =>
    intro t n h S hn ht w s ho hk
    obtain ⟨m, rfl, -⟩ := zq_suc hn
    refine ⟨h, ?_, s, zfr.rf _ h⟩
    rw [s_X11_weave_L25, k_anyM hP w s ho, if_neg (show ¬ S 32 + S 33 < pR P by omega)]
    split
    · rfl
    · rfl
  | succ k ih =>
    intro t n h S hn ht w s ho hk
    obtain ⟨m, rfl, hm⟩ := zq_suc hn
    rw [s_X11_weave_L25, qLp]
    rcases Nat.eq_zero_or_pos t with q | q
    · subst q
      rw [if_pos (by decide), if_neg (fun n => absurd n.1 (Nat.lt_irrefl 0))]
      exact ⟨h, rfl, s, zfr.rf _ h⟩
    · rw [if_neg (nI_nle q (by omega)), k_anyM hP w s ho]
      simp only [Option.bind]
      by_cases q2 : S 32 + S 33 < pR P
      · rw [if_pos q2, if_neg (by decide), if_pos ⟨q, q2⟩]
        obtain ⟨h1, e1, s1, f1⟩ := k_goBy hP w s ho hc q2
        have w1 : zPM h1 P := w.fr f1 (fun b k e => by omega)
        have o1 := qGp_ok hR hc ho q2
        rw [e1]
        simp only [zbd]
        by_cases q3 : S (qPl (pR P) S c) = 0
        · rw [if_pos q3, if_pos (by decide), show nI t - 0 = nI (t - 0) from zq_sub (b := 0) (by omega)]
          obtain ⟨h2, e2, s2, f2⟩ := ih (t - 0) m h1 _ (by omega) (by omega) w1 s1 o1 (by rw [qGp_sum hc]; omega)
          exact ⟨h2, e2, s2, (f1.mo (fun b k e => by unfold zAw; omega)).tr f2⟩
        · rw [if_neg q3, if_neg (by decide), show nI t - 1 = nI (t - 1) from zq_sub (b := 1) (by omega)]
          obtain ⟨h2, e2, s2, f2⟩ := ih (t - 1) m h1 _ (by omega) (by omega) w1 s1 o1 (by rw [qGp_sum hc]; omega)
          exact ⟨h2, e2, s2, (f1.mo (fun b k e => by unfold zAw; omega)).tr f2⟩
      · rw [if_neg q2, if_pos (by decide), if_neg (fun n => q2 n.2)]
        exact ⟨h, rfl, s, zfr.rf _ h⟩
theorem k_skipM (hP : pOk P) (hc : c < 2) : ∀ k n h S, k < n → zPM h P → zSM h (pR P) S → sOk (pR P) S → pR P ≤ S 32 + S 33 + k → ∃ h', s_X11_weave_L0 n (nI c) h = s_X11_weave_J14 (nI c) h' ∧ zSM h' (pR P) (qSk (pR P) c k S) ∧ zfr zAw h h' := by
  have hR := hP.1
  intro k
  induction k with
  | zero =>
    intro n h S hn w s ho hk
    obtain ⟨m, rfl, -⟩ := zq_suc hn
    refine ⟨h, ?_, s, zfr.rf _ h⟩
    rw [s_X11_weave_L0, k_anyM hP w s ho, if_neg (show ¬ S 32 + S 33 < pR P by omega)]
    rfl
  | succ k ih =>
    intro n h S hn w s ho hk
    obtain ⟨m, rfl, hm⟩ := zq_suc hn
    rw [s_X11_weave_L0, qSk, k_anyM hP w s ho]
    simp only [Option.bind]
    by_cases q2 : S 32 + S 33 < pR P
    · rw [if_pos q2, if_neg (by decide), k_before hP w s hc q2]
      simp only [Option.bind]
      rw [k_goneAt hR s ho (qPl_lt c q2)]
      simp only [Option.bind]
      by_cases q3 : S (qPl (pR P) S c) = 0
      · rw [if_pos q3, if_neg (by decide), if_pos ⟨q2, q3⟩]
        obtain ⟨h1, e1, s1, f1⟩ := k_goBy hP w s ho hc q2
        have w1 : zPM h1 P := w.fr f1 (fun b k e => by omega)
        have o1 := qGp_ok hR hc ho q2
        rw [e1]
        simp only [zbd]
        obtain ⟨h2, e2, s2, f2⟩ := ih m h1 _ (by omega) w1 s1 o1 (by rw [qGp_sum hc]; omega)
        exact ⟨h2, e2, s2, (f1.mo (fun b k e => by unfold zAw; omega)).tr f2⟩
      · rw [if_neg q3, if_pos (by decide), if_neg (fun n => q3 n.2)]
        exact ⟨h, rfl, s, zfr.rf _ h⟩
    · rw [if_neg q2, if_pos (by decide), if_neg (fun n => q2 n.1)]
      exact ⟨h, rfl, s, zfr.rf _ h⟩
theorem k_weaveM (hP : pOk P) (hc : c < 2) (w : zPM h P) (s : zSM h (pR P) S) (ho : sOk (pR P) S) : ∃ h', s_X11_weave (nI c) h = some h' ∧ zSM h' (pR P) (qWv P S c) ∧ zfr zAw h h' := by
  have hR := hP.1
  obtain ⟨h1, e1, s1, f1⟩ := k_skipM hP hc (pR P) zfu h S (zq_fu (by omega)) w s ho (by omega)
  have w1 : zPM h1 P := w.fr f1 (fun b k e => by unfold zAw; omega)
  have o1 := qSk_ok hR hc (pR P) S ho
  rw [s_X11_weave, e1, s_X11_weave_J14, k_anyM hP w1 s1 o1, qWv]
  simp only [Option.bind]
  by_cases q : qSk (pR P) c (pR P) S 32 + qSk (pR P) c (pR P) S 33 < pR P
  · rw [if_pos q, if_pos (by decide), k_before hP w1 s1 hc q]
    simp only [Option.bind]
    obtain ⟨h2, e2, f2⟩ := k_wa hP w1 s1 o1 hc (qPl_lt c q)
    rw [e2, qPace_sk hP hc q]
    simp only [zbd]
    have w2 : zPM h2 P := w1.fr f2 (fun b k e => by omega)
    have s2 := s1.fr f2 (fun b k e => by omega)
    obtain ⟨h3, e3, s3, f3⟩ := k_lpM hP hc (pR P) _ zfu h2 _ (zq_fu (by omega)) (qWa_le P _ _ (sOk_sk o1 hc)) w2 s2 o1 (by omega)
    exact ⟨h3, e3, s3, (f1.tr (f2.mo (fun b k e => by unfold zAw; omega))).tr f3⟩
  · rw [if_neg q, if_neg (fun n => n rfl), qLp_no q]
    exact ⟨h1, rfl, s1, f1⟩
end WM
