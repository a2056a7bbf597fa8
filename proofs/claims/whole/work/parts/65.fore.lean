/-! ===== the forecast ===== -/
theorem fa_first_s (p : Nat → Bool) (n : Nat) : fa_first p (n + 1) = if fa_first p n < n then fa_first p n else if p n then n else n + 1 := rfl
theorem qNs_s (P : zPl) (S : Nat → Nat) (d : Nat) : qNs P S (d + 1) = qNs P S d + (if qDone P (qIt P S d) then 1 else 0) := fb_ct_succ _ d
theorem qNs_le (P : zPl) (S : Nat → Nat) (d : Nat) : qNs P S d ≤ d := fb_ct_le _ d
theorem qNs_mo (P : zPl) (S : Nat → Nat) {d e : Nat} (h : d ≤ e) : qNs P S d ≤ qNs P S e := fb_ct_mono _ h
theorem qGa_s (P : zPl) (S : Nat → Nat) (r n : Nat) (hn : n < 1000) : qGa P S r (n + 1) = if qGa P S r n = nM ∧ qIt P S n r = 0 then nI n else qGa P S r n := by
  have hle := fa_first_le (fun t => decide (qIt P S t r = 0)) n
  unfold qGa
  rw [fa_first_s]
  by_cases q : fa_first (fun t => decide (qIt P S t r = 0)) n < n
  · have e1 : ¬ nI (fa_first (fun t => decide (qIt P S t r = 0)) n) = nM := fun e => by
      have : (nI (fa_first (fun t => decide (qIt P S t r = 0)) n) = nM) = False := zq_eM (by omega)
      rw [← this]; exact e
    rw [if_pos q, if_pos (by omega), if_pos q, if_neg (fun n => e1 n.1)]
  · rw [if_neg q, if_neg q]
    by_cases q2 : qIt P S n r = 0
    · rw [if_pos (show decide (qIt P S n r = 0) = true from decide_eq_true q2), if_pos (by omega), if_pos ⟨rfl, q2⟩]
    · rw [if_neg (show ¬ decide (qIt P S n r = 0) = true by simp [q2]), if_neg (by omega), if_neg (fun n => q2 n.2)]
theorem qDg_lt {P : zPl} (hP : pOk P) {S : Nat → Nat} (h : sOk (pR P) S) : qDg P S < 4096 := Nat.lt_of_lt_of_le (qW2_ok hP (qRx_ok hP _ _ _ (by omega) h)).2.2.2.2.1 (q_p12 hP.1)
section FO
variable {c pp : Nat} {h h1 : zH} {P : zPl} {L : zLg} {S : Nat → Nat}
/-- cells of what was worked out -/
def zAc : Nat → Nat → Prop := fun b k => zScr b k ∨ (39 ≤ b ∧ b ≤ 43) ∨ b = 47
theorem zRel.ca (f : zSm zAc h h1) (q : zCa h1 P L) (w : zRel c h pp P L) : zRel c h1 pp P L := by
  obtain ⟨w0, w1, w2, w3, w4, w5, w6, w7, ⟨b, w8⟩, ⟨t, w9⟩, w10, w11⟩ := w
  have hR := w1.1
  refine ⟨w0, w1, w2, w3.sm f ?_, w4.sm f ?_, w5.sm f ?_ hR w2, w6.sm f ?_ hR w2, q, ⟨b, w8.sm f ?_ hR⟩, ⟨t, w9.sm f ?_⟩, ?_, w11.sm f ?_⟩
  · intro b k e1 e2; unfold zAc zScr; omega
  · intro b k e; unfold zAc zScr; omega
  · intro b k e1 e2; unfold zAc zScr; omega
  · intro b k e; unfold zAc zScr; omega
  · intro b k e; unfold zAc zScr; omega
  · intro b k e; unfold zAc zScr; omega
  · rw [f _ _ (by unfold zAc zScr; omega), f _ _ (by unfold zAc zScr; omega)]; exact w10
  · intro b k e; unfold zAc zScr; omega
theorem zCall.of2 {F : Option (Int32 × zH)} {A : Nat → Nat → Prop} {v : Int32} {G : zH → Option (Int32 × zH)} (w : zRel c h1 pp P L) (f : zfr A h h1) (qA : ¬ A 0 8) (eF : F = some (nI 0, zwL h1 90 0 v.toInt64)) (g : zAsk c pp P L G 0 v) : zCall c h pp P F G := by
  have w1 : zRel c (zwL h1 90 0 v.toInt64) pp P L := w.co rfl
  obtain ⟨h2, e2, k2, f2⟩ := g _ w1
  refine ⟨nI 0, _, v, h2, L, eF, e2, k2, fun _ => ?_, (w1.fr f2).up, ?_⟩
  · rw [f2.2.2.1]; rfl
  · obtain ⟨a1, a2, a3, a4, a5, a6, a7⟩ := f
    obtain ⟨b1, b2, b3, b4, b5, b6, b7⟩ := f2
    refine ⟨b1.trans a1, b4.trans a4, ?_, ?_, ?_⟩
    · rw [b5]; show zc h1 ≤ _; rw [a5]; omega
    · rw [b6]; show zs h1 ≤ _; rw [a6]; omega
    · rw [b7 0 8 (by unfold zScr; omega)]; exact a7 0 8 qA
theorem zCal2.of2 {F : Option (Int32 × zH)} {A : Nat → Nat → Prop} {v : Int32} {G : zH → Option (Int32 × zH)} (w : zRel c h1 pp P L) (f : zfr A h h1) (qA : ¬ A 0 8) (eF : F = some (v, h1)) (g : zAsk c pp P L G 0 v) : zCal2 c h pp P F G := by
  obtain ⟨h2, e2, k2, f2⟩ := g _ w
  refine ⟨v, _, h2, L, eF, e2, (w.fr f2).up, ?_⟩
  obtain ⟨a1, a2, a3, a4, a5, a6, a7⟩ := f
  obtain ⟨b1, b2, b3, b4, b5, b6, b7⟩ := f2
  refine ⟨b1.trans a1, b4.trans a4, ?_, ?_, ?_⟩
  · rw [b5, a5]; omega
  · rw [b6, a6]; omega
  · rw [b7 0 8 (by unfold zScr; omega)]; exact a7 0 8 qA
theorem k_beg_L : ∀ k r n h, r + k = 12 → k < n → ∃ h', s_X1_begin_L5 n (nI r) h = some h' ∧ (∀ i, r ≤ i → i < 12 → zI h' 43 i = nM) ∧ zfr (fun b j => b = 43 ∧ r ≤ j) h h' := by
  intro k
  induction k with
  | zero =>
    intro r n h e hn
    obtain ⟨m, rfl, -⟩ := zq_suc hn
    refine ⟨h, ?_, fun i i1 i2 => by omega, zfr.rf _ h⟩
    rw [s_X1_begin_L5, if_pos (show (12 : Int32) ≤ nI r from nI_le (a := 12) (by omega) (by omega))]
  | succ k ih =>
    intro r n h e hn
    obtain ⟨m, rfl, hm⟩ := zq_suc hn
    rw [s_X1_begin_L5, if_neg (show ¬ (12 : Int32) ≤ nI r from nI_ge (b := 12) (by omega) (by omega)), zq_ix (by omega) (by omega), zlt_e, show nI r + 1 = nI (r + 1) from nI_1 r]
    obtain ⟨h', e1, v1, f1⟩ := ih (r + 1) m (zwI h 43 r (-1)) (by omega) (by omega)
    refine ⟨h', e1, fun i i1 i2 => ?_, (zfr.wI 43 r _ (by omega)).tr (f1.mo (fun b j e => by omega))⟩
    rcases Nat.eq_or_lt_of_le i1 with q | q
    · subst q
      rw [f1.i (by omega), zI_wI, if_pos rfl, if_pos rfl]
      rfl
    · exact v1 i (by omega) i2
theorem k_note_L (hP : pOk P) {t : Nat} (ht : t ≤ 60) (ho : sOk (pR P) (qIt P S t)) : ∀ k r n h, r + k = pR P → k < n → zSC h 30 (pR P) (qIt P S t) → (∀ i, i < r → zI h 43 i = qGa P S i (t + 1)) → (∀ i, r ≤ i → i < pR P → zI h 43 i = qGa P S i t) → ∃ h', s_X1_noteGone_L2 30 n (nI t) (nI (pR P)) (nI r) h = some h' ∧ (∀ i, i < pR P → zI h' 43 i = qGa P S i (t + 1)) ∧ zfr (fun b _ => b = 43) h h' := by
  have hR := hP.1
  intro k
  induction k with
  | zero =>
    intro r n h e hn s a b
    obtain ⟨m, rfl, -⟩ := zq_suc hn
    refine ⟨h, ?_, fun i hi => a i (by omega), zfr.rf _ h⟩
    rw [s_X1_noteGone_L2, if_pos (nI_le (by omega) (by omega))]
  | succ k ih =>
    intro r n h e hn s a b
    obtain ⟨m, rfl, hm⟩ := zq_suc hn
    have hb := ho.1 r (by omega)
    have eg := qGa_s P S r t (by omega)
    rw [s_X1_noteGone_L2, if_neg (nI_ge (by omega) (by omega)), zq_ix (by omega) (by omega), b r (by omega) (by omega), show nI r + 1 = nI (r + 1) from nI_1 r]
    by_cases q : qGa P S r t = nM
    · rw [if_neg (fun n => n q), zq_ix (by omega) (by omega), show zI h 31 r = nI (qIt P S t r) from s.1 r (by omega)]
      by_cases q2 : qIt P S t r = 0
      · rw [if_pos ⟨q, q2⟩] at eg
        rw [if_neg (fun n => n (show nI (qIt P S t r) = 0 by rw [q2]; rfl)), zq_ix (by omega) (by omega), zlt_e]
        have f0 : zfr (fun b _ => b = 43) h (zwI h 43 r (nI t)) := zfr.wI 43 r _ rfl
        obtain ⟨h', e1, v1, f1⟩ := ih (r + 1) m (zwI h 43 r (nI t)) (by omega) (by omega) (s.fr f0 (fun b k _ _ => by omega)) (fun i hi => by
          rw [zI_wI, if_pos rfl]
          by_cases q3 : i = r
          · subst q3; rw [if_pos rfl, eg]
          · rw [if_neg q3]; exact a i (by omega)) (fun i i1 i2 => by
          rw [zI_wI, if_pos rfl, if_neg (by omega)]; exact b i (by omega) i2)
        exact ⟨h', e1, v1, f0.tr f1⟩
      · rw [if_neg (fun n => q2 n.2)] at eg
        rw [if_pos (show ¬ nI (qIt P S t r) = 0 from nI_ne0 (by omega) (by omega))]
        exact ih (r + 1) m h (by omega) (by omega) s (fun i hi => by
          rcases Nat.lt_or_ge i r with q3 | q3
          · exact a i q3
          · have e3 : i = r := by omega
            subst e3; rw [eg]; exact b i (by omega) (by omega)) (fun i i1 i2 => b i (by omega) i2)
    · rw [if_neg (fun n => q n.1)] at eg
      rw [if_pos (show ¬ qGa P S r t = (-1 : Int32) from q)]
      exact ih (r + 1) m h (by omega) (by omega) s (fun i hi => by
        rcases Nat.lt_or_ge i r with q3 | q3
        · exact a i q3
        · have e3 : i = r := by omega
          subst e3; rw [eg]; exact b i (by omega) (by omega)) (fun i i1 i2 => b i (by omega) i2)
/-- one more sail in three rows -/
theorem qSr_s {b0 b1 b2 t : Nat} (a : qSr h b0 b1 b2 P S t) (hf : ∀ b, b = b0 ∨ b = b1 ∨ b = b2 → ∀ k, k < qNs P S t → zI h1 b k = zI h b k) (hn : qDone P (qIt P S t) = true → zI h1 b0 (qNs P S t) = nI (t + 1) ∧ zI h1 b1 (qNs P S t) = nI (qDg P (qIt P S t)) ∧ zI h1 b2 (qNs P S t) = nI (qDw P (qIt P S t))) : qSr h1 b0 b1 b2 P S (t + 1) := by
  intro s hs e
  rcases Nat.lt_or_ge s t with q | q
  · have e1 : qNs P S s < qNs P S t := by
      have := qNs_mo P S (show s + 1 ≤ t by omega)
      rw [qNs_s, if_pos e] at this
      omega
    rw [hf b0 (Or.inl rfl) _ e1, hf b1 (Or.inr (Or.inl rfl)) _ e1, hf b2 (Or.inr (Or.inr rfl)) _ e1]
    exact a s q e
  · have e2 : s = t := by omega
    subst e2
    exact hn e
theorem k_fore_L (hp : pp = 2 ∨ pp = 9) (hP : pOk P) (ho : sOk (pR P) S) : ∀ k t n h, t + k = 60 → k < n → zPC h pp P → zSC h 30 (pR P) (qIt P S t) → zI h 39 4 = nI (qNs P S t) → qSr h 40 41 42 P S t → (∀ r, r < pR P → zI h 43 r = qGa P S r (t + 1)) → ∃ h', s_X10_foresee_L25 pp n (nI (t + 1)) h = some h' ∧ qFc h' P S ∧ zI h' 39 5 = nI 1 ∧ zfr (fun b _ => 30 ≤ b ∧ b ≤ 43) h h' := by
  have hR := hP.1
  intro k
  induction k with
  | zero =>
    intro t n h e hn w s h4 hs hg
    obtain ⟨m, rfl, -⟩ := zq_suc hn
    have e2 : t = 60 := by omega
    subst e2
    rw [s_X10_foresee_L25, if_pos (show (60 : Int32) < nI (60 + 1) by decide), zlt_e]
    refine ⟨_, rfl, ⟨h4, hs, hg⟩, rfl, zfr.wI 39 5 _ ⟨by omega, by omega⟩⟩
  | succ k ih =>
    intro t n h e hn w s h4 hs hg
    obtain ⟨m, rfl, hm⟩ := zq_suc hn
    have hns := qNs_le P S t
    obtain ⟨h1, e1, s1, g1, f1⟩ := k_pass (Or.inr rfl) hp hP w s (qIt_ok hP ho t)
    have w1 : zPC h1 pp P := w.fr f1 (fun b k _ _ => by unfold zAd; omega)
    have s1 : zSC h1 30 (pR P) (qIt P S (t + 1)) := s1
    rw [s_X10_foresee_L25, if_neg (show ¬ (60 : Int32) < nI (t + 1) from nI_nlt (a := 60) (b := t + 1) (by omega) (by omega)), e1, zbd_e]
    -- behind the sail
    have key : ∀ h2, zPC h2 pp P → zSC h2 30 (pR P) (qIt P S (t + 1)) → zI h2 39 4 = nI (qNs P S (t + 1)) → qSr h2 40 41 42 P S (t + 1) → (∀ r, r < pR P → zI h2 43 r = qGa P S r (t + 1)) → zfr (fun b _ => 30 ≤ b ∧ b ≤ 43) h h2 → ∃ h', s_X10_foresee_J46 pp (s_X10_foresee_L25 pp m) (nI (t + 1)) h2 = some h' ∧ qFc h' P S ∧ zI h' 39 5 = nI 1 ∧ zfr (fun b _ => 30 ≤ b ∧ b ≤ 43) h h' := by
      intro h2 w2 s2 a1 a2 a3 f2
      rw [s_X10_foresee_J46, w2.1, s_X1_noteGone]
      obtain ⟨h3, e3, v3, f3⟩ := k_note_L (t := t + 1) hP (by omega) (qIt_ok hP ho (t + 1)) (pR P) 0 zfu h2 (by omega) (zq_fu (by omega)) s2 (fun i hi => by omega) (fun i _ hi => a3 i hi)
      rw [show s_X1_noteGone_L2 30 zfu (nI (t + 1)) (nI (pR P)) 0 h2 = some h3 from e3, ob_e, show nI (t + 1) + 1 = nI (t + 1 + 1) from nI_1 _]
      obtain ⟨h5, e5, q1, q2, f5⟩ := ih (t + 1) m h3 (by omega) (by omega) (w2.fr f3 (fun b k _ _ => by omega)) (s2.fr f3 (fun b k _ _ => by omega)) (by rw [f3.i (by omega)]; exact a1) (fun s hs2 e2 => by rw [f3.i (by omega), f3.i (by omega), f3.i (by omega)]; exact a2 s hs2 e2) v3
      exact ⟨h5, e5, q1, q2, (f2.tr (f3.mo (fun b k e => by omega))).tr f5⟩
    have f1' : zfr (fun b _ => 30 ≤ b ∧ b ≤ 43) h h1 := f1.mo (fun b k e => by unfold zAd at e; omega)
    have k4 : zI h1 39 4 = nI (qNs P S t) := by rw [f1.i (by unfold zAd; omega)]; exact h4
    cases hq : qDone P (qIt P S t) with
    | false =>
      rw [if_pos (show nI false.toNat = 0 from rfl)]
      refine key h1 w1 s1 (by rw [k4, qNs_s, hq]; rfl) (qSr_s hs (fun b hb k hk => f1.i (by unfold zAd; omega)) (fun n => by rw [hq] at n; cases n)) (fun r hr => by rw [f1.i (by unfold zAd; omega)]; exact hg r hr) f1'
    | true =>
      rw [if_neg (by decide), s_X1_addSail, k4, if_neg (show ¬ (60 : Int32) ≤ nI (qNs P S t) from nI_ge (b := 60) (by omega) (by omega)), zq_ix (by omega) (by omega), zlt_e]
      rw [show zI (zwI h1 40 (qNs P S t) (nI (t + 1))) 39 4 = nI (qNs P S t) from k4, zq_ix (by omega) (by omega), zlt_e]
      rw [show zI (zwI (zwI h1 40 (qNs P S t) (nI (t + 1))) 41 (qNs P S t) (zI h1 36 2)) 39 4 = nI (qNs P S t) from k4, zq_ix (by omega) (by omega), zlt_e, zlt_e]
      rw [show zI (zwI (zwI (zwI h1 40 (qNs P S t) (nI (t + 1))) 41 (qNs P S t) (zI h1 36 2)) 42 (qNs P S t) (zI h1 36 3)) 39 4 = nI (qNs P S t) from k4, ob_e, show nI (qNs P S t) + 1 = nI (qNs P S t + 1) from nI_1 _, (g1 hq).1, (g1 hq).2]
      generalize e9 : zwI (zwI (zwI (zwI h1 40 (qNs P S t) (nI (t + 1))) 41 (qNs P S t) (nI (qDg P (qIt P S t)))) 42 (qNs P S t) (nI (qDw P (qIt P S t)))) 39 4 (nI (qNs P S t + 1)) = h9
      have f9 : zfr (fun b k => ((b = 40 ∨ b = 41 ∨ b = 42) ∧ k = qNs P S t) ∨ (b = 39 ∧ k = 4)) h1 h9 := by
        rw [← e9]
        exact (((zfr.wI 40 _ _ (by omega)).w 41 _ _ (by omega)).w 42 _ _ (by omega)).w 39 4 _ (by omega)
      refine key h9 (w1.fr f9 (fun b k _ _ => by omega)) (s1.fr f9 (fun b k _ _ => by omega)) (by rw [← e9, qNs_s, hq]; rfl) (qSr_s hs (fun b hb k hk => by rw [f9.i (by omega), f1.i (by unfold zAd; omega)]) (fun _ => ?_)) (fun r hr => by rw [f9.i (by omega), f1.i (by unfold zAd; omega)]; exact hg r hr) (f1'.tr (f9.mo (fun b k e => by omega)))
      refine ⟨?_, ?_, ?_⟩
      · rw [← e9, zI_wI, if_neg (by omega), zI_wI, if_neg (by omega), zI_wI, if_neg (by omega), zI_wI, if_pos rfl, if_pos rfl]
      · rw [← e9, zI_wI, if_neg (by omega), zI_wI, if_neg (by omega), zI_wI, if_pos rfl, if_pos rfl]
      · rw [← e9, zI_wI, if_neg (by omega), zI_wI, if_pos rfl, if_pos rfl]
theorem r_fore (w : zRel c h pp P L) : ∃ h1, s_X10_foresee pp h = some h1 ∧ zRel c h1 pp P L ∧ qFc h1 P (lS L) ∧ zfr (fun b _ => 30 ≤ b ∧ b ≤ 43) h h1 := by
  obtain ⟨w0, hP, hL, wC, wM, cC, cM, wa, -⟩ := id w
  have hR := hP.1
  rw [s_X10_foresee]
  rcases wa.1 with q | ⟨q, qf⟩
  · rw [if_pos (show zI h 39 5 = 0 from q)]
    obtain ⟨h1, e1, s1, f1⟩ := k_copy (a0 := 30) (a1 := 19) (by omega) hP.1 hL.1.1.2.2.2.2.2 cC.1
    rw [e1, ob_e, s_X1_begin, zlt_e]
    obtain ⟨h2, e2, v2, f2⟩ := k_beg_L 12 0 zfu (zwI h1 39 4 0) (by omega) (zq_fu (by omega))
    rw [show s_X1_begin_L5 zfu 0 (zwI h1 39 4 0) = some h2 from e2, ob_e]
    have f12 : zfr (fun b _ => 30 ≤ b ∧ b ≤ 43) h h2 := ((f1.mo (fun b k e => by omega)).w 39 4 _ (by omega)).tr (f2.mo (fun b k e => by omega))
    have w2 : zPC h2 pp P := wC.fr f12 (fun b k _ _ => by omega)
    have s2 : zSC h2 30 (pR P) (lS L) := (s1.fr (zfr.wI (A := fun b _ => b = 39) 39 4 0 rfl) (fun b k _ _ => by omega)).fr f2 (fun b k _ _ => by omega)
    obtain ⟨h3, e3, v3, f3⟩ := k_note_L (S := lS L) (t := 0) hP (by omega) hL.1.1 (pR P) 0 zfu h2 (by omega) (zq_fu (by omega)) s2 (fun i hi => by omega) (fun i _ hi => v2 i (by omega) (by omega))
    rw [w2.1, s_X1_noteGone, show s_X1_noteGone_L2 30 zfu 0 (nI (pR P)) 0 h2 = some h3 from e3, ob_e]
    obtain ⟨h5, e5, q1, q2, f5⟩ := k_fore_L w0 hP hL.1.1 60 0 zfu h3 (by omega) (zq_fu (by omega)) (w2.fr f3 (fun b k _ _ => by omega)) (s2.fr f3 (fun b k _ _ => by omega)) (by rw [f3.i (by omega), f2.i (by omega)]; rfl) (fun s hs _ => by omega) v3
    have f9 : zfr (fun b _ => 30 ≤ b ∧ b ≤ 43) h h5 := (f12.tr (f3.mo (fun b k e => by omega))).tr f5
    refine ⟨h5, e5, ?_, q1, f9⟩
    refine w.ca (f9.mo (fun b k e => by unfold zAc zScr; omega)).sm ⟨Or.inr ⟨q2, q1⟩, ?_, ?_⟩
    · rw [f9.i (by omega), f9.i (by omega), f9.i (by omega), f9.i (by omega)]; exact wa.2.1
    · rw [f9.i (by omega), f9.i (by omega), f9.i (by omega)]; exact wa.2.2
  · rw [if_neg (show ¬ zI h 39 5 = 0 by rw [q]; decide)]
    exact ⟨h, rfl, w, qf, zfr.rf _ h⟩
theorem k_tsM_L (hP : pOk P) (ho : sOk (pR P) S) : ∀ k t n h, t + k = 60 → k < n → zPM h P → zSM h (pR P) (qIt P S t) → zI h 52 46 = nI (qNs P S t) → qSr h 72 73 74 P S t → ∃ h5, s_X11_tellSails_L10 n (60 : Int32) (nI (t + 1)) h = ((s_X11_unpack 71 38 (0 : Int32) h5).bind fun h1 => some h1) ∧ zI h5 52 46 = nI (qNs P S 60) ∧ qSr h5 72 73 74 P S 60 ∧ zfr (fun b k => zAm b k ∨ (b = 52 ∧ k = 46) ∨ (72 ≤ b ∧ b ≤ 74)) h h5 := by
  have hR := hP.1
  intro k
  induction k with
  | zero =>
    intro t n h e hn w s h4 hs
    obtain ⟨m, rfl, -⟩ := zq_suc hn
    have e2 : t = 60 := by omega
    subst e2
    rw [s_X11_tellSails_L10, if_pos (show (60 : Int32) < nI (60 + 1) by decide)]
    exact ⟨h, rfl, h4, hs, zfr.rf _ h⟩
  | succ k ih =>
    intro t n h e hn w s h4 hs
    obtain ⟨m, rfl, hm⟩ := zq_suc hn
    have hns := qNs_le P S t
    obtain ⟨h1, e1, s1, g1, g2, f1⟩ := k_day hP w s (qIt_ok hP ho t)
    have w1 : zPM h1 P := w.fr f1 (fun b k e => by unfold zAm; omega)
    have s1 : zSM h1 (pR P) (qIt P S (t + 1)) := s1
    have k4 : zI h1 52 46 = nI (qNs P S t) := by rw [f1.i (by unfold zAm; omega)]; exact h4
    have f1' : zfr (fun b k => zAm b k ∨ (b = 52 ∧ k = 46) ∨ (72 ≤ b ∧ b ≤ 74)) h h1 := f1.mo (fun b k e => Or.inl e)
    rw [s_X11_tellSails_L10, if_neg (show ¬ (60 : Int32) < nI (t + 1) from nI_nlt (a := 60) (b := t + 1) (by omega) (by omega)), e1, ob_e, g1, show nI (t + 1) + 1 = nI (t + 1 + 1) from nI_1 _]
    cases hq : qDone P (qIt P S t) with
    | false =>
      rw [if_neg (fun n => n rfl)]
      obtain ⟨h5, e5, a1, a2, f5⟩ := ih (t + 1) m h1 (by omega) (by omega) w1 s1 (by rw [k4, qNs_s, hq]; rfl) (qSr_s hs (fun b hb k hk => f1.i (by unfold zAm; omega)) (fun n => by rw [hq] at n; cases n))
      exact ⟨h5, e5, a1, a2, f1'.tr f5⟩
    | true =>
      rw [if_pos (by decide), k4, zq_ix (by omega) (by omega), zlt_e]
      rw [show zI (zwI h1 72 (qNs P S t) (nI (t + 1))) 52 46 = nI (qNs P S t) from k4, zq_ix (by omega) (by omega), zlt_e]
      rw [show zI (zwI h1 72 (qNs P S t) (nI (t + 1))) 52 40 = nI (qDg P (qIt P S t)) from (g2 hq).1]
      rw [show zI (zwI (zwI h1 72 (qNs P S t) (nI (t + 1))) 73 (qNs P S t) (nI (qDg P (qIt P S t)))) 52 46 = nI (qNs P S t) from k4, zq_ix (by omega) (by omega), zlt_e, zlt_e]
      rw [show zI (zwI (zwI h1 72 (qNs P S t) (nI (t + 1))) 73 (qNs P S t) (nI (qDg P (qIt P S t)))) 52 41 = nI (qDw P (qIt P S t)) from (g2 hq).2]
      rw [show zI (zwI (zwI (zwI h1 72 (qNs P S t) (nI (t + 1))) 73 (qNs P S t) (nI (qDg P (qIt P S t)))) 74 (qNs P S t) (nI (qDw P (qIt P S t)))) 52 46 = nI (qNs P S t) from k4, show nI (qNs P S t) + 1 = nI (qNs P S t + 1) from nI_1 _]
      generalize e9 : zwI (zwI (zwI (zwI h1 72 (qNs P S t) (nI (t + 1))) 73 (qNs P S t) (nI (qDg P (qIt P S t)))) 74 (qNs P S t) (nI (qDw P (qIt P S t)))) 52 46 (nI (qNs P S t + 1)) = h9
      have f9 : zfr (fun b k => ((b = 72 ∨ b = 73 ∨ b = 74) ∧ k = qNs P S t) ∨ (b = 52 ∧ k = 46)) h1 h9 := by
        rw [← e9]
        exact (((zfr.wI 72 _ _ (by omega)).w 73 _ _ (by omega)).w 74 _ _ (by omega)).w 52 46 _ (by omega)
      obtain ⟨h5, e5, a1, a2, f5⟩ := ih (t + 1) m h9 (by omega) (by omega) (w1.fr f9 (fun b k e => by omega)) (s1.fr f9 (fun b k e => by omega)) (by rw [← e9, qNs_s, hq]; rfl) (qSr_s hs (fun b hb k hk => by rw [f9.i (by omega), f1.i (by unfold zAm; omega)]) (fun _ => by
        refine ⟨?_, ?_, ?_⟩
        · rw [← e9, zI_wI, if_neg (by omega), zI_wI, if_neg (by omega), zI_wI, if_neg (by omega), zI_wI, if_pos rfl, if_pos rfl]
        · rw [← e9, zI_wI, if_neg (by omega), zI_wI, if_neg (by omega), zI_wI, if_pos rfl, if_pos rfl]
        · rw [← e9, zI_wI, if_neg (by omega), zI_wI, if_pos rfl, if_pos rfl]))
      exact ⟨h5, e5, a1, a2, (f1'.tr (f9.mo (fun b k e => by omega))).tr f5⟩
theorem r_tell (w : zRel c h pp P L) : ∃ h1, s_X11_tellSails (60 : Int32) h = some h1 ∧ zI h1 52 46 = nI (qNs P (lS L) 60) ∧ qSr h1 72 73 74 P (lS L) 60 ∧ zI h1 52 4 = zI h 52 4 ∧ zfr zScr h h1 := by
  obtain ⟨w0, hP, hL, wC, wM, cC, cM, -⟩ := id w
  rw [s_X11_tellSails, zlt_e]
  have f0 : zfr (fun b k => b = 52 ∧ k = 46) h (zwI h 52 46 0) := zfr.wI 52 46 _ (by omega)
  have z0 : zI (zwI h 52 46 0) 52 46 = nI 0 := rfl
  generalize zwI h 52 46 0 = h0 at f0 z0 ⊢
  have w0' : zPM h0 P := wM.fr f0 (fun b k e => by omega)
  have s0' : zSM h0 (pR P) (lS L) := cM.1.fr f0 (fun b k e => by omega)
  obtain ⟨h4, e4, v4, f4⟩ := r_pack 71 (Or.inl rfl) h0
  rw [e4, ob_e]
  obtain ⟨h5, e5, a1, a2, f5⟩ := k_tsM_L hP hL.1.1 60 0 zfu h4 (by omega) (zq_fu (by omega)) (w0'.fr f4 (fun b k e => by omega)) (s0'.fr f4 (fun b k e => by omega)) (by rw [f4.i (by omega)]; exact z0) (fun s hs _ => by omega)
  obtain ⟨h7, e7, f7, g7⟩ := r_unp (Or.inl rfl) v4 f4 (f5.mo (fun b k e => by
    rcases e with e | e | e
    · exact zAm_x 71 (Or.inl rfl) b k e
    · exact Or.inl ⟨by unfold zScr; omega, by omega⟩
    · exact Or.inl ⟨by unfold zScr; omega, by omega⟩))
  refine ⟨h7, ?_, ?_, fun s hs e => ?_, ?_, (f0.mo (fun b k e => by unfold zScr; omega)).tr f7⟩
  · rw [show s_X11_tellSails_L10 zfu 60 1 h4 = _ from e5, e7, ob_e]
  · rw [g7.i (by unfold zAs; omega)]; exact a1
  · rw [g7.i (by unfold zAs; omega), g7.i (by unfold zAs; omega), g7.i (by unfold zAs; omega)]; exact a2 s hs e
  · rw [g7.i (by unfold zAs; omega), f5.i (by unfold zAm; omega), f4.i (by omega), f0.i (by omega)]
theorem qGa_st (P : zPl) (S : Nat → Nat) (r : Nat) : ∀ k t, t + k ≤ 100 → qGa P S r t ≠ nM → qGa P S r (t + k) = qGa P S r t := by
  intro k
  induction k with
  | zero => intro t _ _; rfl
  | succ k ih =>
    intro t h1 h2
    have := qGa_s P S r (t + k) (by omega)
    rw [show t + (k + 1) = t + k + 1 by omega, this, ih t (by omega) h2, if_neg (fun n => h2 n.1)]
theorem k_giM_L (hP : pOk P) (ho : sOk (pR P) S) {r : Nat} (hr : r < pR P) : ∀ k t n h, t + k = 61 → k < n → zPM h P → zSM h (pR P) (qIt P S t) → ∃ h5, s_X11_goneIn_L9 n (nI r) (qGa P S r t) (nI t) h = ((s_X11_unpack 71 38 (0 : Int32) h5).bind fun h1 => some (qGa P S r 61, h1)) ∧ zfr zAm h h5 := by
  have hR := hP.1
  intro k
  induction k with
  | zero =>
    intro t n h e hn w s
    obtain ⟨m, rfl, -⟩ := zq_suc hn
    have e2 : t = 61 := by omega
    subst e2
    rw [s_X11_goneIn_L9, if_pos (show (60 : Int32) < nI 61 by decide), s_X11_goneIn_J25]
    exact ⟨h, rfl, zfr.rf _ h⟩
  | succ k ih =>
    intro t n h e hn w s
    obtain ⟨m, rfl, hm⟩ := zq_suc hn
    rw [s_X11_goneIn_L9, if_neg (show ¬ (60 : Int32) < nI t from nI_nlt (a := 60) (b := t) (by omega) (by omega))]
    by_cases q : qGa P S r t = nM
    · rw [if_neg (fun n => n (show qGa P S r t = (-1 : Int32) from q)), k_goneAt hR s (qIt_ok hP ho t) hr, ob_e]
      obtain ⟨h1, e1, s1, g1, g2, f1⟩ := k_day hP w s (qIt_ok hP ho t)
      have w1 : zPM h1 P := w.fr f1 (fun b k e => by unfold zAm; omega)
      obtain ⟨h5, e5, f5⟩ := ih (t + 1) m h1 (by omega) (by omega) w1 s1
      have eg := qGa_s P S r t (by omega)
      refine ⟨h5, ?_, f1.tr f5⟩
      by_cases q2 : qIt P S t r = 0
      · rw [if_pos ⟨q, q2⟩] at eg
        rw [if_pos q2, if_neg (by decide), s_X11_goneIn_J21, e1, ob_e, show nI t + 1 = nI (t + 1) from nI_1 t, ← eg]
        exact e5
      · rw [if_neg (fun n => q2 n.2)] at eg
        rw [if_neg q2, if_pos (show nI 0 = 0 from rfl), s_X11_goneIn_J21, e1, ob_e, show nI t + 1 = nI (t + 1) from nI_1 t, ← eg]
        exact e5
    · rw [if_pos (show ¬ qGa P S r t = (-1 : Int32) from q), s_X11_goneIn_J25]
      have := qGa_st P S r (k + 1) t (by omega) q
      rw [e] at this
      rw [this]
      exact ⟨h, rfl, zfr.rf _ h⟩
theorem r_gone (w : zRel c h pp P L) {r : Nat} (hr : r < pR P) : ∃ h1, s_X11_goneIn (nI r) h = some (qGa P (lS L) r 61, h1) ∧ zI h1 52 4 = zI h 52 4 ∧ zfr zScr h h1 := by
  obtain ⟨w0, hP, hL, wC, wM, cC, cM, -⟩ := id w
  obtain ⟨h4, e4, v4, f4⟩ := r_pack 71 (Or.inl rfl) h
  obtain ⟨h5, e5, f5⟩ := k_giM_L hP hL.1.1 hr 61 0 zfu h4 (by omega) (zq_fu (by omega)) (wM.fr f4 (fun b k e => by omega)) (cM.1.fr f4 (fun b k e => by omega))
  obtain ⟨h7, e7, f7, g7⟩ := r_unp (Or.inl rfl) v4 f4 (f5.mo (zAm_x 71 (Or.inl rfl)))
  refine ⟨h7, ?_, ?_, f7⟩
  · rw [s_X11_goneIn, e4, ob_e, show s_X11_goneIn_L9 zfu (nI r) (-1) 0 h4 = _ from e5, e7, ob_e]
  · rw [g7.i (by unfold zAs; omega), f5.i (by unfold zAm; omega), f4.i (by omega)]
/-- the k-th sail: on which day -/
def qTk (P : zPl) (S : Nat → Nat) (k : Nat) : Nat := fa_first (fun t => qDone P (qIt P S t) && decide (qNs P S t = k)) 60
theorem qTk_in {P : zPl} {S : Nat → Nat} {k : Nat} (h : k < qNs P S 60) : qTk P S k < 60 ∧ qDone P (qIt P S (qTk P S k)) = true ∧ qNs P S (qTk P S k) = k := by
  obtain ⟨i, i1, i2, i3⟩ := fb_ct_kth (p := fun t => qDone P (qIt P S t)) (k := k) (n := 60) h
  have h1 : qTk P S k < 60 := by
    rcases Nat.lt_or_ge (qTk P S k) 60 with q | q
    · exact q
    · have := fa_first_no (fun t => qDone P (qIt P S t) && decide (qNs P S t = k)) 60 i (by
        have : qTk P S k ≤ 60 := fa_first_le _ 60
        show i < qTk P S k
        omega)
      have e2 : qNs P S i = k := i3
      simp [i2, e2] at this
  have h2 := fa_first_yes (fun t => qDone P (qIt P S t) && decide (qNs P S t = k)) 60 h1
  rw [Bool.and_eq_true, decide_eq_true_eq] at h2
  exact ⟨h1, h2.1, h2.2⟩
def qGk (P : zPl) (S : Nat → Nat) (k : Nat) : Nat := qDg P (qIt P S (qTk P S k))
theorem qSr_at {b0 b1 b2 : Nat} (a : qSr h b0 b1 b2 P S 60) {k : Nat} (hk : k < qNs P S 60) : zI h b0 k = nI (qTk P S k + 1) ∧ zI h b1 k = nI (qGk P S k) ∧ zI h b2 k = nI (qDw P (qIt P S (qTk P S k))) := by
  obtain ⟨h1, h2, h3⟩ := qTk_in hk
  have := a _ h1 h2
  rw [h3] at this
  exact this
end FO
