/-! ===== strong in the reference ===== -/
section ST
variable {c pp : Nat} {h h0 h1 : zH} {P : zPl} {L : zLg} {S T : Nat → Nat} {R : Nat}
theorem k_iasM1 (hR : R ≤ 12) (hL : lOk R L) (w : zSenM h L) (s : zSM h R T) (ho : sOk R T) {d : Nat} (hd : d ≤ 20) (K : Int32 → Int32 → Int32 → zH → Option (Int32 × zH)) (l1 : Int32) : ∀ k i n, i + k = lm L → k < n → s_X11_isAsSeen_L33 K n l1 (nI (qAd L T d i).toNat) (nI d) (nI i) h = ((s_X11_aDay h).bind fun h1 => K l1 (nI (qAd L T d (lm L)).toNat) (nI (d + 1)) h1) := by
  intro k
  obtain ⟨w1, w2⟩ := w
  have l8 := hL.2.2.2.1
  have l5 := hL.2.2.2.2
  induction k with
  | zero =>
    intro i n e hn
    obtain ⟨m, rfl, -⟩ := zq_suc hn
    have e2 : i = lm L := by omega
    rw [s_X11_isAsSeen_L33, w1, if_pos (nI_le (by omega) (by omega)), e2, show nI d + 1 = nI (d + 1) from nI_1 d]
  | succ k ih =>
    intro i n e hn
    obtain ⟨m, rfl, hm⟩ := zq_suc hn
    have hi : i < lm L := by omega
    obtain ⟨b1, b2, b3⟩ := l5 i hi
    obtain ⟨v1, v2, v3⟩ := w2 i hi
    have ih1 := ih (i + 1) m (by omega) (by omega)
    rw [qAd_s] at ih1
    rw [s_X11_isAsSeen_L33, w1, if_neg (nI_ge hi (by omega)), show nI i + 1 = nI (i + 1) from nI_1 i]
    cases ha : qAd L T d i with
    | false =>
      rw [ha, Bool.false_and] at ih1
      rw [if_pos (show nI false.toNat = 0 from rfl)]
      exact ih1
    | true =>
      rw [ha, Bool.true_and] at ih1
      rw [if_neg (by decide), zq_ix (by omega) (by omega), v2]
      by_cases q : ld L i = d
      · rw [if_neg (fun n => n (by rw [q])), zq_ix (by omega) (by omega), v1, k_goneAt hR s ho b1, ob_e, zq_ix (by omega) (by omega), v3]
        by_cases q2 : T (lr L i) = 0
        · rw [if_pos q2]
          by_cases q3 : lg L i = 1
          · rw [if_neg (fun n => n (by rw [q3]))]
            rw [decide_eq_true (fun _ => ⟨fun _ => q3, fun _ => q2⟩)] at ih1
            exact ih1
          · rw [if_pos (fun e => q3 ((nI_eq (by omega) (by omega)).mp e).symm)]
            rw [decide_eq_false (fun g => q3 ((g q).mp q2))] at ih1
            exact ih1
        · rw [if_neg q2]
          by_cases q3 : lg L i = 1
          · rw [if_pos (fun e => by rw [q3] at e; exact absurd e (by decide))]
            rw [decide_eq_false (fun g => q2 ((g q).mpr q3))] at ih1
            exact ih1
          · rw [if_neg (fun n => n (by rw [show lg L i = 0 by omega]))]
            rw [decide_eq_true (fun _ => ⟨fun x => absurd x q2, fun x => absurd x q3⟩)] at ih1
            exact ih1
      · rw [if_pos (fun e => q ((nI_eq (by omega) (by omega)).mp e))]
        rw [decide_eq_true (fun e => absurd e q)] at ih1
        exact ih1
theorem k_iasM2 (hP : pOk P) (hL : lOk (pR P) L) (ho : sOk (pR P) T) {D : Nat} (hD : D ≤ 20) : ∀ k d n h, d + k = D + 1 → k < n → zPM h P → zSenM h L → zSM h (pR P) (qIt P T d) → ∃ h5, s_X11_isAsSeen_L26 n (nI D) (nI (qUp P L T d).toNat) (nI d) h = s_X11_isAsSeen_J66 (nI (qUp P L T (D + 1)).toNat) h5 ∧ zfr zAm h h5 := by
  intro k
  have hR := hP.1
  induction k with
  | zero =>
    intro d n h e hn w s t
    obtain ⟨m, rfl, -⟩ := zq_suc hn
    have e2 : d = D + 1 := by omega
    subst e2
    refine ⟨h, ?_, zfr.rf _ h⟩
    rw [s_X11_isAsSeen_L26, if_pos (nI_lt (by omega) (by omega))]
  | succ k ih =>
    intro d n h e hn w s t
    obtain ⟨m, rfl, hm⟩ := zq_suc hn
    rw [s_X11_isAsSeen_L26, if_neg (nI_nlt (by omega) (by omega))]
    cases hu : qUp P L T d with
    | false =>
      have := qUp_mo (e := D + 1) (by omega) hu
      rw [if_pos (show nI false.toNat = 0 from rfl), this]
      exact ⟨h, rfl, zfr.rf _ h⟩
    | true =>
      rw [if_neg (by decide)]
      obtain ⟨h1, e1, s1, -, -, f1⟩ := k_day hP w t (qIt_ok hP ho d)
      have w1 : zPM h1 P := w.fr f1 (fun b k e => by unfold zAm; omega)
      have n1 : zSenM h1 L := s.fr f1 (fun b k e => by unfold zAm; omega)
      have s1 : zSM h1 (pR P) (qIt P T (d + 1)) := s1
      obtain ⟨h5, e5, f5⟩ := ih (d + 1) m h1 (by omega) (by omega) w1 n1 s1
      rw [qUp_s, hu, Bool.true_and] at e5
      refine ⟨h5, ?_, f1.tr f5⟩
      have z : qAd L (qIt P T d) d 0 = true := decide_eq_true (fun i hi => by omega)
      have k1 := k_iasM1 hR hL s t (qIt_ok hP ho d) (d := d) (by omega) (s_X11_isAsSeen_L26 m) (nI D) (lm L) 0 zfu (by omega) (zq_fu (by have := hL.2.2.2.1; omega))
      rw [z] at k1
      rw [show s_X11_isAsSeen_L33 (s_X11_isAsSeen_L26 m) zfu (nI D) (nI true.toNat) (nI d) 0 h = _ from k1, e1, ob_e]
      exact e5
theorem k_iasM3 (hL : lOk R L) (w : zSenM h L) : ∀ k i n, i + k = lm L → k < n → s_X11_isAsSeen_L9 n (nI (qLd L i)) (nI i) h = s_X11_isAsSeen_L26 zfu (nI (qLd L (lm L))) (1 : Int32) (0 : Int32) h := by
  intro k
  obtain ⟨w1, w2⟩ := w
  have l8 := hL.2.2.2.1
  have l5 := hL.2.2.2.2
  induction k with
  | zero =>
    intro i n e hn
    obtain ⟨m, rfl, -⟩ := zq_suc hn
    have e2 : i = lm L := by omega
    rw [s_X11_isAsSeen_L9, w1, if_pos (nI_le (by omega) (by omega)), e2]
  | succ k ih =>
    intro i n e hn
    obtain ⟨m, rfl, hm⟩ := zq_suc hn
    have hi : i < lm L := by omega
    have b1 := qLd_le i (fun j hj => (l5 j (by omega)).2.1)
    have b2 := (l5 i hi).2.1
    have ih1 := ih (i + 1) m (by omega) (by omega)
    rw [qLd] at ih1
    rw [s_X11_isAsSeen_L9, w1, if_neg (nI_ge hi (by omega)), zq_ix (by omega) (by omega), (w2 i hi).2.1, k_max2 (by omega) (by omega), ob_e, show nI i + 1 = nI (i + 1) from nI_1 i]
    exact ih1
/-- whether all that was seen would be so, in the reference -/
theorem k_iasM (hP : pOk P) (hL : lOk (pR P) L) (ho : sOk (pR P) T) (w : zPM h P) (s : zSenM h L) (t : zSM h (pR P) T) : ∃ h7, s_X11_isAsSeen h = some (nI (qAs P L T).toNat, h7) ∧ zI h7 52 4 = zI h 52 4 ∧ zfr (fun b k => b = 69 ∨ b = 70 ∨ b = 78 ∨ (b = 52 ∧ 39 ≤ k ∧ k ≤ 41)) h h7 := by
  have hD : qLd L (lm L) ≤ 20 := qLd_le _ (fun i hi => (hL.2.2.2.2 i hi).2.1)
  obtain ⟨h4, e4, v4, f4⟩ := r_pack 78 (Or.inr rfl) h
  have n4 : zSenM h4 L := s.fr f4 (fun b k e => by omega)
  obtain ⟨h5, e5, f5⟩ := k_iasM2 hP hL ho hD (qLd L (lm L) + 1) 0 zfu h4 (by omega) (zq_fu (by omega)) (w.fr f4 (fun b k e => by omega)) n4 (by rw [qIt]; exact t.fr f4 (fun b k e => by omega))
  rw [qUp_0, qUp_as (fun i hi => Nat.lt_succ_of_le (qLd_in L _ i hi))] at e5
  obtain ⟨h7, e7, f7, g7⟩ := r_unp (Or.inr rfl) v4 f4 (f5.mo (zAm_x 78 (Or.inr rfl)))
  refine ⟨h7, ?_, ?_, ?_⟩
  · rw [s_X11_isAsSeen, e4, ob_e, show s_X11_isAsSeen_L9 zfu 0 0 h4 = _ from k_iasM3 hL n4 (lm L) 0 zfu (by omega) (zq_fu (by have := hL.2.2.2.1; omega)), show s_X11_isAsSeen_L26 zfu (nI (qLd L (lm L))) 1 0 h4 = _ from e5, s_X11_isAsSeen_J66, e7, ob_e]
    exact zrt_b _ _
  · rw [g7.i (by unfold zAs; omega), f5.i (by unfold zAm; omega), f4.i (by omega)]
  · obtain ⟨a1, a2, a3, a4, a5, a6, a7⟩ := f7
    refine ⟨a1, a2, a3, a4, a5, a6, fun b k n => ?_⟩
    by_cases q : zScr b k
    · by_cases q2 : zAs b k
      · exfalso
        unfold zAs at q2
        unfold zScr at q
        omega
      · rw [g7.i q2, f5.i (by unfold zAm; unfold zAs at q2; omega), f4.i (by omega)]
    · exact a7 b k q
/-- the fits of the first n couples lie in row 80 -/
def qFr (h : zH) (P : zPl) (L : zLg) (n : Nat) : Prop := zI h 52 54 = nI (qFn P L n) ∧ ∀ q, q < n → qFt P L q = true → zI h 80 (qFn P L q) = nI (100 * (q / 99) + (q % 99 + 1))
/-- what tellFits writes, with a rib's strength -/
def zAj (r : Nat) : Nat → Nat → Prop := fun b k => b = 69 ∨ b = 70 ∨ b = 78 ∨ (b = 52 ∧ 39 ≤ k ∧ k ≤ 41) ∨ (b = 52 ∧ k = 54) ∨ b = 80 ∨ (b = 64 ∧ k = r)
theorem qFr.s {n : Nat} (w : qFr h P L n) (z : qFt P L n = false) {A : Nat → Nat → Prop} (f : zfr A h h1) (q : ∀ b k, (b = 52 ∧ k = 54) ∨ b = 80 → ¬ A b k) : qFr h1 P L (n + 1) := by
  refine ⟨?_, fun i hi hq => ?_⟩
  · rw [f.i (q _ _ (by omega)), w.1, qFn_s, z]; rfl
  · rw [f.i (q _ _ (by omega))]
    by_cases e : i = n
    · rw [e, z] at hq; cases hq
    · exact w.2 i (by omega) hq
theorem zSM.str1 {v w : Nat} {A : Nat → Nat → Prop} (hR : R ≤ 12) (ho : sOk R S) (s : zSM h R S) {r : Nat} (hr : r < 12) (f : zfr A h h1) (q : ∀ b k, A b k → ¬ (b = 64 ∨ b = 65 ∨ b = 66 ∨ b = 67 ∨ (b = 52 ∧ 29 ≤ k ∧ k ≤ 34)) ∨ (b = 64 ∧ k = r)) (e : zI h1 64 r = nI v) : zSM h1 R (zu S r v) := by
  obtain ⟨s0, s1, s2, s3, s4, s5, s6, s7, s8, s9⟩ := s
  have hk := ho.2.2.2.2.2
  have g : ∀ b k, (b = 64 ∨ b = 65 ∨ b = 66 ∨ b = 67 ∨ (b = 52 ∧ 29 ≤ k ∧ k ≤ 34)) → ¬ (b = 64 ∧ k = r) → zI h1 b k = zI h b k := by
    intro b k x y
    apply f.i
    intro n
    rcases q b k n with z | z
    · exact z x
    · exact y z
  refine ⟨fun i hi => ?_, ?_, ?_, ?_, ?_, ?_, ?_, ?_, ?_, fun i hi => ?_⟩
  · by_cases z : i = r
    · subst z
      rw [zu_eq]; exact e
    · rw [zu_ne _ _ z, g _ _ (by omega) (by omega)]; exact s0 i hi
  · rw [zu_ne _ _ (by omega), g _ _ (by omega) (by omega)]; exact s1
  · rw [zu_ne _ _ (by omega), g _ _ (by omega) (by omega)]; exact s2
  · rw [zu_ne _ _ (by omega), g _ _ (by omega) (by omega)]; exact s3
  · rw [zu_ne _ _ (by omega), g _ _ (by omega) (by omega)]; exact s4
  · rw [zu_ne _ _ (by omega), g _ _ (by omega) (by omega)]; exact s5
  · rw [zu_ne _ _ (by omega), g _ _ (by omega) (by omega)]; exact s6
  · rw [zu_ne _ _ (by omega), g _ _ (by omega) (by omega)]; exact s7
  · rw [zu_ne _ _ (by omega), g _ _ (by omega) (by omega)]; exact s8
  · rw [zu_ne S _ (show (37 : Nat) ≠ r by omega)] at hi
    rw [zu_ne _ _ (by omega), zu_ne _ _ (by omega), g _ _ (by omega) (by omega), g _ _ (by omega) (by omega)]; exact s9 i hi
theorem k_tf1 (hP : pOk P) (hL : lOk (pR P) L) {r : Nat} (hr : r < pR P) (w : zPM h0 P) (s : zSenM h0 L) (t : zSM h0 (pR P) (lS L)) (K : Int32 → zH → Option zH) : ∀ k v n h, v + k = 99 → k < n → zfr (zAj r) h0 h → qFr h P L (99 * r + v) → zI h 52 4 = zI h0 52 4 → ∃ h', s_X11_tellFits_L18 K n (nI r) (nI (lS L r)) (nI (v + 1)) h = K (nI (r + 1)) h' ∧ zI h' 64 r = nI (lS L r) ∧ zfr (zAj r) h0 h' ∧ qFr h' P L (99 * (r + 1)) ∧ zI h' 52 4 = zI h0 52 4 := by
  intro k
  have hR := hP.1
  have bs := hL.1.1.1 r hr
  induction k with
  | zero =>
    intro v n h e hn f a k4
    obtain ⟨m, rfl, -⟩ := zq_suc hn
    have e2 : v = 99 := by omega
    subst e2
    have f1 : zfr (fun b k => b = 64 ∧ k = r) h (zwI h 64 r (nI (lS L r))) := zfr.wI 64 r _ ⟨rfl, rfl⟩
    refine ⟨zwI h 64 r (nI (lS L r)), ?_, ?_, f.tr (f1.mo (fun b k e => by unfold zAj; omega)), ⟨?_, fun q hq z => ?_⟩, ?_⟩
    · rw [s_X11_tellFits_L18, if_pos (by decide), zq_ix (by omega) (by omega), zlt_e, show nI r + 1 = nI (r + 1) from nI_1 r]
    · rw [zI_wI, if_pos rfl, if_pos rfl]
    · rw [f1.i (by omega), show 99 * (r + 1) = 99 * r + 99 by omega]; exact a.1
    · rw [f1.i (by omega)]; exact a.2 q (by omega) z
    · rw [f1.i (by omega)]; exact k4
  | succ k ih =>
    intro v n h e hn f a k4
    obtain ⟨m, rfl, hm⟩ := zq_suc hn
    have hv : v < 99 := by omega
    have ft := qFt_at P L (r := r) hv
    have bf := qFn_le P L (99 * r + v)
    have f1 : zfr (fun b k => b = 64 ∧ k = r) h (zwI h 64 r (nI (v + 1))) := zfr.wI 64 r _ ⟨rfl, rfl⟩
    have d1 : zI (zwI h 64 r (nI (v + 1))) 64 r = nI (v + 1) := by rw [zI_wI, if_pos rfl, if_pos rfl]
    rw [s_X11_tellFits_L18, if_neg (show ¬ (99 : Int32) < nI (v + 1) from nI_nlt (a := 99) (by omega) (by omega)), zq_ix (by omega) (by omega), zlt_e, show nI (v + 1) + 1 = nI (v + 1 + 1) from nI_1 _]
    generalize zwI h 64 r (nI (v + 1)) = h1 at f1 d1 ⊢
    have f01 : zfr (zAj r) h0 h1 := f.tr (f1.mo (fun b k e => by unfold zAj; omega))
    by_cases q : v + 1 = lS L r
    · rw [if_pos (by rw [q])]
      have z : qFt P L (99 * r + v) = false := by rw [ft, decide_eq_false (by omega), Bool.false_and]
      exact ih (v + 1) m h1 (by omega) (by omega) f01 (a.s z f1 (fun b k e => by omega)) (by rw [f1.i (by omega)]; exact k4)
    · rw [if_neg (fun e => q ((nI_eq (by omega) (by omega)).mp e))]
      rw [decide_eq_true q, Bool.true_and] at ft
      have s1 : zSM h1 (pR P) (zu (lS L) r (v + 1)) := t.str1 (w := 0) hR hL.1.1 (by omega) f01 (fun b k e => by unfold zAj at e; omega) d1
      obtain ⟨h2, e2, k2, f2⟩ := k_iasM hP hL (sOk_str hR hL.1.1 (r := r) (v := v + 1) (by omega) (by omega)) (w.fr f01 (fun b k e => by unfold zAj; omega)) (s.fr f01 (fun b k e => by unfold zAj; omega)) s1
      rw [← ft] at e2
      rw [e2, zbd_e]
      have f02 : zfr (zAj r) h0 h2 := f01.tr (f2.mo (fun b k e => by unfold zAj; omega))
      have k42 : zI h2 52 4 = zI h0 52 4 := by rw [k2, f1.i (by omega)]; exact k4
      cases hq : qFt P L (99 * r + v) with
      | false =>
        rw [if_neg (fun n => n rfl)]
        have a1 := a.s hq ((f1.mo (fun b k e => Or.inl e)).tr (f2.mo (fun b k e => Or.inr e)) : zfr (fun b k => (b = 64 ∧ k = r) ∨ (b = 69 ∨ b = 70 ∨ b = 78 ∨ (b = 52 ∧ 39 ≤ k ∧ k ≤ 41))) h h2) (fun b k e => by omega)
        exact ih (v + 1) m h2 (by omega) (by omega) f02 a1 k42
      | true =>
        have a4 : zI h2 52 54 = nI (qFn P L (99 * r + v)) := by rw [f2.i (by omega), f1.i (by omega)]; exact a.1
        have b12 : 99 * r + v < 1188 := by omega
        rw [if_pos (by decide), a4, zq_ix (by omega) (by omega), zlt_e, zlt_e]
        rw [zI_wI, if_neg (by decide), a4, show nI (qFn P L (99 * r + v)) + 1 = nI (qFn P L (99 * r + v) + 1) from nI_1 _, q_100]
        have f3 : zfr (fun b k => (b = 80 ∧ k = qFn P L (99 * r + v)) ∨ (b = 52 ∧ k = 54)) h2 (zwI (zwI h2 80 (qFn P L (99 * r + v)) (nI (100 * r + (v + 1)))) 52 54 (nI (qFn P L (99 * r + v) + 1))) := (zfr.wI 80 _ _ (by omega)).w 52 54 _ (by omega)
        have c1 : zI (zwI (zwI h2 80 (qFn P L (99 * r + v)) (nI (100 * r + (v + 1)))) 52 54 (nI (qFn P L (99 * r + v) + 1))) 52 54 = nI (qFn P L (99 * r + v) + 1) := by rw [zI_wI, if_pos rfl, if_pos rfl]
        have c2 : zI (zwI (zwI h2 80 (qFn P L (99 * r + v)) (nI (100 * r + (v + 1)))) 52 54 (nI (qFn P L (99 * r + v) + 1))) 80 (qFn P L (99 * r + v)) = nI (100 * r + (v + 1)) := by rw [zI_wI, if_neg (by decide), zI_wI, if_pos rfl, if_pos rfl]
        generalize zwI (zwI h2 80 (qFn P L (99 * r + v)) (nI (100 * r + (v + 1)))) 52 54 (nI (qFn P L (99 * r + v) + 1)) = h3 at f3 c1 c2 ⊢
        refine ih (v + 1) m h3 (by omega) (by omega) (f02.tr (f3.mo (fun b k e => by unfold zAj; omega))) ⟨?_, fun i hi z => ?_⟩ (by rw [f3.i (by omega)]; exact k42)
        · rw [c1, show 99 * r + (v + 1) = 99 * r + v + 1 by omega, qFn_s, hq]; rfl
        · by_cases ei : i = 99 * r + v
          · rw [ei, c2, (q_dm hv).1, (q_dm hv).2]
          · have m1 : qFn P L (i + 1) ≤ qFn P L (99 * r + v) := fb_ct_mono _ (by omega)
            rw [qFn_s, z, if_pos rfl] at m1
            rw [f3.i (by omega), f2.i (by omega), f1.i (by omega)]
            exact a.2 i (by omega) z
theorem k_tf2 (hP : pOk P) (hL : lOk (pR P) L) (w : zPM h0 P) (s : zSenM h0 L) (t : zSM h0 (pR P) (lS L)) : ∀ k r n h, r + k = pR P → k < n → zfr (fun b k => b = 69 ∨ b = 70 ∨ b = 78 ∨ (b = 52 ∧ 39 ≤ k ∧ k ≤ 41) ∨ (b = 52 ∧ k = 54) ∨ b = 80) h0 h → qFr h P L (99 * r) → zI h 52 4 = zI h0 52 4 → ∃ h', s_X11_tellFits_L5 n (nI r) h = some h' ∧ zfr (fun b k => b = 69 ∨ b = 70 ∨ b = 78 ∨ (b = 52 ∧ 39 ≤ k ∧ k ≤ 41) ∨ (b = 52 ∧ k = 54) ∨ b = 80) h0 h' ∧ qFr h' P L (99 * pR P) ∧ zI h' 52 4 = zI h0 52 4 := by
  intro k
  have hR := hP.1
  induction k with
  | zero =>
    intro r n h e hn f a k4
    obtain ⟨m, rfl, -⟩ := zq_suc hn
    have e2 : r = pR P := by omega
    subst e2
    refine ⟨h, ?_, f, a, k4⟩
    rw [s_X11_tellFits_L5, f.i (by omega), w.1, if_pos (nI_le (by omega) (by omega))]
  | succ k ih =>
    intro r n h e hn f a k4
    obtain ⟨m, rfl, hm⟩ := zq_suc hn
    obtain ⟨h1, e1, d1, f1, a1, k1⟩ := k_tf1 hP hL (r := r) (by omega) w s t (s_X11_tellFits_L5 m) 99 0 zfu h (by omega) (zq_fu (by omega)) (f.mo (fun b k e => by unfold zAj; omega)) a k4
    have f2 : zfr (fun b k => b = 69 ∨ b = 70 ∨ b = 78 ∨ (b = 52 ∧ 39 ≤ k ∧ k ≤ 41) ∨ (b = 52 ∧ k = 54) ∨ b = 80) h0 h1 := by
      obtain ⟨g1, g2, g3, g4, g5, g6, g7⟩ := f1
      refine ⟨g1, g2, g3, g4, g5, g6, fun b k n => ?_⟩
      by_cases q : b = 64 ∧ k = r
      · obtain ⟨rfl, rfl⟩ := q
        rw [d1, t.1 k (by omega)]
      · exact g7 b k (by unfold zAj; omega)
    obtain ⟨h2, e2, f3, a3, k3⟩ := ih (r + 1) m h1 (by omega) (by omega) f2 a1 k1
    refine ⟨h2, ?_, f3, a3, k3⟩
    rw [s_X11_tellFits_L5, f.i (by omega), w.1, if_neg (nI_ge (by omega) (by omega)), zq_ix (by omega) (by omega), f.i (by omega), t.1 r (by omega), show s_X11_tellFits_L18 (s_X11_tellFits_L5 m) zfu (nI r) (nI (lS L r)) 1 h = _ from e1]
    exact e2
theorem r_fitsM (w : zRel c h pp P L) : ∃ h', s_X11_tellFits h = some h' ∧ zfr (fun b k => b = 69 ∨ b = 70 ∨ b = 78 ∨ (b = 52 ∧ 39 ≤ k ∧ k ≤ 41) ∨ (b = 52 ∧ k = 54) ∨ b = 80) h h' ∧ qFr h' P L (99 * pR P) ∧ zI h' 52 4 = zI h 52 4 := by
  obtain ⟨-, sn, -⟩ := w.sn
  obtain ⟨w0, hP, hL, wC, wM, cC, cM, -⟩ := id w
  have f1 : zfr (fun b k => b = 52 ∧ k = 54) h (zwI h 52 54 0) := zfr.wI 52 54 _ ⟨rfl, rfl⟩
  obtain ⟨h2, e2, f2, a2, k2⟩ := k_tf2 hP hL wM sn cM.1 (pR P) 0 zfu (zwI h 52 54 0) (by omega) (zq_fu (by have := hP.1; omega)) (f1.mo (fun b k e => by omega)) ⟨by rw [zI_wI, if_pos rfl, if_pos rfl]; rfl, fun q hq => by omega⟩ (f1.i (by omega))
  refine ⟨h2, ?_, f2, a2, k2⟩
  rw [s_X11_tellFits, zlt_e]
  exact e2
theorem zAj_scr {h h' : zH} (f : zfr (fun b k => b = 69 ∨ b = 70 ∨ b = 78 ∨ (b = 52 ∧ 39 ≤ k ∧ k ≤ 41) ∨ (b = 52 ∧ k = 54) ∨ b = 80) h h') : zfr zScr h h' := f.mo (fun b k e => by unfold zScr; omega)
theorem c_strong (w : zRel c h pp P L) (x : Int32) : zCall c h pp P (s_L_strong pp x 90 1 h) (s_X11_strong x) := by
  show zCall c h pp P (zHa (s_X10_strong pp x h)) (s_X11_strong x)
  have hP := w.2.1
  have hR := hP.1
  have bad : (x < nI 0 ∨ nI 3 ≤ x) → zCall c h pp P (zHa (s_X10_strong pp x h)) (s_X11_strong x) := by
    intro hx
    refine zCall.i1 (v := nI 0) w (by rw [s_X10_strong, zq_3, n_wha0 hx, zbx_r]) (zAsk.fail (fun h w => ?_))
    rw [show (0 : Int64) = (nI 0).toInt64 from rfl, show (2 : Int64) = (nI 2).toInt64 from rfl, k_in0 (hx.imp id zq_lt3), ob_e, if_neg (by decide)]
    rfl
  rcases zq_any x 3 (by omega) with hx | hx | ⟨i, hi, rfl⟩
  · exact bad (Or.inl hx)
  · exact bad (Or.inr hx)
  · have gi : ∀ h, s_X11_isIn (nI i).toInt64 (0 : Int64) (2 : Int64) h = some (nI 1) := fun h => k_in1 (a := 0) (b := 2) (by omega) (by omega) (by omega) h
    obtain ⟨h1, e1, w1, q5, q6, q7, f1⟩ := r_srch w
    have bn := qFn_le P L (99 * pR P)
    have ex : s_X10_strong pp (nI i) h = (if nI i = 0 then (some (Sum.inl (zI h1 47 5), h1)) else if nI i = 1 then (some (Sum.inl (zI h1 47 6), h1)) else (if (zI h1 47 7) = 0 then (some (Sum.inl (0 : Int32), h1)) else (some (Sum.inl (1 : Int32), h1)))) := by
      rw [s_X10_strong, zq_3, n_wha1 hi (by omega), zbx_l, e1, ob_e]
    have e : i = 0 ∨ i = 1 ∨ i = 2 := by omega
    rcases e with e | e | e <;> subst e
    · refine zCall.of2 (v := nI (qFn P L (99 * pR P))) w1 f1 (by unfold zAz; omega) (zL_in (by rw [ex, if_pos (show nI 0 = 0 from rfl), q5])).1 (zAsk.go (fun h w k4 => ?_))
      obtain ⟨h2, e2, f2, a2, k2⟩ := r_fitsM w
      refine ⟨h2, ?_, k2.trans k4, zAj_scr f2⟩
      rw [gi, ob_e, if_pos (by decide), if_pos (by decide), e2, ob_e, if_neg (fun n => n rfl), a2.1]
    · refine zCall.of2 (v := qF1 P L (99 * pR P)) w1 f1 (by unfold zAz; omega) (zL_in (by rw [ex, if_neg (by decide), if_pos (show nI 1 = 1 from rfl), q6])).1 (zAsk.go (fun h w k4 => ?_))
      obtain ⟨h2, e2, f2, a2, k2⟩ := r_fitsM w
      refine ⟨h2, ?_, k2.trans k4, zAj_scr f2⟩
      rw [gi, ob_e, if_pos (by decide), if_pos (by decide), e2, ob_e, if_pos (by decide), a2.1]
      by_cases z : qFn P L (99 * pR P) = 0
      · rw [z, if_neg (fun n => n rfl)]
        unfold qF1
        rw [qF1_0 z, if_neg (Nat.lt_irrefl _)]
        rfl
      · rw [if_pos (nI_ne0 (by omega) (by omega))]
        have z1 := qF1_p z
        have z2 := a2.2 _ z1 (fa_first_yes _ _ z1)
        have z3 : qFn P L (fa_first (qFt P L) (99 * pR P)) = 0 := (fb_ct_zero (p := qFt P L)).mpr (fun k hk => fa_first_no _ _ k hk)
        rw [z3] at z2
        rw [z2]
        unfold qF1
        rw [if_pos z1]
    · refine zCall.of2 (v := nI (qAs P L (lS L)).toNat) w1 f1 (by unfold zAz; omega) (zL_in (by rw [ex, if_neg (by decide), if_neg (by decide), q7]; cases qAs P L (lS L) <;> rfl)).1 (zAsk.go (fun h w k4 => ?_))
      obtain ⟨-, sn, -⟩ := w.sn
      obtain ⟨w0, hP, hL, wC, wM, cC, cM, -⟩ := id w
      obtain ⟨h2, e2, k2, f2⟩ := k_iasM hP hL hL.1.1 wM sn cM.1
      refine ⟨h2, ?_, k2.trans k4, f2.mo (fun b k e => by unfold zScr; omega)⟩
      rw [gi, ob_e, if_pos (by decide), if_neg (fun n => n rfl), e2, zbd_e]
      cases qAs P L (lS L) <;> rfl
end ST
