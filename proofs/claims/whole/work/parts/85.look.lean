/-! ===== look in the class ===== -/
/-- nothing changes but some ints, and the longs of row 49 -/
def zfll (A : Nat → Nat → Prop) (h h' : zH) : Prop := zK h' = zK h ∧ zR h' = zR h ∧ (∀ a k, a ≠ 49 → zL h' a k = zL h a k) ∧ zX h' = zX h ∧ zc h' = zc h ∧ zs h' = zs h ∧ ∀ a k, ¬ A a k → zI h' a k = zI h a k
section LK
variable {A B : Nat → Nat → Prop} {c pp : Nat} {h h0 h1 h2 h4 : zH} {P : zPl} {L : zLg} {S T : Nat → Nat} {R : Nat}
theorem zfr.fl (f : zfr A h h1) : zfll A h h1 := by
  obtain ⟨a1, a2, a3, a4, a5, a6, a7⟩ := f
  exact ⟨a1, a2, fun a k _ => by rw [a3], a4, a5, a6, a7⟩
theorem zfll.rf (A : Nat → Nat → Prop) (h : zH) : zfll A h h := ⟨rfl, rfl, fun _ _ _ => rfl, rfl, rfl, rfl, fun _ _ _ => rfl⟩
theorem zfll.tr (f : zfll A h h1) (g : zfll A h1 h2) : zfll A h h2 := by
  obtain ⟨a1, a2, a3, a4, a5, a6, a7⟩ := f
  obtain ⟨b1, b2, b3, b4, b5, b6, b7⟩ := g
  exact ⟨b1.trans a1, b2.trans a2, fun a k q => (b3 a k q).trans (a3 a k q), b4.trans a4, b5.trans a5, b6.trans a6, fun a k q => (b7 a k q).trans (a7 a k q)⟩
theorem zfll.mo (f : zfll A h h1) (m : ∀ a k, A a k → B a k) : zfll B h h1 := by
  obtain ⟨a1, a2, a3, a4, a5, a6, a7⟩ := f
  exact ⟨a1, a2, a3, a4, a5, a6, fun a k q => a7 a k (fun w => q (m a k w))⟩
theorem zfll.sm (f : zfll A h h1) : zSm A h h1 := f.2.2.2.2.2.2
theorem zfll.i (f : zfll A h h1) {a k : Nat} (q : ¬ A a k) : zI h1 a k = zI h a k := f.2.2.2.2.2.2 a k q
theorem zfll.wL (h : zH) (k : Nat) (v : Int64) : zfll A h (zwL h 49 k v) := by
  refine ⟨rfl, rfl, fun a j n => ?_, rfl, rfl, rfl, fun _ _ _ => rfl⟩
  rw [zL_wL, if_neg n]
theorem zSen.sm (w : zSen h L) (f : zSm A h h1) (q : ∀ b k, (b = 18 ∧ k = 7) ∨ (25 ≤ b ∧ b ≤ 27) → ¬ A b k) : zSen h1 L := by
  obtain ⟨w1, w2⟩ := w
  refine ⟨?_, fun i hi => ⟨?_, ?_, ?_⟩⟩
  · rw [f _ _ (q _ _ (by omega))]; exact w1
  · rw [f _ _ (q _ _ (by omega))]; exact (w2 i hi).1
  · rw [f _ _ (q _ _ (by omega))]; exact (w2 i hi).2.1
  · rw [f _ _ (q _ _ (by omega))]; exact (w2 i hi).2.2
theorem k_fgt : ∀ k i n h, i + k = 1344 → k < n → ∃ h', s_X6_forgetMet_L2 n (nI i) h = some h' ∧ (∀ j, i ≤ j → j < 1344 → zL h' 49 j = 0) ∧ (∀ j, j < i → zL h' 49 j = zL h 49 j) ∧ zfll (fun _ _ => False) h h' := by
  intro k
  induction k with
  | zero =>
    intro i n h e hn
    obtain ⟨m, rfl, -⟩ := zq_suc hn
    refine ⟨h, ?_, fun j h1 h2 => by omega, fun _ _ => rfl, zfll.rf _ h⟩
    rw [s_X6_forgetMet_L2, zq_of, if_pos (nI_le (by omega) (by omega))]
  | succ k ih =>
    intro i n h e hn
    obtain ⟨m, rfl, hm⟩ := zq_suc hn
    obtain ⟨h2, e2, c1, c2, f2⟩ := ih (i + 1) m (zwL h 49 i 0) (by omega) (by omega)
    refine ⟨h2, ?_, fun j j1 j2 => ?_, fun j hj => ?_, (zfll.wL h i 0).tr f2⟩
    · rw [s_X6_forgetMet_L2, zq_of, if_neg (nI_ge (by omega) (by omega)), zq_ix (by omega) (by omega), zlt_e, show nI i + 1 = nI (i + 1) from nI_1 i]
      exact e2
    · by_cases q : j = i
      · rw [c2 j (by omega), zL_wL, if_pos rfl, if_pos q]
      · exact c1 j (by omega) j2
    · rw [c2 j (by omega), zL_wL, if_pos rfl, if_neg (by omega)]
/-- sets by day, as bits of the longs of row 49 -/
def zMt (h : zH) (M : Nat → Nat → Bool) : Prop := ∀ d, 1 ≤ d → d ≤ 20 → ∀ j, j < 64 → ∃ n, n < 2 ^ 64 ∧ zL h 49 (64 * d + j) = lN n ∧ ∀ i, i < 64 → n.testBit i = M d (64 * j + i)
theorem zMt.cg {M N : Nat → Nat → Bool} (w : zMt h M) (e : ∀ d s, 1 ≤ d → d ≤ 20 → s < 4096 → M d s = N d s) : zMt h N := by
  intro d d1 d2 j hj
  obtain ⟨n, n1, n2, n3⟩ := w d d1 d2 j hj
  exact ⟨n, n1, n2, fun i hi => by rw [n3 i hi]; exact e d _ d1 d2 (by omega)⟩
theorem zMt.fr {M : Nat → Nat → Bool} (w : zMt h M) (f : zfr A h h1) : zMt h1 M := by
  intro d d1 d2 j hj
  obtain ⟨n, n1, n2, n3⟩ := w d d1 d2 j hj
  exact ⟨n, n1, by rw [f.2.2.1]; exact n2, n3⟩
theorem k_meet1 {M : Nat → Nat → Bool} {d g : Nat} (d1 : 1 ≤ d) (d2 : d ≤ 20) (hg : g < 4096) (w : zMt h M) : ∃ n, zL h 49 (64 * d + g / 64) = lN n ∧ zMt (zwL h 49 (64 * d + g / 64) (lN n ||| ((1 : Int64) <<< ((nI (g % 64)).toInt64 &&& 63)))) (fun e s => M e s || (decide (e = d) && decide (s = g))) := by
  obtain ⟨n, n1, n2, n3⟩ := w d d1 d2 (g / 64) (by omega)
  have p1 : 1 * 2 ^ (g % 64) < 2 ^ 64 := by rw [Nat.one_mul]; exact Nat.pow_lt_pow_right (by omega) (by omega)
  refine ⟨n, n2, ?_⟩
  rw [show (1 : Int64) = lN 1 from rfl, wb_shl 1 (by omega), wb_or n1 p1, Nat.one_mul]
  rw [Nat.one_mul] at p1
  intro e e1 e2 j hj
  by_cases q : e = d ∧ j = g / 64
  · obtain ⟨rfl, rfl⟩ := q
    refine ⟨n ||| 2 ^ (g % 64), Nat.or_lt_two_pow n1 p1, ?_, fun i hi => ?_⟩
    · rw [zL_wL, if_pos rfl, if_pos rfl]
    · rw [fb_bit_set, n3 i hi]
      have z : decide (64 * (g / 64) + i = g) = decide (i = g % 64) := by
        rw [Bool.eq_iff_iff, decide_eq_true_eq, decide_eq_true_eq]
        omega
      show _ = (M e (64 * (g / 64) + i) || (decide (e = e) && decide (64 * (g / 64) + i = g)))
      rw [z, decide_eq_true rfl, Bool.true_and]
  · obtain ⟨m, m1, m2, m3⟩ := w e e1 e2 j hj
    refine ⟨m, m1, ?_, fun i hi => ?_⟩
    · rw [zL_wL, if_pos rfl, if_neg (by omega)]; exact m2
    · rw [m3 i hi]
      show _ = (M e (64 * j + i) || (decide (e = d) && decide (64 * j + i = g)))
      by_cases z : e = d
      · rw [decide_eq_false (show ¬ 64 * j + i = g by omega), Bool.and_false, Bool.or_false]
      · rw [decide_eq_false z, Bool.false_and, Bool.or_false]
theorem k_meet {G : Nat → Nat} (hG : ∀ j, j ≤ 20 → G j < 4096) : ∀ k d n h M, d + k = 21 → 1 ≤ d → k < n → (∀ j, j ≤ 20 → zI h 48 j = nI (G j)) → zMt h M → ∃ h', s_X6_meet_L2 n (nI d) h = some h' ∧ zMt h' (fun e s => M e s || (decide (d ≤ e) && decide (s = G e))) ∧ zfll (fun _ _ => False) h h' := by
  intro k
  induction k with
  | zero =>
    intro d n h M e d1 hn hg w
    obtain ⟨m, rfl, -⟩ := zq_suc hn
    have e2 : d = 21 := by omega
    subst e2
    refine ⟨h, ?_, w.cg (fun d s _ h2 _ => ?_), zfll.rf _ h⟩
    · rw [s_X6_meet_L2, if_pos (by decide)]
    · rw [decide_eq_false (show ¬ 21 ≤ d by omega), Bool.false_and, Bool.or_false]
  | succ k ih =>
    intro d n h M e d1 hn hg w
    obtain ⟨m, rfl, hm⟩ := zq_suc hn
    have g1 := hG d (by omega)
    have e1 : (nI d * (64 : Int32)) + (nI (G d) >>> ((6 : Int32) &&& 31)) = nI (64 * d + G d / 64) := by
      rw [show nI (G d) >>> ((6 : Int32) &&& 31) = nI (G d / 2 ^ 6) from zq_shr (r := 6) (by omega) (by omega), show nI d * (64 : Int32) = nI (d * 64) from pk_mul d 64, nI_add, Nat.mul_comm]
    have e3 : nI (G d) &&& (63 : Int32) = nI (G d % 64) := fa_mask (G d) 6
    obtain ⟨x, x1, x2⟩ := k_meet1 d1 (by omega) g1 w
    rw [s_X6_meet_L2, if_neg (show ¬ (20 : Int32) < nI d from nI_nlt (a := 20) (by omega) (by omega)), zq_ix (by omega) (by omega), hg d (by omega), e1, zq_ix (by omega) (by omega), zq_ix (by omega) (by omega), zq_ix (by omega) (by omega), zlt_e, hg d (by omega), e3, x1, show nI d + 1 = nI (d + 1) from nI_1 d]
    generalize hh : zwL h 49 (64 * d + G d / 64) (lN x ||| ((1 : Int64) <<< ((nI (G d % 64)).toInt64 &&& 63))) = h1 at x2 ⊢
    have f1 : zfll (fun _ _ => False) h h1 := by rw [← hh]; exact zfll.wL h _ _
    obtain ⟨h2, e2, w2, f2⟩ := ih (d + 1) m h1 _ (by omega) (by omega) (by omega) (fun j hj => by rw [f1.i (fun n => n)]; exact hg j hj) x2
    refine ⟨h2, e2, w2.cg (fun x s _ _ _ => ?_), f1.tr f2⟩
    by_cases q : x = d
    · rw [q, decide_eq_true (show d = d from rfl), decide_eq_false (show ¬ d + 1 ≤ d by omega), decide_eq_true (Nat.le_refl d), Bool.true_and, Bool.false_and, Bool.or_false]
    · have z : decide (d + 1 ≤ x) = decide (d ≤ x) := by
        rw [Bool.eq_iff_iff, decide_eq_true_eq, decide_eq_true_eq]
        omega
      rw [decide_eq_false q, Bool.false_and, Bool.or_false, z]
theorem qUs_s (P : zPl) (L : zLg) (d q s : Nat) : qUs P L d (q + 1) s = (qUs P L d q s || (qFt P L q && decide (qGo (qIt P (qSb (lS L) q) d) (pR P) = s))) := by
  rw [Bool.eq_iff_iff, Bool.or_eq_true, Bool.and_eq_true]
  unfold qUs
  rw [decide_eq_true_eq, decide_eq_true_eq, decide_eq_true_eq]
  constructor
  · intro ⟨p, h1, h2, h3⟩
    by_cases e : p = q
    · subst e; exact Or.inr ⟨h2, h3⟩
    · exact Or.inl ⟨p, by omega, h2, h3⟩
  · intro g
    rcases g with ⟨p, h1, h2, h3⟩ | ⟨h2, h3⟩
    · exact ⟨p, by omega, h2, h3⟩
    · exact ⟨q, by omega, h2, h3⟩
theorem k_cd1 (hp : pp = 2 ∨ pp = 9) (hP : pOk P) (hL : lOk (pR P) L) {r : Nat} (hr : r < pR P) (K : Int32 → zH → Option zH) : ∀ k v n h, v + k = 99 → k < n → zPC h pp P → zSen h L → zSC h 19 (pR P) (lS L) → zMt h (fun d s => qUs P L d (99 * r + v) s) → ∃ h', s_X6_compareDays_L14 pp 18 K n (nI r) (nI (v + 1)) h = K (nI (r + 1)) h' ∧ zMt h' (fun d s => qUs P L d (99 * (r + 1)) s) ∧ zfll zAfi h h' := by
  intro k
  have hR := hP.1
  induction k with
  | zero =>
    intro v n h e hn w s t a
    obtain ⟨m, rfl, -⟩ := zq_suc hn
    have e2 : v = 99 := by omega
    subst e2
    refine ⟨h, ?_, ?_, zfll.rf _ h⟩
    · rw [s_X6_compareDays_L14, if_pos (by decide), show nI r + 1 = nI (r + 1) from nI_1 r]
    · rw [show 99 * (r + 1) = 99 * r + 99 by omega]; exact a
  | succ k ih =>
    intro v n h e hn w s t a
    obtain ⟨m, rfl, hm⟩ := zq_suc hn
    have hv : v < 99 := by omega
    have bs := hL.1.1.1 r hr
    have ft := qFt_at P L (r := r) hv
    rw [s_X6_compareDays_L14, if_neg (show ¬ (99 : Int32) < nI (v + 1) from nI_nlt (a := 99) (by omega) (by omega)), zq_ix (by omega) (by omega), show zI h (18 + 2) r = nI (lS L r) from t.1 r hr, show nI (v + 1) + 1 = nI (v + 1 + 1) from nI_1 _]
    by_cases q : v + 1 = lS L r
    · rw [if_pos (by rw [q])]
      have z : qFt P L (99 * r + v) = false := by rw [ft, decide_eq_false (by omega), Bool.false_and]
      exact ih (v + 1) m h (by omega) (by omega) w s t (a.cg (fun d s _ _ _ => by rw [show 99 * r + (v + 1) = 99 * r + v + 1 by omega, qUs_s, z, Bool.false_and, Bool.or_false]))
    · rw [if_neg (fun e => q ((nI_eq (by omega) (by omega)).mp e))]
      obtain ⟨h1, e1, g1, f1⟩ := k_fit1 hp hP hL (D := 20) (Nat.le_refl _) hr (v := v + 1) (by omega) w s t
      rw [qUp_as (fun i hi => Nat.lt_succ_of_le ((hL.2.2.2.2 i hi).2.1))] at e1 g1
      rw [decide_eq_true q, Bool.true_and] at ft
      rw [← ft] at e1 g1
      rw [show s_X6_fits pp 18 (nI r) (nI (v + 1)) 20 h = _ from e1, zbd_e]
      have w1 : zPC h1 pp P := w.fr f1 (fun b k _ _ => by unfold zAfi; omega)
      have s1 : zSen h1 L := s.fr f1 (fun b k e => by unfold zAfi; omega)
      have t1 : zSC h1 19 (pR P) (lS L) := t.fr f1 (fun b k _ _ => by unfold zAfi; omega)
      have a1 := a.fr f1
      cases hq : qFt P L (99 * r + v) with
      | false =>
        rw [if_pos (show nI false.toNat = 0 from rfl)]
        obtain ⟨h2, e2, c1, f2⟩ := ih (v + 1) m h1 (by omega) (by omega) w1 s1 t1 (a1.cg (fun d s _ _ _ => by rw [show 99 * r + (v + 1) = 99 * r + v + 1 by omega, qUs_s, hq, Bool.false_and, Bool.or_false]))
        exact ⟨h2, e2, c1, f1.fl.tr f2⟩
      | true =>
        rw [if_neg (by decide)]
        obtain ⟨h2, e2, c2, f2⟩ := k_meet (G := fun j => qGo (qIt P (zu (lS L) r (v + 1)) j) (pR P)) (fun j _ => qGo_l _ hR) 20 1 zfu h1 _ (by omega) (by omega) (zq_fu (by omega)) (g1 hq) a1
        rw [s_X6_meet, show s_X6_meet_L2 zfu 1 h1 = some h2 from e2, ob_e]
        obtain ⟨h3, e3, c3, f3⟩ := ih (v + 1) m h2 (by omega) (by omega) (w1.sm f2.sm (fun b k _ _ n => n)) (s1.sm f2.sm (fun b k _ n => n)) (t1.sm f2.sm (fun b k _ _ n => n)) (c2.cg (fun d s d1 _ _ => by
          rw [show 99 * r + (v + 1) = 99 * r + v + 1 by omega, qUs_s, hq, Bool.true_and, qSb_at _ hv, decide_eq_true d1, Bool.true_and]
          congr 1
          rw [Bool.eq_iff_iff, decide_eq_true_eq, decide_eq_true_eq]
          exact ⟨fun e => e.symm, fun e => e.symm⟩))
        exact ⟨h3, e3, c3, (f1.fl.tr (f2.mo (fun b k e => e.elim))).tr f3⟩
theorem k_cdS {M : Nat → Nat → Bool} {d : Nat} (d1 : 1 ≤ d) (d2 : d ≤ 20) (w : zMt h M) (K : Int32 → zH → Option zH) : ∀ k j n, j + k = 64 → k < n → s_X6_chooseDay_L17 K n (nI d) (nI (fb_ct (M d) (64 * j))) (nI (64 * d + j)) h = s_X6_chooseDay_L17 K 1 (nI d) (nI (fb_ct (M d) 4096)) (nI (64 * d + 64)) h := by
  intro k
  have el : ((nI d + (1 : Int32)) * (64 : Int32)) = nI (64 * d + 64) := by
    rw [show nI d + 1 = nI (d + 1) from nI_1 d, show nI (d + 1) * (64 : Int32) = nI ((d + 1) * 64) from pk_mul _ _, show (d + 1) * 64 = 64 * d + 64 by omega]
  induction k with
  | zero =>
    intro j n e hn
    obtain ⟨m, rfl, -⟩ := zq_suc hn
    have e2 : j = 64 := by omega
    subst e2
    rw [s_X6_chooseDay_L17, s_X6_chooseDay_L17, el, if_pos (nI_le (by omega) (by omega)), if_pos (nI_le (by omega) (by omega))]
  | succ k ih =>
    intro j n e hn
    obtain ⟨m, rfl, hm⟩ := zq_suc hn
    obtain ⟨x, x1, x2, x3⟩ := w d d1 d2 j (by omega)
    have ih1 := ih (j + 1) m (by omega) (by omega)
    have es : fb_ct (M d) (64 * (j + 1)) = fb_ct (M d) (64 * j) + fb_ct (fun i => x.testBit i) 64 := by
      rw [show 64 * (j + 1) = 64 * j + 64 by omega, fb_ct_split]
      congr 1
      exact fb_ct_cong (fun i hi => (x3 i hi).symm)
    rw [es, show 64 * d + (j + 1) = 64 * d + j + 1 by omega] at ih1
    rw [s_X6_chooseDay_L17, el, if_neg (nI_ge (by omega) (by omega)), zq_ix (by omega) (by omega), x2, k_bc64 x1, ob_e, nI_add, show nI (64 * d + j) + 1 = nI (64 * d + j + 1) from nI_1 _]
    exact ih1
theorem qLk_le (P : zPl) (L : zLg) : ∀ d, (qLk P L d).2 ≤ 4096 := by
  intro d
  induction d with
  | zero => exact Nat.zero_le _
  | succ d ih =>
    rw [qLk]
    split
    · exact fb_ct_le _ 4096
    · exact ih
theorem k_cdD (w : zMt h0 (fun d s => qUs P L d (99 * pR P) s)) : ∀ k d n h, d + k = 20 → k < n → zL h = zL h0 → zI h 47 9 = (qLk P L d).1 → zI h 47 10 = nI (qLk P L d).2 → ∃ h', s_X6_chooseDay_L8 n (nI (d + 1)) h = some h' ∧ zI h' 47 9 = (qLk P L 20).1 ∧ zI h' 47 10 = nI (qLk P L 20).2 ∧ zfr (fun b k => b = 47 ∧ 9 ≤ k ∧ k ≤ 10) h h' := by
  intro k
  induction k with
  | zero =>
    intro d n h e hn _ a1 a2
    obtain ⟨m, rfl, -⟩ := zq_suc hn
    have e2 : d = 20 := by omega
    subst e2
    refine ⟨h, ?_, a1, a2, zfr.rf _ h⟩
    rw [s_X6_chooseDay_L8, if_pos (by decide)]
  | succ k ih =>
    intro d n h e hn l0 a1 a2
    obtain ⟨m, rfl, hm⟩ := zq_suc hn
    have wt : zMt h (fun d s => qUs P L d (99 * pR P) s) := by
      intro d d1 d2 j hj
      rw [l0]; exact w d d1 d2 j hj
    have k1 := k_cdS (d := d + 1) (by omega) (by omega) wt (s_X6_chooseDay_L8 m) 64 0 zfu (by omega) (zq_fu (by omega))
    have bu : qUn P L (d + 1) ≤ 4096 := fb_ct_le _ 4096
    have bl := qLk_le P L d
    have el : ((nI (d + 1) + (1 : Int32)) * (64 : Int32)) = nI (64 * (d + 1) + 64) := by
      rw [show nI (d + 1) + 1 = nI (d + 1 + 1) from nI_1 _, show nI (d + 1 + 1) * (64 : Int32) = nI ((d + 1 + 1) * 64) from pk_mul _ _, show (d + 1 + 1) * 64 = 64 * (d + 1) + 64 by omega]
    rw [s_X6_chooseDay_L8, if_neg (show ¬ (20 : Int32) < nI (d + 1) from nI_nlt (a := 20) (by omega) (by omega)), show nI (d + 1) * (64 : Int32) = nI (64 * (d + 1) + 0) by rw [Nat.add_zero, Nat.mul_comm]; exact pk_mul _ _, show s_X6_chooseDay_L17 (s_X6_chooseDay_L8 m) zfu (nI (d + 1)) 0 (nI (64 * (d + 1) + 0)) h = _ from k1, s_X6_chooseDay_L17, el, if_pos (nI_le (by omega) (by omega)), a2, show fb_ct ((fun d s => qUs P L d (99 * pR P) s) (d + 1)) 4096 = qUn P L (d + 1) from rfl, show nI (d + 1) + 1 = nI (d + 1 + 1) from nI_1 _]
    have es : qLk P L (d + 1) = if (qLk P L d).2 < qUn P L (d + 1) then (nI (d + 1), qUn P L (d + 1)) else qLk P L d := by rw [qLk]
    by_cases q : (qLk P L d).2 < qUn P L (d + 1)
    · rw [if_pos q] at es
      rw [if_neg (nI_ge q (by omega)), zlt_e, zlt_e]
      have f1 : zfr (fun b k => b = 47 ∧ 9 ≤ k ∧ k ≤ 10) h (zwI (zwI h 47 10 (nI (qUn P L (d + 1)))) 47 9 (nI (d + 1))) := (zfr.wI 47 10 _ (by omega)).w 47 9 _ (by omega)
      have c1 : zI (zwI (zwI h 47 10 (nI (qUn P L (d + 1)))) 47 9 (nI (d + 1))) 47 9 = nI (d + 1) := by rw [zI_wI, if_pos rfl, if_pos rfl]
      have c2 : zI (zwI (zwI h 47 10 (nI (qUn P L (d + 1)))) 47 9 (nI (d + 1))) 47 10 = nI (qUn P L (d + 1)) := by rw [zI_wI, if_pos rfl, if_neg (by decide), zI_wI, if_pos rfl, if_pos rfl]
      generalize zwI (zwI h 47 10 (nI (qUn P L (d + 1)))) 47 9 (nI (d + 1)) = h1 at f1 c1 c2 ⊢
      obtain ⟨h2, e2, b1, b2, f2⟩ := ih (d + 1) m h1 (by omega) (by omega) (f1.2.2.1.trans l0) (by rw [c1, es]) (by rw [c2, es])
      exact ⟨h2, e2, b1, b2, f1.tr f2⟩
    · rw [if_neg q] at es
      rw [if_pos (nI_le (by omega) (by omega))]
      exact ih (d + 1) m h (by omega) (by omega) l0 (by rw [a1, es]) (by rw [a2, es])
theorem k_cd2 (hp : pp = 2 ∨ pp = 9) (hP : pOk P) (hL : lOk (pR P) L) : ∀ k r n h, r + k = pR P → k < n → zPC h pp P → zSen h L → zSC h 19 (pR P) (lS L) → zMt h (fun d s => qUs P L d (99 * r) s) → ∃ h', s_X6_compareDays_L8 pp 18 n (nI r) h = some h' ∧ zI h' 47 8 = nI 1 ∧ zI h' 47 9 = (qLk P L 20).1 ∧ zI h' 47 10 = nI (qLk P L 20).2 ∧ zfll (fun b k => zAfi b k ∨ (b = 47 ∧ 8 ≤ k ∧ k ≤ 10)) h h' := by
  intro k
  have hR := hP.1
  induction k with
  | zero =>
    intro r n h e hn w s t a
    obtain ⟨m, rfl, -⟩ := zq_suc hn
    have e2 : r = pR P := by omega
    subst e2
    have f1 : zfr (fun b k => b = 47 ∧ 9 ≤ k ∧ k ≤ 10) h (zwI (zwI h 47 9 (-1)) 47 10 0) := (zfr.wI 47 9 _ (by omega)).w 47 10 _ (by omega)
    have c1 : zI (zwI (zwI h 47 9 (-1)) 47 10 0) 47 9 = (qLk P L 0).1 := by rw [zI_wI, if_pos rfl, if_neg (by decide), zI_wI, if_pos rfl, if_pos rfl, qLk]; rfl
    have c2 : zI (zwI (zwI h 47 9 (-1)) 47 10 0) 47 10 = nI (qLk P L 0).2 := by rw [zI_wI, if_pos rfl, if_pos rfl, qLk]; rfl
    rw [s_X6_compareDays_L8, w.1, if_pos (nI_le (by omega) (by omega)), s_X6_chooseDay, zlt_e, zlt_e]
    generalize zwI (zwI h 47 9 (-1)) 47 10 0 = h1 at f1 c1 c2 ⊢
    obtain ⟨h2, e2, b1, b2, f2⟩ := k_cdD a 20 0 zfu h1 (by omega) (zq_fu (by omega)) f1.2.2.1 c1 c2
    rw [show s_X6_chooseDay_L8 zfu 1 h1 = some h2 from e2, ob_e, zlt_e]
    refine ⟨_, rfl, ?_, ?_, ?_, ?_⟩
    · rw [zI_wI, if_pos rfl, if_pos rfl]; rfl
    · rw [zI_wI, if_pos rfl, if_neg (by decide)]; exact b1
    · rw [zI_wI, if_pos rfl, if_neg (by decide)]; exact b2
    · exact (((f1.tr f2).mo (fun b k e => Or.inr (by omega))).w 47 8 _ (Or.inr (by omega))).fl
  | succ k ih =>
    intro r n h e hn w s t a
    obtain ⟨m, rfl, hm⟩ := zq_suc hn
    rw [s_X6_compareDays_L8, w.1, if_neg (nI_ge (by omega) (by omega))]
    obtain ⟨h1, e1, a1, f1⟩ := k_cd1 hp hP hL (r := r) (by omega) (s_X6_compareDays_L8 pp 18 m) 99 0 zfu h (by omega) (zq_fu (by omega)) w s t a
    obtain ⟨h2, e2, c1, c2, c3, f2⟩ := ih (r + 1) m h1 (by omega) (by omega) (w.sm f1.sm (fun b k _ _ => by unfold zAfi; omega)) (s.sm f1.sm (fun b k e => by unfold zAfi; omega)) (t.sm f1.sm (fun b k _ _ => by unfold zAfi; omega)) a1
    refine ⟨h2, ?_, c1, c2, c3, (f1.mo (fun b k e => Or.inl e)).tr f2⟩
    rw [show s_X6_compareDays_L14 pp 18 (s_X6_compareDays_L8 pp 18 m) zfu (nI r) 1 h = _ from e1]
    exact e2
theorem r_cmp (w : zRel c h pp P L) : ∃ h1, s_X6_compareDays pp 18 h = some h1 ∧ zRel c h1 pp P L ∧ zI h1 47 9 = (qLk P L 20).1 ∧ zI h1 47 10 = nI (qLk P L 20).2 ∧ zfll (fun b k => zAfi b k ∨ (b = 47 ∧ 8 ≤ k ∧ k ≤ 10)) h h1 := by
  obtain ⟨sn, -, sc⟩ := w.sn
  obtain ⟨w0, hP, hL, wC, wM, cC, cM, wa, -⟩ := id w
  rw [s_X6_compareDays]
  rcases wa.2.2 with q | ⟨q, q9, q10⟩
  · rw [if_pos (show zI h 47 8 = 0 from q), s_X6_forgetMet]
    obtain ⟨h1, e1, l1, -, f1⟩ := k_fgt 1344 0 zfu h (by omega) (zq_fu (by omega))
    rw [show s_X6_forgetMet_L2 zfu 0 h = some h1 from e1, ob_e]
    obtain ⟨h2, e2, c1, c2, c3, f2⟩ := k_cd2 w0 hP hL (pR P) 0 zfu h1 (by omega) (zq_fu (by have := hP.1; omega)) (wC.sm f1.sm (fun b k _ _ n => n)) (sn.sm f1.sm (fun b k _ n => n)) (sc.sm f1.sm (fun b k _ _ n => n)) (fun d d1 d2 j hj => ⟨0, by omega, l1 _ (by omega) (by omega), fun i hi => by
      rw [Nat.zero_testBit]
      symm
      apply decide_eq_false
      intro ⟨p, p1, _⟩
      omega⟩)
    have f9 : zfll (fun b k => zAfi b k ∨ (b = 47 ∧ 8 ≤ k ∧ k ≤ 10)) h h2 := (f1.mo (fun b k e => e.elim)).tr f2
    refine ⟨h2, e2, ?_, c2, c3, f9⟩
    refine w.ca (f9.mo (fun b k e => by unfold zAfi at e; unfold zAc zScr; omega)).sm ⟨?_, ?_, Or.inr ⟨c1, c2, c3⟩⟩
    · rw [f9.i (by unfold zAfi; omega)]
      rcases wa.1 with x | x
      · exact Or.inl x
      · exact Or.inr ⟨x.1, x.2.sm f9.sm (fun b k e => by unfold zAfi; omega)⟩
    · rw [f9.i (by unfold zAfi; omega), f9.i (by unfold zAfi; omega), f9.i (by unfold zAfi; omega), f9.i (by unfold zAfi; omega)]; exact wa.2.1
  · rw [if_neg (show ¬ zI h 47 8 = 0 by rw [q]; decide)]
    exact ⟨h, rfl, w, q9, q10, zfll.rf _ h⟩
end LK
