/-! ===== what was seen ===== -/
/-- the latest day of the first n that are seen -/
def qLd (L : zLg) : Nat → Nat
  | 0 => 0
  | i + 1 => if qLd L i < ld L i then ld L i else qLd L i
theorem qLd_in (L : zLg) : ∀ n i, i < n → ld L i ≤ qLd L n := by
  intro n
  induction n with
  | zero => intro i hi; omega
  | succ n ih =>
    intro i hi
    rw [qLd]
    by_cases e : i = n
    · subst e
      split <;> omega
    · have := ih i (by omega)
      split <;> omega
theorem qLd_le {L : zLg} : ∀ n, (∀ i, i < n → ld L i ≤ 20) → qLd L n ≤ 20 := by
  intro n
  induction n with
  | zero => intro _; rw [qLd]; omega
  | succ n ih =>
    intro h
    have h1 := ih (fun i hi => h i (by omega))
    have h2 := h n (by omega)
    rw [qLd]
    split <;> omega
/-- what was seen of day d, of the first n, is so in T -/
def qAd (L : zLg) (T : Nat → Nat) (d n : Nat) : Bool := decide (∀ i, i < n → ld L i = d → (T (lr L i) = 0 ↔ lg L i = 1))
/-- all that was seen of the days ahead of d is so -/
def qUp (P : zPl) (L : zLg) (T : Nat → Nat) (d : Nat) : Bool := decide (∀ i, i < lm L → ld L i < d → (qIt P T (ld L i) (lr L i) = 0 ↔ lg L i = 1))
theorem qUp_0 (P : zPl) (L : zLg) (T : Nat → Nat) : qUp P L T 0 = true := decide_eq_true (fun i _ h => absurd h (Nat.not_lt_zero _))
theorem qUp_s (P : zPl) (L : zLg) (T : Nat → Nat) (d : Nat) : qUp P L T (d + 1) = (qUp P L T d && qAd L (qIt P T d) d (lm L)) := by
  rw [Bool.eq_iff_iff, Bool.and_eq_true]
  unfold qUp qAd
  rw [decide_eq_true_eq, decide_eq_true_eq, decide_eq_true_eq]
  constructor
  · intro h
    refine ⟨fun i hi hd => h i hi (by omega), fun i hi hd => ?_⟩
    have := h i hi (by omega)
    rw [hd] at this
    exact this
  · intro h i hi hd
    by_cases e : ld L i = d
    · have := h.2 i hi e
      rw [e]
      exact this
    · exact h.1 i hi (by omega)
theorem qUp_mo {P : zPl} {L : zLg} {T : Nat → Nat} {d e : Nat} (h : d ≤ e) (q : qUp P L T d = false) : qUp P L T e = false := by
  cases hq : qUp P L T e with
  | false => rfl
  | true =>
    unfold qUp at hq q
    rw [decide_eq_true_eq] at hq
    have : decide (∀ i, i < lm L → ld L i < d → (qIt P T (ld L i) (lr L i) = 0 ↔ lg L i = 1)) = true := decide_eq_true (fun i hi hd => hq i hi (by omega))
    rw [this] at q
    cases q
theorem qUp_as {P : zPl} {L : zLg} {T : Nat → Nat} {d : Nat} (h : ∀ i, i < lm L → ld L i < d) : qUp P L T d = qAs P L T := by
  rw [Bool.eq_iff_iff]
  unfold qUp qAs
  rw [decide_eq_true_eq, decide_eq_true_eq]
  exact ⟨fun w i hi => w i hi (h i hi), fun w i hi _ => w i hi⟩
theorem qAd_s (L : zLg) (T : Nat → Nat) (d n : Nat) : qAd L T d (n + 1) = (qAd L T d n && decide (ld L n = d → (T (lr L n) = 0 ↔ lg L n = 1))) := by
  rw [Bool.eq_iff_iff, Bool.and_eq_true]
  unfold qAd
  rw [decide_eq_true_eq, decide_eq_true_eq, decide_eq_true_eq]
  constructor
  · intro h
    exact ⟨fun i hi => h i (by omega), h n (by omega)⟩
  · intro h i hi
    by_cases e : i = n
    · subst e; exact h.2
    · exact h.1 i (by omega)
/-- what is seen lies in the class, in the reference -/
def zSen (h : zH) (L : zLg) : Prop := zI h 18 7 = nI (lm L) ∧ ∀ i, i < lm L → zI h 25 i = nI (lr L i) ∧ zI h 26 i = nI (ld L i) ∧ zI h 27 i = nI (lg L i)
def zSenM (h : zH) (L : zLg) : Prop := zI h 52 36 = nI (lm L) ∧ ∀ i, i < lm L → zI h 76 i = nI (lr L i) ∧ zI h 77 i = nI (ld L i) ∧ zI h 79 i = nI (lg L i)
section SE
variable {A : Nat → Nat → Prop} {c pp : Nat} {h h1 : zH} {P : zPl} {L : zLg} {S T : Nat → Nat} {R : Nat}
theorem zSen.fr (w : zSen h L) (f : zfr A h h1) (q : ∀ b k, (b = 18 ∧ k = 7) ∨ (25 ≤ b ∧ b ≤ 27) → ¬ A b k) : zSen h1 L := by
  obtain ⟨w1, w2⟩ := w
  refine ⟨?_, fun i hi => ⟨?_, ?_, ?_⟩⟩
  · rw [f.i (q _ _ (by omega))]; exact w1
  · rw [f.i (q _ _ (by omega))]; exact (w2 i hi).1
  · rw [f.i (q _ _ (by omega))]; exact (w2 i hi).2.1
  · rw [f.i (q _ _ (by omega))]; exact (w2 i hi).2.2
theorem zSenM.fr (w : zSenM h L) (f : zfr A h h1) (q : ∀ b k, (b = 52 ∧ k = 36) ∨ b = 76 ∨ b = 77 ∨ b = 79 → ¬ A b k) : zSenM h1 L := by
  obtain ⟨w1, w2⟩ := w
  refine ⟨?_, fun i hi => ⟨?_, ?_, ?_⟩⟩
  · rw [f.i (q _ _ (by omega))]; exact w1
  · rw [f.i (q _ _ (by omega))]; exact (w2 i hi).1
  · rw [f.i (q _ _ (by omega))]; exact (w2 i hi).2.1
  · rw [f.i (q _ _ (by omega))]; exact (w2 i hi).2.2
theorem k_lsd (hL : lOk R L) (w : zSen h L) : ∀ k i n, i + k = lm L → k < n → s_X6_lastSeenDay_L4 18 n (nI (qLd L i)) (nI i) h = some (nI (qLd L (lm L))) := by
  intro k
  obtain ⟨w1, w2⟩ := w
  have l8 := hL.2.2.2.1
  have l5 := hL.2.2.2.2
  induction k with
  | zero =>
    intro i n e hn
    obtain ⟨m, rfl, -⟩ := zq_suc hn
    have e2 : i = lm L := by omega
    rw [s_X6_lastSeenDay_L4, w1, if_pos (nI_le (by omega) (by omega)), e2]
  | succ k ih =>
    intro i n e hn
    obtain ⟨m, rfl, hm⟩ := zq_suc hn
    have hi : i < lm L := by omega
    have b1 := qLd_le i (fun j hj => (l5 j (by omega)).2.1)
    have b2 := (l5 i hi).2.1
    have ih1 := ih (i + 1) m (by omega) (by omega)
    rw [qLd] at ih1
    rw [s_X6_lastSeenDay_L4, w1, if_neg (nI_ge hi (by omega)), zq_ix (by omega) (by omega), show zI h (18 + 8) i = nI (ld L i) from (w2 i hi).2.1, k_max2 (by omega) (by omega), ob_e, show nI i + 1 = nI (i + 1) from nI_1 i]
    exact ih1
/-- the bit of a rib that is gone -/
theorem q_gobit {R r : Nat} (hR : R ≤ 12) (hr : r < R) : (nI (qGo T R) >>> (nI r &&& 31)) &&& (1 : Int32) = nI (if T r = 0 then 1 else 0) := by
  have hb := qGo_l T hR
  rw [show (nI (qGo T R) >>> (nI r &&& 31)) &&& (1 : Int32) = nI ((qGo T R).testBit r).toNat from zq_bit (by omega) (by omega), qGo_tb]
  by_cases q : T r = 0
  · simp [q, hr]
  · simp [q, hr]
theorem k_ias (hR : R ≤ 12) (hL : lOk R L) (w : zSen h L) {d : Nat} (hd : d ≤ 20) (hg : zI h 48 d = nI (qGo T R)) : ∀ k i n, i + k = lm L → k < n → qAd L T d i = true → s_X6_isAsSeen_L2 18 n (nI d) (nI i) h = some (nI (qAd L T d (lm L)).toNat) := by
  intro k
  obtain ⟨w1, w2⟩ := w
  have l8 := hL.2.2.2.1
  have l5 := hL.2.2.2.2
  induction k with
  | zero =>
    intro i n e hn ha
    obtain ⟨m, rfl, -⟩ := zq_suc hn
    have e2 : i = lm L := by omega
    rw [s_X6_isAsSeen_L2, w1, if_pos (nI_le (by omega) (by omega)), ← e2, ha]
    rfl
  | succ k ih =>
    intro i n e hn ha
    obtain ⟨m, rfl, hm⟩ := zq_suc hn
    have hi : i < lm L := by omega
    obtain ⟨b1, b2, b3⟩ := l5 i hi
    obtain ⟨v1, v2, v3⟩ := w2 i hi
    have ih1 := ih (i + 1) m (by omega) (by omega)
    rw [qAd_s, ha, Bool.true_and] at ih1
    have no : ¬ (ld L i = d → (T (lr L i) = 0 ↔ lg L i = 1)) → qAd L T d (lm L) = false := by
      intro n
      apply decide_eq_false
      intro q
      exact n (q i hi)
    have hj : ∀ s : Nat, s ≤ 1 → (s = 1 ↔ T (lr L i) = 0) → s_X6_isAsSeen_J22 18 (s_X6_isAsSeen_L2 18 m) (nI d) (nI i) (nI s) h = some (nI (qAd L T d (lm L)).toNat) := by
      intro s hs es
      rw [s_X6_isAsSeen_J22, zq_ix (by omega) (by omega), show zI h (18 + 8) i = nI (ld L i) from v2, show nI i + 1 = nI (i + 1) from nI_1 i]
      by_cases q : ld L i = d
      · rw [if_neg (fun n => n (by rw [q])), zq_ix (by omega) (by omega), show zI h (18 + 9) i = nI (lg L i) from v3]
        by_cases q2 : lg L i = s
        · rw [if_pos (by rw [q2])]
          exact ih1 (decide_eq_true (fun _ => by rw [q2]; exact es.symm))
        · rw [if_neg (fun e => q2 ((nI_eq (by omega) (by omega)).mp e)), no (fun g => by
            have g := g q
            omega)]
          rfl
      · rw [if_pos (fun e => q ((nI_eq (by omega) (by omega)).mp e))]
        exact ih1 (decide_eq_true (fun e => absurd e q))
    rw [s_X6_isAsSeen_L2, w1, if_neg (nI_ge hi (by omega)), zq_ix (by omega) (by omega), zq_ix (by omega) (by omega), hg, show zI h (18 + 7) i = nI (lr L i) from v1, q_gobit hR b1]
    by_cases q : T (lr L i) = 0
    · rw [if_pos q, if_neg (by decide)]
      exact hj 1 (by omega) (by omega)
    · rw [if_neg q, if_pos (by decide)]
      exact hj 0 (by omega) (by omega)
theorem zrt_b (b : Bool) (h : zH) : zrt 1 (nI b.toNat) h = some (nI b.toNat, h) := by cases b <;> rfl
def zAfi : Nat → Nat → Prop := fun b _ => (30 ≤ b ∧ b ≤ 38) ∨ b = 48
theorem k_fit_L (hp : pp = 2 ∨ pp = 9) (hP : pOk P) (hL : lOk (pR P) L) (ho : sOk (pR P) T) {D : Nat} (hD : D ≤ 20) : ∀ k d n h, d + k = D → k < n → zPC h pp P → zSen h L → zSC h 30 (pR P) (qIt P T d) → (∀ j, j ≤ d → zI h 48 j = nI (qGo (qIt P T j) (pR P))) → ∃ h', s_X6_fits_L33 pp 18 n (nI D) (nI (qUp P L T (d + 1)).toNat) (nI (d + 1)) h = some (nI (qUp P L T (D + 1)).toNat, h') ∧ (qUp P L T (D + 1) = true → ∀ j, j ≤ D → zI h' 48 j = nI (qGo (qIt P T j) (pR P))) ∧ zfr zAfi h h' := by
  intro k
  have hR := hP.1
  induction k with
  | zero =>
    intro d n h e hn w s t g
    obtain ⟨m, rfl, -⟩ := zq_suc hn
    have e2 : d = D := by omega
    subst e2
    refine ⟨h, ?_, fun _ => g, zfr.rf _ h⟩
    rw [s_X6_fits_L33]
    by_cases q : nI (qUp P L T (d + 1)).toNat = 0
    · rw [if_pos q]; exact zrt_b _ _
    · rw [if_neg q, if_pos (nI_lt (by omega) (by omega))]; exact zrt_b _ _
  | succ k ih =>
    intro d n h e hn w s t g
    obtain ⟨m, rfl, hm⟩ := zq_suc hn
    rw [s_X6_fits_L33]
    cases hu : qUp P L T (d + 1) with
    | false =>
      have := qUp_mo (e := D + 1) (by omega) hu
      rw [if_pos (show nI false.toNat = 0 from rfl), this]
      exact ⟨h, zrt_b false h, (fun n => by cases n), zfr.rf _ h⟩
    | true =>
      rw [if_neg (by decide), if_neg (nI_nlt (by omega) (by omega)), if_neg (show ¬ (20 : Int32) < nI (d + 1) from nI_nlt (a := 20) (by omega) (by omega))]
      obtain ⟨h1, e1, s1, -, f1⟩ := k_pass (Or.inr rfl) hp hP w t (qIt_ok hP ho d)
      have w1 : zPC h1 pp P := w.fr f1 (fun b k _ _ => by unfold zAd; omega)
      have s1 : zSC h1 30 (pR P) (qIt P T (d + 1)) := s1
      have b1 := qGo_l (qIt P T (d + 1)) hR
      rw [e1, zbd_e, w1.1, k_gone hR s1.1 (qIt_ok hP ho (d + 1)).1, ob_e, zq_ix (by omega) (by omega), zlt_e]
      have f2 : zfr (fun b _ => b = 48) h1 (zwI h1 48 (d + 1) (nI (qGo (qIt P T (d + 1)) (pR P)))) := zfr.wI 48 _ _ rfl
      have g2 : ∀ j, j ≤ d + 1 → zI (zwI h1 48 (d + 1) (nI (qGo (qIt P T (d + 1)) (pR P)))) 48 j = nI (qGo (qIt P T j) (pR P)) := by
        intro j hj
        rw [zI_wI, if_pos rfl]
        by_cases q : j = d + 1
        · rw [if_pos q, q]
        · rw [if_neg q, f1.i (by unfold zAd; omega)]
          exact g j (by omega)
      generalize zwI h1 48 (d + 1) (nI (qGo (qIt P T (d + 1)) (pR P))) = h2 at f2 g2 ⊢
      have f12 : zfr zAfi h h2 := (f1.mo (fun b k e => by unfold zAd at e; unfold zAfi; omega)).tr (f2.mo (fun b k e => by unfold zAfi; omega))
      have w2 : zPC h2 pp P := w1.fr f2 (fun b k _ _ => by omega)
      have n2 : zSen h2 L := s.fr f12 (fun b k e => by unfold zAfi; omega)
      have t2 : zSC h2 30 (pR P) (qIt P T (d + 1)) := s1.fr f2 (fun b k _ _ => by omega)
      obtain ⟨h3, e3, g3, f3⟩ := ih (d + 1) m h2 (by omega) (by omega) w2 n2 t2 g2
      refine ⟨h3, ?_, g3, f12.tr f3⟩
      rw [s_X6_isAsSeen, show s_X6_isAsSeen_L2 18 zfu (nI (d + 1)) 0 h2 = _ from k_ias (T := qIt P T (d + 1)) hR hL n2 (by omega) (g2 (d + 1) (by omega)) (lm L) 0 zfu (by omega) (zq_fu (by have := hL.2.2.2.1; omega)) (decide_eq_true (fun i hi => by omega)), ob_e, show nI (d + 1) + 1 = nI (d + 1 + 1) from nI_1 _]
      rw [qUp_s P L T (d + 1), hu, Bool.true_and] at e3
      exact e3
end SE
