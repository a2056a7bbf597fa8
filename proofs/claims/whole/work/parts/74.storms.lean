/-! ===== storms ===== -/
def qWk : Nat → Nat → (Nat → Nat) → (Nat → Nat)
  | 0, _, S => S
  | k + 1, r, S => qWk k (r + 1) (zu S r (S r - 9))
def qSx (P : zPl) (m j : Nat) (T : Nat → Nat) : Nat → Nat := if m.testBit j = true then qWk (pR P) 0 T else T
/-- the state behind j days with storms m -/
def qTr (P : zPl) (S : Nat → Nat) (m : Nat) : Nat → (Nat → Nat)
  | 0 => S
  | j + 1 => qDay P (qSx P m j (qTr P S m j))
def qWt (t m : Nat) : Nat → Nat
  | 0 => 1
  | j + 1 => qWt t m j * (if m.testBit j = true then t else 10 - t)
def qSu (P : zPl) (S : Nat → Nat) (b d t : Nat) : Nat → Nat
  | 0 => 0
  | m + 1 => qSu P S b d t m + (if qTr P S m d b = 0 then qWt t m d else 0)
theorem k_mx9 : ∀ a, a < 100 → (if (0 : Int32) < nI a - 9 then nI a - 9 else 0) = nI (a - 9) := by decide +kernel
theorem k_max9 {a : Nat} (ha : a ≤ 99) (h : zH) : s_J9_max_7cf53 (0 : Int32) (nI a - 9) h = some (nI (a - 9)) := by
  have := k_mx9 a (by omega)
  rw [s_J9_max_7cf53]
  by_cases q : (0 : Int32) < nI a - 9
  · rw [if_pos q] at this ⊢
    rw [this]
  · rw [if_neg q] at this ⊢
    rw [this]
theorem qWk_ok {R : Nat} (hR : R ≤ 12) : ∀ k r S, r + k = R → sOk R S → sOk R (qWk k r S) := by
  intro k
  induction k with
  | zero => intro r S _ h; exact h
  | succ k ih =>
    intro r S e h
    rw [qWk]
    have := h.1 r (by omega)
    exact ih (r + 1) _ (by omega) (sOk_u h (by omega) hR (by omega))
theorem qSx_ok {P : zPl} (hR : pR P ≤ 12) {m j : Nat} {T : Nat → Nat} (h : sOk (pR P) T) : sOk (pR P) (qSx P m j T) := by
  unfold qSx
  split
  · exact qWk_ok hR _ _ _ (by omega) h
  · exact h
theorem qTr_ok {P : zPl} (hP : pOk P) {S : Nat → Nat} (h : sOk (pR P) S) (m : Nat) : ∀ j, sOk (pR P) (qTr P S m j) := by
  intro j
  induction j with
  | zero => exact h
  | succ j ih =>
    rw [qTr]
    exact qDay_ok hP (qSx_ok hP.1 ih)
theorem qWt_le {t : Nat} (ht : t ≤ 10) (m : Nat) : ∀ j, qWt t m j ≤ 10 ^ j := by
  intro j
  induction j with
  | zero => exact Nat.le_refl _
  | succ j ih =>
    rw [qWt, Nat.pow_succ]
    refine Nat.mul_le_mul ih ?_
    split <;> omega
section SO
variable {c pp : Nat} {h : zH} {P : zPl} {L : zLg} {S : Nat → Nat}
theorem k_weak (hR : pR P ≤ 12) : ∀ k r n h S, r + k = pR P → k < n → zSC h 30 (pR P) S → sOk (pR P) S → ∃ h', s_X8_weaken_L2 30 n (nI (pR P)) 9 (nI r) h = some h' ∧ zSC h' 30 (pR P) (qWk k r S) ∧ zfr (fun b _ => b = 31) h h' := by
  intro k
  induction k with
  | zero =>
    intro r n h S e hn s ho
    obtain ⟨m, rfl, -⟩ := zq_suc hn
    refine ⟨h, ?_, s, zfr.rf _ h⟩
    rw [s_X8_weaken_L2, if_pos (nI_le (by omega) (by omega))]
  | succ k ih =>
    intro r n h S e hn s ho
    obtain ⟨m, rfl, hm⟩ := zq_suc hn
    have b9 := ho.1 r (by omega)
    have s1 := zSC_str hR ho.2.2.2.2.2 s (r := r) (by omega) (S r - 9)
    have f1 : zfr (fun b _ => b = 31) h (zwI h (30 + 1) r (nI (S r - 9))) := zfr.wI 31 r _ rfl
    obtain ⟨h2, e2, s2, f2⟩ := ih (r + 1) m _ _ (by omega) (by omega) s1 (sOk_u ho (by omega) hR (by omega))
    rw [qWk]
    refine ⟨h2, ?_, s2, f1.tr f2⟩
    rw [s_X8_weaken_L2, if_neg (nI_ge (by omega) (by omega)), zq_ix (show r < 12 by omega) (by omega), s.1 r (by omega), k_max9 b9, ob_e, zq_ix (show r < 12 by omega) (by omega), zlt_e, show nI r + 1 = nI (r + 1) from nI_1 r]
    exact e2
theorem k_weakM (hR : pR P ≤ 12) (K : Int32 → Int32 → Int32 → Int32 → Int32 → Int32 → Int32 → zH → Option (Int32 × zH)) (l1 l2 l3 l4 l5 l6 l7 : Int32) : ∀ k r n h S, r + k = pR P → k < n → zI h 56 0 = nI (pR P) → zSM h (pR P) S → sOk (pR P) S → ∃ h', s_X11_storms_L64 K n l1 l2 l3 l4 l5 l6 l7 (nI 1) (nI r) h = s_X11_storms_J86 K l1 l2 l3 l4 l5 l6 l7 h' ∧ zSM h' (pR P) (qWk k r S) ∧ zfr (fun b k => b = 64 ∧ k < 12) h h' := by
  intro k
  induction k with
  | zero =>
    intro r n h S e hn p s ho
    obtain ⟨m, rfl, -⟩ := zq_suc hn
    refine ⟨h, ?_, s, zfr.rf _ h⟩
    rw [s_X11_storms_L64, p, if_pos (nI_le (by omega) (by omega))]
  | succ k ih =>
    intro r n h S e hn p s ho
    obtain ⟨m, rfl, hm⟩ := zq_suc hn
    have b9 := ho.1 r (by omega)
    have s1 := zSM_str hR ho.2.2.2.2.2 s (r := r) (by omega) (S r - 9)
    have f1 : zfr (fun b k => b = 64 ∧ k < 12) h (zwI h 64 r (nI (S r - 9))) := zfr.wI 64 r _ ⟨rfl, by omega⟩
    obtain ⟨h2, e2, s2, f2⟩ := ih (r + 1) m _ _ (by omega) (by omega) (by rw [f1.i (by omega)]; exact p) s1 (sOk_u ho (by omega) hR (by omega))
    rw [qWk]
    refine ⟨h2, ?_, s2, f1.tr f2⟩
    rw [s_X11_storms_L64, p, if_neg (nI_ge (by omega) (by omega)), if_neg (by decide), zq_ix (show r < 12 by omega) (by omega), s.1 r (by omega), k_max9 b9, ob_e, zq_ix (show r < 12 by omega) (by omega), zlt_e, show nI r + 1 = nI (r + 1) from nI_1 r]
    exact e2
theorem k_tb1 {b : Bool} : (¬ nI b.toNat = 1) ↔ b = false := by cases b <;> decide
theorem k_gaft (hp : pp = 2 ∨ pp = 9) (hP : pOk P) (ho : sOk (pR P) S) {d m b : Nat} (hd : d ≤ 5) (hm : m < 32) (hb : b < pR P) : ∀ k j n h, j + k = d → k < n → zPC h pp P → zSC h 30 (pR P) (qTr P S m j) → ∃ h', s_X10_isGoneAfter_L8 pp n (nI b) (nI d) (nI m) (nI j) h = some (nI (if qTr P S m d b = 0 then 1 else 0), h') ∧ zfr (fun b _ => 30 ≤ b ∧ b ≤ 38) h h' := by
  intro k
  have hR := hP.1
  induction k with
  | zero =>
    intro j n h e hn w s
    obtain ⟨n, rfl, -⟩ := zq_suc hn
    have e2 : j = d := by omega
    subst e2
    have b9 := (qTr_ok hP ho m j).1 b hb
    rw [s_X10_isGoneAfter_L8, if_pos (nI_le (by omega) (by omega)), zq_ix (show b < 12 by omega) (by omega), show zI h 31 b = nI (qTr P S m j b) from s.1 b hb]
    by_cases q : qTr P S m j b = 0
    · rw [if_pos q, q, if_neg (fun n => n rfl)]
      exact ⟨h, rfl, zfr.rf _ h⟩
    · rw [if_neg q, if_pos (show ¬ nI (qTr P S m j b) = 0 from fun e => q ((nI_eq (b := 0) (by omega) (by omega)).mp e))]
      exact ⟨h, rfl, zfr.rf _ h⟩
  | succ k ih =>
    intro j n h e hn w s
    obtain ⟨n, rfl, hn2⟩ := zq_suc hn
    have oj := qTr_ok hP ho m j
    have key : ∀ h1, zPC h1 pp P → zSC h1 30 (pR P) (qSx P m j (qTr P S m j)) → zfr (fun b _ => 30 ≤ b ∧ b ≤ 38) h h1 → ∃ h', s_X10_isGoneAfter_J25 pp (s_X10_isGoneAfter_L8 pp n) (nI b) (nI d) (nI m) (nI j) h1 = some (nI (if qTr P S m d b = 0 then 1 else 0), h') ∧ zfr (fun b _ => 30 ≤ b ∧ b ≤ 38) h h' := by
      intro h1 w1 s1 f1
      obtain ⟨h2, e2, s2, -, f2⟩ := k_pass (Or.inr rfl) hp hP w1 s1 (qSx_ok hR oj)
      obtain ⟨h3, e3, f3⟩ := ih (j + 1) n h2 (by omega) (by omega) (w1.fr f2 (fun b k _ _ => by unfold zAd; omega)) (by rw [qTr]; exact s2)
      refine ⟨h3, ?_, (f1.tr (f2.mo (fun b k e => by unfold zAd at e; omega))).tr f3⟩
      rw [s_X10_isGoneAfter_J25, e2, zbd_e, show nI j + 1 = nI (j + 1) from nI_1 j, e3]
    have eb : (nI m >>> (nI j &&& 31)) &&& (1 : Int32) = nI (m.testBit j).toNat := zq_bit (by omega) (by omega)
    rw [s_X10_isGoneAfter_L8, if_neg (nI_ge (by omega) (by omega)), eb]
    unfold qSx at key
    cases hq : m.testBit j with
    | false =>
      rw [hq, if_neg (by decide)] at key
      rw [if_pos (by decide)]
      exact key h w s (zfr.rf _ h)
    | true =>
      rw [hq, if_pos rfl] at key
      rw [if_neg (by decide), w.1]
      obtain ⟨h1, e1, s1, f1⟩ := k_weak hR (pR P) 0 zfu h _ (by omega) (zq_fu (by omega)) s oj
      rw [show s_X8_weaken 30 (nI (pR P)) 9 h = some h1 from e1, ob_e]
      exact key h1 (w.fr f1 (fun b k _ _ => by omega)) s1 (f1.mo (fun b k e => by omega))
theorem k_wt {t d m : Nat} (hd : d ≤ 5) (hm : m < 32) (ht : t ≤ 10) (K : Int32 → Int32 → Int32 → Int32 → Int32 → zH → Option ((Int32 ⊕ Nat) × zH)) (l1 l4 : Int32) (h : zH) : ∀ k j n, j + k = d → k < n → s_X10_storms_L26 pp K n l1 (nI d) (nI t) l4 (nI m) (nI (qWt t m j)) (nI j) h = s_X10_storms_L26 pp K 1 l1 (nI d) (nI t) l4 (nI m) (nI (qWt t m d)) (nI d) h := by
  intro k
  induction k with
  | zero =>
    intro j n e hn
    obtain ⟨n, rfl, -⟩ := zq_suc hn
    have e2 : j = d := by omega
    subst e2
    rw [s_X10_storms_L26, if_pos (nI_le (by omega) (by omega)), s_X10_storms_L26, if_pos (nI_le (by omega) (by omega))]
  | succ k ih =>
    intro j n e hn
    obtain ⟨n, rfl, hn2⟩ := zq_suc hn
    have eb : (nI m >>> (nI j &&& 31)) &&& (1 : Int32) = nI (m.testBit j).toNat := zq_bit (by omega) (by omega)
    have ih1 := ih (j + 1) n (by omega) (by omega)
    rw [qWt] at ih1
    rw [s_X10_storms_L26, if_neg (nI_ge (by omega) (by omega)), eb, show nI j + 1 = nI (j + 1) from nI_1 j]
    cases hq : m.testBit j with
    | false =>
      rw [hq, if_neg (by decide)] at ih1
      rw [if_pos (by decide), show (10 : Int32) - nI t = nI (10 - t) from zq_sub (a := 10) ht, show nI (qWt t m j) * nI (10 - t) = nI (qWt t m j * (10 - t)) from pk_mul _ _]
      exact ih1
    | true =>
      rw [hq, if_pos rfl] at ih1
      rw [if_neg (by decide), show nI (qWt t m j) * nI t = nI (qWt t m j * t) from pk_mul _ _]
      exact ih1
theorem k_storm (hp : pp = 2 ∨ pp = 9) (hP : pOk P) (ho : sOk (pR P) S) {d t b : Nat} (hd : d ≤ 5) (hb : b < pR P) (ht : t ≤ 10) : ∀ k m n h, m + k = 2 ^ d → k < n → zPC h pp P → zSC h 19 (pR P) S → ∃ h', s_X10_storms_L17 pp n (nI b) (nI d) (nI t) (nI (qSu P S b d t m)) (nI m) h = some (Sum.inl (nI (qSu P S b d t (2 ^ d))), h') ∧ zfr (fun b _ => 30 ≤ b ∧ b ≤ 38) h h' := by
  intro k
  have hR := hP.1
  have h32 : 2 ^ d ≤ 32 := Nat.pow_le_pow_right (n := 2) (by omega) hd
  have sh : (1 : Int32) <<< (nI d &&& 31) = nI (2 ^ d) := zq_shl (r := d) (by omega)
  induction k with
  | zero =>
    intro m n h e hn w s
    obtain ⟨n, rfl, -⟩ := zq_suc hn
    have e2 : m = 2 ^ d := by omega
    refine ⟨h, ?_, zfr.rf _ h⟩
    rw [s_X10_storms_L17, sh, if_pos (nI_le (by omega) (by omega)), e2]
  | succ k ih =>
    intro m n h e hn w s
    obtain ⟨n, rfl, hn2⟩ := zq_suc hn
    have wl := qWt_le ht m d
    have w5 : 10 ^ d ≤ 10 ^ 5 := Nat.pow_le_pow_right (by omega) hd
    rw [s_X10_storms_L17, sh, if_neg (nI_ge (by omega) (by omega)), show s_X10_storms_L26 pp (s_X10_storms_L17 pp n) zfu (nI b) (nI d) (nI t) (nI (qSu P S b d t m)) (nI m) 1 0 h = _ from k_wt hd (by omega) ht (s_X10_storms_L17 pp n) (nI b) (nI (qSu P S b d t m)) h d 0 zfu (by omega) (zq_fu (by omega)), s_X10_storms_L26, if_pos (nI_le (by omega) (by omega)), show nI m + 1 = nI (m + 1) from nI_1 m]
    by_cases q : qWt t m d = 0
    · obtain ⟨h1, e1, f1⟩ := ih (m + 1) n h (by omega) (by omega) w s
      rw [qSu, q, ite_self, Nat.add_zero] at e1
      rw [q, if_pos (show nI 0 = 0 from rfl)]
      exact ⟨h1, e1, f1⟩
    · rw [if_neg (show ¬ nI (qWt t m d) = 0 from fun e => q ((nI_eq (b := 0) (by omega) (by omega)).mp e))]
      obtain ⟨h1, e1, s1, f1⟩ := k_copy (a0 := 30) (a1 := 19) (by omega) hR ho.2.2.2.2.2 s
      obtain ⟨h2, e2, f2⟩ := k_gaft hp hP ho hd (m := m) (by omega) hb d 0 zfu h1 (by omega) (zq_fu (by omega)) (w.fr f1 (fun b k _ _ => by omega)) s1
      have f12 : zfr (fun b _ => 30 ≤ b ∧ b ≤ 38) h h2 := (f1.mo (fun b k e => by omega)).tr f2
      obtain ⟨h3, e3, f3⟩ := ih (m + 1) n h2 (by omega) (by omega) (w.fr f12 (fun b k _ _ => by omega)) (s.fr f12 (fun b k _ _ => by omega))
      rw [s_X10_isGoneAfter, e1, ob_e, show s_X10_isGoneAfter_L8 pp zfu (nI b) (nI d) (nI m) 0 h1 = _ from e2, zbd_e]
      rw [qSu] at e3
      by_cases q2 : qTr P S m d b = 0
      · rw [if_pos q2] at e3 ⊢
        rw [if_neg (by decide), nI_add]
        exact ⟨h3, e3, f12.tr f3⟩
      · rw [if_neg q2, Nat.add_zero] at e3
        rw [if_neg q2, if_pos (show nI 0 = 0 from rfl)]
        exact ⟨h3, e3, f12.tr f3⟩
end SO
