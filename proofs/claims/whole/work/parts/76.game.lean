/-! ===== game ===== -/
theorem qDay_36 {P : zPl} (hP : pOk P) (S : Nat → Nat) : qDay P S 36 = S 36 + (qDone P S).toNat := by
  have hR := hP.1
  have rx : ∀ k r T, r + k ≤ pR P → qRx P k r T 36 = T 36 := by
    intro k
    induction k with
    | zero => intro r T _; rfl
    | succ k ih =>
      intro r T hr
      rw [qRx, ih (r + 1) _ (by omega)]
      split
      · rfl
      · rw [zu_ne _ _ (by omega)]
  have lp : ∀ c, c < 2 → ∀ k t T, qLp (pR P) c k t T 36 = T 36 := by
    intro c hc k
    induction k with
    | zero => intro t T; rfl
    | succ k ih =>
      intro t T
      rw [qLp]
      split
      · rw [ih _ _, (qGp_at hc).1 36 (by omega) (by omega)]
      · rfl
  have wv : ∀ c, c < 2 → ∀ T, qWv P T c 36 = T 36 := by
    intro c hc T
    rw [qWv, lp c hc _ _ _, (qSk_at hR hc (pR P) T (by omega)).1 36 (by omega)]
  have w2 : ∀ T, qW2 P T 36 = T 36 := by
    intro T
    rw [qW2, wv 1 (by omega) _, wv 0 (by omega) _]
  have key : ∀ T, qEnd P T 36 = T 36 + (qDnB P T).toNat := by
    intro T
    unfold qEnd
    rw [zu_ne _ _ (by omega)]
    cases hq : qDnB P T with
    | true =>
      rw [if_pos rfl, qBg_o _ (by omega), ← w2 T]
      unfold qKs
      rw [if_neg (by omega), if_neg (by omega), if_neg (by omega), if_neg (by omega), if_pos rfl]
      rfl
    | false =>
      rw [if_neg (by decide), w2 T]
      rfl
  unfold qDay qDone
  rw [key, rx _ _ _ (by omega)]
def qS3 (s a : Nat) : Nat := if s + 3 * a < 9 then s + 3 * a else 9
def qG0 (S : Nat → Nat) (a e : Nat) : Nat → Nat := zu (zu S 30 (qS3 (S 30) a)) 31 (qS3 (S 31) e)
def qGd (P : zPl) (T : Nat → Nat) : Bool := qDone P (qDay P T) || qDone P T
def qGx (P : zPl) (T : Nat → Nat) (w a : Nat) : Int32 := (((2 : Int32) * nI (qIt P T 2 (32 + w))) + nI (if qGd P T = true then 6 else 0)) - ((3 : Int32) * nI a)
/-- the gains of a couple -/
def qGn (P : zPl) (S : Nat → Nat) (k : Nat) : Int32 := qGx P (qG0 S (k / 2 / 2) (k / 2 % 2)) (k % 2) (if k % 2 = 0 then k / 2 / 2 else k / 2 % 2)
theorem qGn_0 (P : zPl) (S : Nat → Nat) (q : Nat) : qGn P S (2 * q) = qGx P (qG0 S (q / 2) (q % 2)) 0 (q / 2) := by
  unfold qGn
  rw [show 2 * q / 2 = q by omega, show 2 * q % 2 = 0 by omega, if_pos rfl]
theorem qGn_1 (P : zPl) (S : Nat → Nat) (q : Nat) : qGn P S (2 * q + 1) = qGx P (qG0 S (q / 2) (q % 2)) 1 (q % 2) := by
  unfold qGn
  rw [show (2 * q + 1) / 2 = q by omega, show (2 * q + 1) % 2 = 1 by omega, if_neg (by omega)]
theorem qG0_ok {R : Nat} {S : Nat → Nat} (h : sOk R S) (hR : R ≤ 12) (a e : Nat) : sOk R (qG0 S a e) := by
  have l : ∀ s a, qS3 s a ≤ 9 := by intro s a; unfold qS3; split <;> omega
  exact sOk_k (j := 1) (sOk_k (j := 0) h (by omega) hR (l _ _)) (by omega) hR (l _ _)
theorem g_i0 : ∀ q, q < 4 → ((2 : Int32) * (((2 : Int32) * nI (q / 2)) + nI (q % 2))) + 0 = nI (2 * q) := by decide +kernel
theorem g_i1 : ∀ q, q < 4 → ((2 : Int32) * (((2 : Int32) * nI (q / 2)) + nI (q % 2))) + 1 = nI (2 * q + 1) := by decide +kernel
theorem g_sh : ∀ q, q < 4 → nI q >>> ((1 : Int32) &&& 31) = nI (q / 2) ∧ nI q &&& (1 : Int32) = nI (q % 2) := by decide +kernel
theorem g_dv : ∀ q, q < 4 → zdv (nI q) (2 : Int32) = some (nI (q / 2)) ∧ zre (nI q) (2 : Int32) = some (nI (q % 2)) := by decide +kernel
section GA
variable {c pp : Nat} {h h0 h4 : zH} {P : zPl} {L : zLg} {S : Nat → Nat}
theorem qIt_2 (T : Nat → Nat) : qIt P T 2 = qDay P (qDay P T) := by rw [qIt, qIt, qIt]
theorem k_play (hp : pp = 2 ∨ pp = 9) (hP : pOk P) (ho : sOk (pR P) S) {q : Nat} (hq : q < 4) (w : zPC h pp P) (s : zSC h 19 (pR P) S) : ∃ h', s_X10_playCouple pp (nI (q / 2)) (nI (q % 2)) h = some h' ∧ zI h' 51 (2 * q) = qGn P S (2 * q) ∧ zI h' 51 (2 * q + 1) = qGn P S (2 * q + 1) ∧ zfr (fun b k => (30 ≤ b ∧ b ≤ 38) ∨ (b = 51 ∧ (k = 2 * q ∨ k = 2 * q + 1))) h h' := by
  have hR := hP.1
  have hk := ho.2.2.2.2.2
  have o0 := qG0_ok ho hR (q / 2) (q % 2)
  have b0 := ho.2.1
  have b1 := ho.2.2.1
  obtain ⟨h1, e1, s1, f1⟩ := k_copy (a0 := 30) (a1 := 19) (by omega) hR hk s
  have s3 := zSC_sk0 hR hk s1 (qS3 (S 30) (q / 2))
  have f3 : zfr (fun b _ => b = 32) h1 (zwI h1 (30 + 2) 0 (nI (qS3 (S 30) (q / 2)))) := zfr.wI 32 0 _ rfl
  have s5 := zSC_sk1 hR (by rw [zu_ne _ _ (by omega)]; exact hk) s3 (qS3 (S 31) (q % 2))
  have f5 : zfr (fun b _ => b = 32) (zwI h1 (30 + 2) 0 (nI (qS3 (S 30) (q / 2)))) (zwI (zwI h1 (30 + 2) 0 (nI (qS3 (S 30) (q / 2)))) (30 + 2) 1 (nI (qS3 (S 31) (q % 2)))) := zfr.wI 32 1 _ rfl
  have x5 : s_X10_playCouple pp (nI (q / 2)) (nI (q % 2)) h = zbd (s_X9_pass pp 30 (zwI (zwI h1 (30 + 2) 0 (nI (qS3 (S 30) (q / 2)))) (30 + 2) 1 (nI (qS3 (S 31) (q % 2))))) (fun v7 h6 => zbd (s_X9_pass pp 30 h6) fun v9 h8 => if ¬ v9 = 0 then (s_X10_playCouple_J59 pp (nI (q / 2)) (nI (q % 2)) (1 : Int32) h8) else (if v7 = 0 then (s_X10_playCouple_J59 pp (nI (q / 2)) (nI (q % 2)) (0 : Int32) h8) else (s_X10_playCouple_J59 pp (nI (q / 2)) (nI (q % 2)) (1 : Int32) h8))) := by
    rw [s_X10_playCouple, e1, ob_e, show zI h1 32 0 = nI (S 30) from s1.2.1, show (3 : Int32) * nI (q / 2) = nI (3 * (q / 2)) from pk_mul 3 _, nI_add, show s_J9_min_7cf53 9 (nI (S 30 + 3 * (q / 2))) h1 = _ from k_min2 (a := 9) (b := S 30 + 3 * (q / 2)) (by omega) (by omega) h1, ob_e, zlt_e, show (if S 30 + 3 * (q / 2) < 9 then S 30 + 3 * (q / 2) else 9) = qS3 (S 30) (q / 2) from rfl, show zI (zwI h1 32 0 (nI (qS3 (S 30) (q / 2)))) 32 1 = nI (S 31) from s3.2.2.1, show (3 : Int32) * nI (q % 2) = nI (3 * (q % 2)) from pk_mul 3 _, nI_add, show s_J9_min_7cf53 9 (nI (S 31 + 3 * (q % 2))) (zwI h1 32 0 (nI (qS3 (S 30) (q / 2)))) = _ from k_min2 (a := 9) (b := S 31 + 3 * (q % 2)) (by omega) (by omega) _, ob_e, zlt_e, show (if S 31 + 3 * (q % 2) < 9 then S 31 + 3 * (q % 2) else 9) = qS3 (S 31) (q % 2) from rfl]
  have f05 := (f3.tr f5)
  generalize zwI (zwI h1 (30 + 2) 0 (nI (qS3 (S 30) (q / 2)))) (30 + 2) 1 (nI (qS3 (S 31) (q % 2))) = h5 at s5 f05 x5
  have w5 : zPC h5 pp P := (w.fr f1 (fun b k _ _ => by omega)).fr f05 (fun b k _ _ => by omega)
  have f5h : zfr (fun b k => (30 ≤ b ∧ b ≤ 38) ∨ (b = 51 ∧ (k = 2 * q ∨ k = 2 * q + 1))) h h5 := (f1.mo (fun b k e => by omega)).tr (f05.mo (fun b k e => by omega))
  rw [qGn_0, qGn_1, x5]
  have s5' : zSC h5 30 (pR P) (qG0 S (q / 2) (q % 2)) := s5
  generalize qG0 S (q / 2) (q % 2) = T at o0 s5' ⊢
  obtain ⟨h6, e6, s6, -, f6⟩ := k_pass (Or.inr rfl) hp hP w5 s5' o0
  obtain ⟨h8, e8, s8, -, f8⟩ := k_pass (Or.inr rfl) hp hP (w5.fr f6 (fun b k _ _ => by unfold zAd; omega)) s6 (qDay_ok hP o0)
  have f58 : zfr (fun b k => (30 ≤ b ∧ b ≤ 38) ∨ (b = 51 ∧ (k = 2 * q ∨ k = 2 * q + 1))) h h8 := (f5h.tr (f6.mo (fun b k e => by unfold zAd at e; omega))).tr (f8.mo (fun b k e => by unfold zAd at e; omega))
  rw [← qIt_2] at s8
  rw [e6, zbd_e, e8, zbd_e]
  have fin : ∃ h', s_X10_playCouple_J65 pp (nI (q / 2)) (nI (q % 2)) (nI (if qGd P T = true then 6 else 0)) h8 = some h' ∧ zI h' 51 (2 * q) = qGx P T 0 (q / 2) ∧ zI h' 51 (2 * q + 1) = qGx P T 1 (q % 2) ∧ zfr (fun b k => (30 ≤ b ∧ b ≤ 38) ∨ (b = 51 ∧ (k = 2 * q ∨ k = 2 * q + 1))) h h' := by
    rw [s_X10_playCouple_J65, g_i0 q hq, zq_ix (show 2 * q < 8 by omega) (by omega), zlt_e, g_i1 q hq, zq_ix (show 2 * q + 1 < 8 by omega) (by omega), zI_wI, if_neg (show ¬ (33 : Nat) = 51 by omega), zlt_e, show zI h8 33 0 = nI (qIt P T 2 32) from s8.2.2.2.1, show zI h8 33 1 = nI (qIt P T 2 33) from s8.2.2.2.2.1]
    refine ⟨_, rfl, ?_, ?_, (f58.w 51 (2 * q) _ (by omega)).w 51 (2 * q + 1) _ (by omega)⟩
    · unfold qGx
      rw [zI_wI, if_pos rfl, if_neg (show ¬ 2 * q = 2 * q + 1 by omega), zI_wI, if_pos rfl, if_pos rfl, Nat.add_zero]
    · unfold qGx
      rw [zI_wI, if_pos rfl, if_pos rfl]
  unfold qGd at fin
  cases hd : qDone P (qDay P T) with
  | true =>
    rw [hd, Bool.true_or, if_pos rfl] at fin
    rw [if_pos (by decide), s_X10_playCouple_J59, if_neg (by decide)]
    exact fin
  | false =>
    rw [if_neg (fun n => n rfl)]
    cases hd2 : qDone P T with
    | true =>
      rw [hd, hd2, Bool.or_true, if_pos rfl] at fin
      rw [if_neg (by decide), s_X10_playCouple_J59, if_neg (by decide)]
      exact fin
    | false =>
      rw [hd, hd2, Bool.or_false, if_neg (by decide)] at fin
      rw [if_pos (show nI false.toNat = 0 from rfl), s_X10_playCouple_J59, if_pos rfl]
      exact fin
end GA
