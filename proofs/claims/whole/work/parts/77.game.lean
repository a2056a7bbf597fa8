/-! ===== game in the reference, and the question ===== -/
/-- a couple rests -/
def qRs (G : Nat → Int32) (q : Nat) : Bool := decide (¬ G (2 * q) < G (2 * (q ^^^ 2))) && decide (¬ G (2 * q + 1) < G (2 * (q ^^^ 1) + 1))
/-- how many rest, the first of them -/
def qGm (G : Nat → Int32) : Nat → Nat × Int32
  | 0 => (0, nM)
  | q + 1 => if qRs G q = true then ((qGm G q).1 + 1, if (qGm G q).1 = 0 then nI (10 * (q / 2) + q % 2) else (qGm G q).2) else qGm G q
theorem qGm_le (G : Nat → Int32) : ∀ q, (qGm G q).1 ≤ q := by
  intro q
  induction q with
  | zero => exact Nat.le_refl _
  | succ q ih =>
    rw [qGm]
    split
    · show (qGm G q).1 + 1 ≤ q + 1
      omega
    · omega
theorem qGm_m (G : Nat → Int32) : ∀ q, q ≤ 4 → ((qGm G q).2 = nM ↔ (qGm G q).1 = 0) := by
  intro q
  induction q with
  | zero => intro _; exact ⟨fun _ => rfl, fun _ => rfl⟩
  | succ q ih =>
    intro hq
    have ih := ih (by omega)
    rw [qGm]
    split
    · show ((if (qGm G q).1 = 0 then nI (10 * (q / 2) + q % 2) else (qGm G q).2) = nM) ↔ (qGm G q).1 + 1 = 0
      refine ⟨fun e => ?_, fun e => absurd e (by omega)⟩
      by_cases z : (qGm G q).1 = 0
      · rw [if_pos z] at e
        exact (Eq.mp (zq_eM (by omega)) e).elim
      · rw [if_neg z] at e
        exact absurd (ih.mp e) z
    · exact ih
theorem g_xr : ∀ q, q < 4 → nI q ^^^ (2 : Int32) = nI (q ^^^ 2) ∧ nI q ^^^ (1 : Int32) = nI (q ^^^ 1) ∧ q ^^^ 2 < 4 ∧ q ^^^ 1 < 4 := by decide +kernel
theorem g_10 : ∀ q, q < 4 → ((10 : Int32) * nI (q / 2)) + nI (q % 2) = nI (10 * (q / 2) + q % 2) := by decide +kernel
section GB
variable {c pp : Nat} {h h0 h4 : zH} {P : zPl} {L : zLg} {S : Nat → Nat} {G : Nat → Int32}
theorem k_gainM (hP : pOk P) (ho : sOk (pR P) S) (b36 : S 36 ≤ 999) (wM : zPM h0 P) (sM : zSM h0 (pR P) S) (v4 : ∀ j, j < 38 → zI h4 71 j = zMr h0 j) (f4 : zfr (fun c k => c = 71 ∧ k < 38) h0 h4) : ∀ k q n h, q + k = 4 → k < n → zfr zScr h0 h → zfr (zAx 71) h4 h → zI h 52 4 = zI h0 52 4 → (∀ j, j < 2 * q → zI h 83 j = qGn P S j) → ∃ h', s_X11_tellGains_L7 n (nI q) h = some h' ∧ zfr zScr h0 h' ∧ zI h' 52 4 = zI h0 52 4 ∧ ∀ j, j < 8 → zI h' 83 j = qGn P S j := by
  intro k
  have hR := hP.1
  have hk := ho.2.2.2.2.2
  induction k with
  | zero =>
    intro q n h e hn f g z v
    obtain ⟨n, rfl, -⟩ := zq_suc hn
    have e2 : q = 4 := by omega
    subst e2
    refine ⟨h, ?_, f, z, v⟩
    rw [s_X11_tellGains_L7, if_pos (show (4 : Int32) ≤ nI 4 by decide)]
  | succ k ih =>
    intro q n h e hn f g z v
    obtain ⟨n, rfl, hn2⟩ := zq_suc hn
    have hq : q < 4 := by omega
    have w1 : zPM h P := wM.fr f (fun b k e => by unfold zScr; omega)
    have s1 : zSM h (pR P) S := sM.fr f (fun b k e => by unfold zScr; omega)
    have b0 := ho.2.1
    have b1 := ho.2.2.1
    have o0 := qG0_ok ho hR (q / 2) (q % 2)
    have s3 := zSM_sk0 hR hk s1 (qS3 (S 30) (q / 2))
    have f3 : zfr (fun b k => b = 65 ∧ k < 2) h (zwI h 65 0 (nI (qS3 (S 30) (q / 2)))) := zfr.wI 65 0 _ ⟨rfl, by omega⟩
    have s5 := zSM_sk1 hR (by rw [zu_ne _ _ (by omega)]; exact hk) s3 (qS3 (S 31) (q % 2))
    have f5 : zfr (fun b k => b = 65 ∧ k < 2) (zwI h 65 0 (nI (qS3 (S 30) (q / 2)))) (zwI (zwI h 65 0 (nI (qS3 (S 30) (q / 2)))) 65 1 (nI (qS3 (S 31) (q % 2)))) := zfr.wI 65 1 _ ⟨rfl, by omega⟩
    rw [s_X11_tellGains_L7, if_neg (show ¬ (4 : Int32) ≤ nI q from nI_ge (b := 4) (by omega) (by omega)), (g_dv q hq).1, ob_e, (g_dv q hq).2, ob_e, s1.2.1, show (3 : Int32) * nI (q / 2) = nI (3 * (q / 2)) from pk_mul 3 _, nI_add, show s_J9_min_7cf53 9 (nI (S 30 + 3 * (q / 2))) h = _ from k_min2 (a := 9) (b := S 30 + 3 * (q / 2)) (by omega) (by omega) h, ob_e, zlt_e, show (if S 30 + 3 * (q / 2) < 9 then S 30 + 3 * (q / 2) else 9) = qS3 (S 30) (q / 2) from rfl, show zI (zwI h 65 0 (nI (qS3 (S 30) (q / 2)))) 65 1 = nI (S 31) from s3.2.2.1, show (3 : Int32) * nI (q % 2) = nI (3 * (q % 2)) from pk_mul 3 _, nI_add, show s_J9_min_7cf53 9 (nI (S 31 + 3 * (q % 2))) (zwI h 65 0 (nI (qS3 (S 30) (q / 2)))) = _ from k_min2 (a := 9) (b := S 31 + 3 * (q % 2)) (by omega) (by omega) _, ob_e, zlt_e, show (if S 31 + 3 * (q % 2) < 9 then S 31 + 3 * (q % 2) else 9) = qS3 (S 31) (q % 2) from rfl]
    have f05 := (f3.tr f5)
    generalize zwI (zwI h 65 0 (nI (qS3 (S 30) (q / 2)))) 65 1 (nI (qS3 (S 31) (q % 2))) = h5 at s5 f05 ⊢
    have w5 : zPM h5 P := w1.fr f05 (fun b k e => by omega)
    have t36 : qG0 S (q / 2) (q % 2) 36 = S 36 := by
      unfold qG0
      rw [zu_ne _ _ (by omega), zu_ne _ _ (by omega)]
    have s5' : zSM h5 (pR P) (qG0 S (q / 2) (q % 2)) := s5
    have g0 := qGn_0 P S q
    have g1 := qGn_1 P S q
    generalize qG0 S (q / 2) (q % 2) = T at o0 s5' t36 g0 g1
    obtain ⟨h7, e7, s7, f7⟩ := k_goOn hP o0 (d := 2) (by omega) 2 0 zfu h5 (by omega) (zq_fu (by omega)) w5 s5'
    have i36 : qIt P T 2 36 = T 36 + (qDone P T).toNat + (qDone P (qDay P T)).toNat := by
      rw [qIt_2, qDay_36 hP, qDay_36 hP]
    have l1 : (qDone P T).toNat ≤ 1 := Bool.toNat_le _
    have l2 : (qDone P (qDay P T)).toNat ≤ 1 := Bool.toNat_le _
    rw [show s_X11_goOn 2 h5 = some h7 from e7, ob_e, s7.2.2.2.2.2.2.2.1, s5'.2.2.2.2.2.2.2.1]
    have fin : ∃ h', s_X11_tellGains_J59 (s_X11_tellGains_L7 n) (nI q) (nI (q / 2)) (nI (q % 2)) (nI (if qGd P T = true then 6 else 0)) h7 = some h' ∧ zfr zScr h0 h' ∧ zI h' 52 4 = zI h0 52 4 ∧ ∀ j, j < 8 → zI h' 83 j = qGn P S j := by
      rw [s_X11_tellGains_J59, show (2 : Int32) * nI q = nI (2 * q) from pk_mul 2 q, zq_ix (show 2 * q < 8 by omega) (by omega), zlt_e, show nI (2 * q) + 1 = nI (2 * q + 1) from nI_1 _, zq_ix (show 2 * q + 1 < 8 by omega) (by omega), zI_wI, if_neg (show ¬ (52 : Nat) = 83 by omega), zlt_e, s7.2.2.2.1, s7.2.2.2.2.1]
      have f8 : zfr (fun b _ => b = 83) h7 (zwI (zwI h7 83 (2 * q) ((2 : Int32) * nI (qIt P T 2 32) + nI (if qGd P T = true then 6 else 0) - (3 : Int32) * nI (q / 2))) 83 (2 * q + 1) ((2 : Int32) * nI (qIt P T 2 33) + nI (if qGd P T = true then 6 else 0) - (3 : Int32) * nI (q % 2))) := zfr.w (A := fun b _ => b = 83) (zfr.wI 83 _ _ rfl) 83 _ _ rfl
      have v8 : ∀ j, j < 2 * q + 2 → zI (zwI (zwI h7 83 (2 * q) ((2 : Int32) * nI (qIt P T 2 32) + nI (if qGd P T = true then 6 else 0) - (3 : Int32) * nI (q / 2))) 83 (2 * q + 1) ((2 : Int32) * nI (qIt P T 2 33) + nI (if qGd P T = true then 6 else 0) - (3 : Int32) * nI (q % 2))) 83 j = qGn P S j := by
        intro j hj
        rw [zI_wI, if_pos rfl]
        by_cases j1 : j = 2 * q + 1
        · rw [if_pos j1, j1, g1]
          unfold qGx
          rfl
        · rw [if_neg j1, zI_wI, if_pos rfl]
          by_cases j0 : j = 2 * q
          · rw [if_pos j0, j0, g0]
            unfold qGx
            rw [Nat.add_zero]
          · rw [if_neg j0, f7.i (by unfold zAm; omega), f05.i (by omega)]
            exact v j (by omega)
      generalize zwI (zwI h7 83 (2 * q) ((2 : Int32) * nI (qIt P T 2 32) + nI (if qGd P T = true then 6 else 0) - (3 : Int32) * nI (q / 2))) 83 (2 * q + 1) ((2 : Int32) * nI (qIt P T 2 33) + nI (if qGd P T = true then 6 else 0) - (3 : Int32) * nI (q % 2)) = h8 at f8 v8 ⊢
      have g8 : zfr (zAx 71) h4 h8 := ((g.tr (f05.mo (fun b k e => Or.inr (by unfold zAs; omega)))).tr (f7.mo (zAm_x 71 (Or.inl rfl)))).tr (f8.mo (fun b k e => Or.inl ⟨by unfold zScr; omega, by omega⟩))
      obtain ⟨h9, e9, f9, g9⟩ := r_unp (Or.inl rfl) v4 f4 g8
      have z9 : zI h9 52 4 = zI h0 52 4 := by rw [g9.i (by unfold zAs; omega), f8.i (by omega), f7.i (by unfold zAm; omega), f05.i (by omega)]; exact z
      rw [e9, ob_e, show nI q + 1 = nI (q + 1) from nI_1 q]
      exact ih (q + 1) n h9 (by omega) (by omega) f9 (g8.tr (g9.mo (fun b k e => Or.inr e))) z9 (fun j hj => by rw [g9.i (by unfold zAs; omega)]; exact v8 j (by omega))
    unfold qGd at fin
    cases hd : qDone P (qDay P T) with
    | true =>
      rw [hd, Bool.true_or, if_pos rfl] at fin
      rw [hd] at i36
      rw [if_neg (show ¬ nI (qIt P T 2 36) ≤ nI (T 36) from nI_ge (by rw [i36]; show T 36 < T 36 + (qDone P T).toNat + 1; omega) (by rw [i36]; show T 36 + (qDone P T).toNat + 1 < _; omega))]
      exact fin
    | false =>
      cases hd2 : qDone P T with
      | true =>
        rw [hd, hd2, Bool.or_true, if_pos rfl] at fin
        rw [hd, hd2] at i36
        rw [if_neg (show ¬ nI (qIt P T 2 36) ≤ nI (T 36) from nI_ge (by rw [i36]; show T 36 < T 36 + 1 + 0; omega) (by rw [i36]; show T 36 + 1 + 0 < _; omega))]
        exact fin
      | false =>
        rw [hd, hd2, Bool.or_false, if_neg (by decide)] at fin
        rw [hd, hd2] at i36
        rw [if_pos (show nI (qIt P T 2 36) ≤ nI (T 36) from nI_le (by rw [i36]; show T 36 + 0 + 0 ≤ T 36; omega) (by omega))]
        exact fin
theorem k_rests (hg : ∀ j, j < 8 → zI h 51 j = G j) {q : Nat} (hq : q < 4) : s_X10_rests pp (nI q) h = some (nI (qRs G q).toNat) := by
  obtain ⟨x1, x2, x3, x4⟩ := g_xr q hq
  rw [s_X10_rests, x1, x2, show (2 : Int32) * nI q + 0 = nI (2 * q) from by rw [show (2 : Int32) * nI q = nI (2 * q) from pk_mul 2 q]; exact nI_add _ 0, show (2 : Int32) * nI (q ^^^ 2) + 0 = nI (2 * (q ^^^ 2)) from by rw [show (2 : Int32) * nI (q ^^^ 2) = nI (2 * (q ^^^ 2)) from pk_mul 2 _]; exact nI_add _ 0, show (2 : Int32) * nI q + 1 = nI (2 * q + 1) from by rw [show (2 : Int32) * nI q = nI (2 * q) from pk_mul 2 q]; exact nI_1 _, show (2 : Int32) * nI (q ^^^ 1) + 1 = nI (2 * (q ^^^ 1) + 1) from by rw [show (2 : Int32) * nI (q ^^^ 1) = nI (2 * (q ^^^ 1)) from pk_mul 2 _]; exact nI_1 _]
  rw [zq_ix (show 2 * q < 8 by omega) (by omega), zq_ix (show 2 * (q ^^^ 2) < 8 by omega) (by omega), zq_ix (show 2 * q + 1 < 8 by omega) (by omega), zq_ix (show 2 * (q ^^^ 1) + 1 < 8 by omega) (by omega), hg _ (by omega), hg _ (by omega), hg _ (by omega), hg _ (by omega)]
  unfold qRs
  by_cases a : G (2 * q) < G (2 * (q ^^^ 2))
  · rw [if_pos a, decide_eq_false (fun n => n a), Bool.false_and]; rfl
  · rw [if_neg a, decide_eq_true a, Bool.true_and]
    by_cases b : G (2 * q + 1) < G (2 * (q ^^^ 1) + 1)
    · rw [if_pos b, decide_eq_false (fun n => n b)]; rfl
    · rw [if_neg b, decide_eq_true b]; rfl
theorem k_game_L (hg : ∀ j, j < 8 → zI h 51 j = G j) (l1 : Int32) : ∀ k q n, q + k = 4 → k < n → s_X10_game_L25 pp n l1 (nI (qGm G q).1) (qGm G q).2 (nI q) h = s_X10_game_L25 pp 1 l1 (nI (qGm G 4).1) (qGm G 4).2 (nI 4) h := by
  intro k
  induction k with
  | zero =>
    intro q n e hn
    obtain ⟨n, rfl, -⟩ := zq_suc hn
    have e2 : q = 4 := by omega
    subst e2
    rw [s_X10_game_L25, if_pos (show (4 : Int32) ≤ nI 4 by decide), s_X10_game_L25, if_pos (show (4 : Int32) ≤ nI 4 by decide)]
  | succ k ih =>
    intro q n e hn
    obtain ⟨n, rfl, hn2⟩ := zq_suc hn
    have hq : q < 4 := by omega
    have ih1 := ih (q + 1) n (by omega) (by omega)
    have le := qGm_le G q
    rw [s_X10_game_L25, if_neg (show ¬ (4 : Int32) ≤ nI q from nI_ge (b := 4) (by omega) (by omega)), k_rests hg hq, ob_e, show nI q + 1 = nI (q + 1) from nI_1 q, (g_sh q hq).1, (g_sh q hq).2, g_10 q hq, show nI (qGm G q).1 + 1 = nI ((qGm G q).1 + 1) from nI_1 _]
    rw [qGm] at ih1
    cases hr : qRs G q with
    | false =>
      rw [hr, if_neg (by decide)] at ih1
      rw [if_pos (show nI false.toNat = 0 from rfl)]
      exact ih1
    | true =>
      rw [hr, if_pos rfl] at ih1
      dsimp only at ih1
      rw [if_neg (by decide)]
      by_cases z : (qGm G q).1 = 0
      · rw [if_pos z] at ih1
        rw [if_neg (show ¬ ¬ nI (qGm G q).1 = 0 from fun n => n (by rw [z]; rfl))]
        exact ih1
      · rw [if_neg z] at ih1
        rw [if_pos (show ¬ nI (qGm G q).1 = 0 from fun e => z ((nI_eq (b := 0) (by omega) (by omega)).mp e))]
        exact ih1
theorem k_gameM_L (hg : ∀ j, j < 8 → zI h 83 j = G j) (l1 : Int32) : ∀ k q n, q + k = 4 → k < n → s_X11_game_L21 n l1 (nI (qGm G q).1) (qGm G q).2 (nI q) h = s_X11_game_L21 1 l1 (nI (qGm G 4).1) (qGm G 4).2 (nI 4) h := by
  intro k
  induction k with
  | zero =>
    intro q n e hn
    obtain ⟨n, rfl, -⟩ := zq_suc hn
    have e2 : q = 4 := by omega
    subst e2
    rw [s_X11_game_L21, if_pos (show (4 : Int32) ≤ nI 4 by decide), s_X11_game_L21, if_pos (show (4 : Int32) ≤ nI 4 by decide)]
  | succ k ih =>
    intro q n e hn
    obtain ⟨n, rfl, hn2⟩ := zq_suc hn
    have hq : q < 4 := by omega
    have ih1 := ih (q + 1) n (by omega) (by omega)
    have le := qGm_le G q
    have mm := qGm_m G q (by omega)
    obtain ⟨x1, x2, x3, x4⟩ := g_xr q hq
    rw [s_X11_game_L21, if_neg (show ¬ (4 : Int32) ≤ nI q from nI_ge (b := 4) (by omega) (by omega)), x1, x2, show (2 : Int32) * nI (q ^^^ 2) = nI (2 * (q ^^^ 2)) from pk_mul 2 _, show (2 : Int32) * nI q = nI (2 * q) from pk_mul 2 q, show (2 : Int32) * nI (q ^^^ 1) = nI (2 * (q ^^^ 1)) from pk_mul 2 _, show nI (2 * (q ^^^ 1)) + 1 = nI (2 * (q ^^^ 1) + 1) from nI_1 _, show nI (2 * q) + 1 = nI (2 * q + 1) from nI_1 _, show nI q + 1 = nI (q + 1) from nI_1 q, show nI (qGm G q).1 + 1 = nI ((qGm G q).1 + 1) from nI_1 _]
    rw [zq_ix (show 2 * (q ^^^ 2) < 8 by omega) (by omega), zq_ix (show 2 * q < 8 by omega) (by omega), zq_ix (show 2 * (q ^^^ 1) + 1 < 8 by omega) (by omega), zq_ix (show 2 * q + 1 < 8 by omega) (by omega), hg _ (by omega), hg _ (by omega), hg _ (by omega), hg _ (by omega), (g_dv q hq).1, ob_e, (g_dv q hq).2, ob_e, g_10 q hq]
    rw [qGm] at ih1
    unfold qRs at ih1
    by_cases a : G (2 * q) < G (2 * (q ^^^ 2))
    · rw [decide_eq_false (fun n => n a), Bool.false_and, if_neg (by decide)] at ih1
      rw [if_pos a]
      exact ih1
    · rw [decide_eq_true a, Bool.true_and] at ih1
      rw [if_neg a]
      by_cases b : G (2 * q + 1) < G (2 * (q ^^^ 1) + 1)
      · rw [decide_eq_false (fun n => n b), if_neg (by decide)] at ih1
        rw [if_neg (fa_of_lt b).2.1]
        exact ih1
      · rw [decide_eq_true b, if_pos rfl] at ih1
        dsimp only at ih1
        rw [if_pos (fa_of_nlt b)]
        by_cases z : (qGm G q).1 = 0
        · rw [if_pos z] at ih1
          rw [if_neg (show ¬ ¬ (qGm G q).2 = (-1 : Int32) from fun n => n (mm.mpr z))]
          exact ih1
        · rw [if_neg z] at ih1
          rw [if_pos (show ¬ (qGm G q).2 = (-1 : Int32) from fun e => z (mm.mp e))]
          exact ih1
theorem k_gains (hp : pp = 2 ∨ pp = 9) (hP : pOk P) (ho : sOk (pR P) S) (l1 : Int32) : ∀ k q n h, q + k = 4 → k < n → zPC h pp P → zSC h 19 (pR P) S → (∀ j, j < 2 * q → zI h 51 j = qGn P S j) → ∃ h', s_X10_game_L6 pp n l1 (nI q) h = s_X10_game_L25 pp zfu l1 0 (-1) 0 h' ∧ (∀ j, j < 8 → zI h' 51 j = qGn P S j) ∧ zfr (fun b _ => (30 ≤ b ∧ b ≤ 38) ∨ b = 51) h h' := by
  intro k
  induction k with
  | zero =>
    intro q n h e hn w s v
    obtain ⟨n, rfl, -⟩ := zq_suc hn
    have e2 : q = 4 := by omega
    subst e2
    refine ⟨h, ?_, v, zfr.rf _ h⟩
    rw [s_X10_game_L6, if_pos (show (4 : Int32) ≤ nI 4 by decide)]
  | succ k ih =>
    intro q n h e hn w s v
    obtain ⟨n, rfl, hn2⟩ := zq_suc hn
    have hq : q < 4 := by omega
    obtain ⟨h1, e1, a1, a2, f1⟩ := k_play hp hP ho hq w s
    obtain ⟨h2, e2, v2, f2⟩ := ih (q + 1) n h1 (by omega) (by omega) (w.fr f1 (fun b k _ _ => by omega)) (s.fr f1 (fun b k _ _ => by omega)) (fun j hj => by
      by_cases j0 : j = 2 * q
      · rw [j0]; exact a1
      · by_cases j1 : j = 2 * q + 1
        · rw [j1]; exact a2
        · rw [f1.i (by omega)]; exact v j (by omega))
    refine ⟨h2, ?_, v2, (f1.mo (fun b k e => by omega)).tr f2⟩
    rw [s_X10_game_L6, if_neg (show ¬ (4 : Int32) ≤ nI q from nI_ge (b := 4) (by omega) (by omega)), (g_sh q hq).1, (g_sh q hq).2, e1, ob_e, show nI q + 1 = nI (q + 1) from nI_1 q, e2]
theorem c_game (w : zRel c h pp P L) (x : Int32) : zCall c h pp P (s_L_game pp x 90 1 h) (s_X11_game x) := by
  show zCall c h pp P (zHa (s_X10_game pp x h)) (s_X11_game x)
  have hP := w.2.1
  have hR := hP.1
  have bad : (x < nI 0 ∨ nI 2 ≤ x) → zCall c h pp P (zHa (s_X10_game pp x h)) (s_X11_game x) := by
    intro hx
    refine zCall.i1 (v := nI 0) w (by rw [s_X10_game, show (2 : Int32) = nI 2 from rfl, n_wha0 hx, zbx_r]) (zAsk.fail (fun h w => ?_))
    rw [show (0 : Int64) = (nI 0).toInt64 from rfl, show (1 : Int64) = (nI 1).toInt64 from rfl, k_in0 (hx.imp id zq_lt2), ob_e, if_neg (fun n => n rfl)]
    rfl
  rcases zq_any x 2 (by omega) with hx | hx | ⟨i, hi, rfl⟩
  · exact bad (Or.inl hx)
  · exact bad (Or.inr hx)
  · have gi : ∀ h, s_X11_isIn (nI i).toInt64 (0 : Int64) (1 : Int64) h = some (nI 1) := fun h => k_in1 (a := 0) (b := 1) (by omega) (by omega) (by omega) h
    obtain ⟨w0, -, hL, wC, wM, cC, cM, -⟩ := id w
    have ho := hL.1.1
    have b36 : lS L 36 ≤ 999 := by have := hL.1.2; omega
    obtain ⟨h1, e1, v1, f1⟩ := k_gains w0 hP ho (nI i) 4 0 zfu h (by omega) (zq_fu (by omega)) wC cC.1 (fun j hj => absurd hj (by omega))
    have fs : zfr zScr h h1 := f1.mo (fun b k e => by unfold zScr; omega)
    have x1 : s_X10_game pp (nI i) h = s_X10_game_L25 pp 1 (nI i) (nI (qGm (qGn P (lS L)) 4).1) (qGm (qGn P (lS L)) 4).2 (nI 4) h1 := by
      rw [s_X10_game, show (2 : Int32) = nI 2 from rfl, n_wha1 hi (by omega), zbx_l]
      exact Eq.trans e1 (k_game_L v1 (nI i) 4 0 zfu (by omega) (zq_fu (by omega)))
    rw [s_X10_game_L25, if_pos (show (4 : Int32) ≤ nI 4 by decide)] at x1
    have gM : ∀ h, zRel c h pp P L → ∃ h3, s_X11_tellGains h = some h3 ∧ s_X11_game_L21 zfu (nI i) 0 (-1) 0 h3 = s_X11_game_L21 1 (nI i) (nI (qGm (qGn P (lS L)) 4).1) (qGm (qGn P (lS L)) 4).2 (nI 4) h3 ∧ zfr zScr h h3 ∧ zI h3 52 4 = zI h 52 4 := by
      intro h w
      obtain ⟨w0, -, hL, wC, wM, cC, cM, -⟩ := id w
      obtain ⟨h4, e4, v4, f4⟩ := r_pack 71 (Or.inl rfl) h
      obtain ⟨h5, e5, f5, z5, v5⟩ := k_gainM hP ho b36 wM cM.1 v4 f4 4 0 zfu h4 (by omega) (zq_fu (by omega)) (f4.mo (fun b k e => by unfold zScr; omega)) (zfr.rf _ h4) (f4.i (by omega)) (fun j hj => absurd hj (by omega))
      refine ⟨h5, ?_, k_gameM_L v5 (nI i) 4 0 zfu (by omega) (zq_fu (by omega)), f5, z5⟩
      rw [s_X11_tellGains, e4, ob_e]
      exact e5
    have e : i = 0 ∨ i = 1 := by omega
    rcases e with e | e <;> subst e
    · refine zCall.i (v := nI (qGm (qGn P (lS L)) 4).1) w (by rw [x1, if_neg (fun n => n rfl)]) fs (zAsk.go (fun h w k4 => ?_))
      obtain ⟨h3, e3, e5, f3, z3⟩ := gM h w
      refine ⟨h3, ?_, z3.trans k4, f3⟩
      rw [gi, ob_e, if_pos (by decide), e3, ob_e]
      refine Eq.trans e5 ?_
      rw [s_X11_game_L21, if_pos (show (4 : Int32) ≤ nI 4 by decide), if_neg (fun n => n rfl)]
    · refine zCall.i (v := (qGm (qGn P (lS L)) 4).2) w (by rw [x1, if_pos (by decide)]) fs (zAsk.go (fun h w k4 => ?_))
      obtain ⟨h3, e3, e5, f3, z3⟩ := gM h w
      refine ⟨h3, ?_, z3.trans k4, f3⟩
      rw [gi, ob_e, if_pos (by decide), e3, ob_e]
      refine Eq.trans e5 ?_
      rw [s_X11_game_L21, if_pos (show (4 : Int32) ≤ nI 4 by decide), if_pos (by decide)]
end GB
