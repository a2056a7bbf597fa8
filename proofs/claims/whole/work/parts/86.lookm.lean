/-! ===== look in the reference ===== -/
/-- sets gone behind d days, by the first i couples that fit -/
def qVs (P : zPl) (L : zLg) (d i s : Nat) : Bool := decide (∃ q, q < 99 * pR P ∧ qFt P L q = true ∧ qFn P L q < i ∧ qGo (qIt P (qSb (lS L) q) d) (pR P) = s)
theorem qVs_end (P : zPl) (L : zLg) (d s : Nat) : qVs P L d (qFn P L (99 * pR P)) s = qUs P L d (99 * pR P) s := by
  rw [Bool.eq_iff_iff]
  unfold qVs qUs
  rw [decide_eq_true_eq, decide_eq_true_eq]
  constructor
  · intro ⟨q, h1, h2, _, h4⟩
    exact ⟨q, h1, h2, h4⟩
  · intro ⟨q, h1, h2, h4⟩
    refine ⟨q, h1, h2, ?_, h4⟩
    have : qFn P L (q + 1) ≤ qFn P L (99 * pR P) := fb_ct_mono _ (by omega)
    rw [qFn_s, h2, if_pos rfl] at this
    omega
theorem qVs_s {P : zPl} {L : zLg} {d q : Nat} (h1 : q < 99 * pR P) (h2 : qFt P L q = true) (s : Nat) : qVs P L d (qFn P L q + 1) s = (if s = qGo (qIt P (qSb (lS L) q) d) (pR P) then true else qVs P L d (qFn P L q) s) := by
  by_cases e : s = qGo (qIt P (qSb (lS L) q) d) (pR P)
  · rw [if_pos e]
    exact decide_eq_true ⟨q, h1, h2, by omega, e.symm⟩
  · rw [if_neg e, Bool.eq_iff_iff]
    unfold qVs
    rw [decide_eq_true_eq, decide_eq_true_eq]
    constructor
    · intro ⟨p, g1, g2, g3, g4⟩
      refine ⟨p, g1, g2, ?_, g4⟩
      rcases Nat.lt_or_ge (qFn P L p) (qFn P L q) with x | x
      · exact x
      · have := fb_ct_kth_one (p := qFt P L) g2 h2 (show qFn P L p = qFn P L q by omega)
        subst this
        exact absurd g4.symm e
    · intro ⟨p, g1, g2, g3, g4⟩
      exact ⟨p, g1, g2, by omega, g4⟩
/-- the sets of the first i couples that fit lie in row 81 -/
def qGr (h : zH) (P : zPl) (L : zLg) (i : Nat) : Prop := ∀ q, q < 99 * pR P → qFt P L q = true → qFn P L q < i → ∀ m, m < 20 → zI h 81 (20 * qFn P L q + m) = nI (qGo (qIt P (qSb (lS L) q) (m + 1)) (pR P))
theorem zdv_e {a b : Nat} (ha : a < 2 ^ 31) (h0 : 0 < b) (hb : b < 2 ^ 31) : zdv (nI a) (nI b) = some (nI (a / b)) := by
  unfold zdv
  rw [show (nI b == 0) = false from beq_false_of_ne (nI_ne0 h0 hb), pk_div ha h0 hb]
  rfl
theorem zre_e {a b : Nat} (ha : a < 2 ^ 31) (h0 : 0 < b) (hb : b < 2 ^ 31) : zre (nI a) (nI b) = some (nI (a % b)) := by
  unfold zre
  rw [show (nI b == 0) = false from beq_false_of_ne (nI_ne0 h0 hb), pk_rem ha h0 hb]
  rfl
section LM
variable {A B : Nat → Nat → Prop} {c pp : Nat} {h h0 h1 h2 h4 : zH} {P : zPl} {L : zLg} {S T : Nat → Nat} {R : Nat}
theorem k_lkM1 (hP : pOk P) (ho : sOk (pR P) T) {i : Nat} (hi : i < 1188) (K : Int32 → Int32 → zH → Option (Int32 × zH)) (l1 : Int32) : ∀ k m n h, m + k = 20 → k < n → zPM h P → zSM h (pR P) (qIt P T m) → ∃ h', s_X11_look_L43 K n l1 (nI i) (nI m) h = ((s_X11_unpack 71 38 (0 : Int32) h').bind fun h1 => K l1 (nI (i + 1)) h1) ∧ (∀ j, m ≤ j → j < 20 → zI h' 81 (20 * i + j) = nI (qGo (qIt P T (j + 1)) (pR P))) ∧ zfr (fun b k => zAm b k ∨ (b = 81 ∧ 20 * i + m ≤ k ∧ k < 20 * i + 20)) h h' := by
  intro k
  have hR := hP.1
  induction k with
  | zero =>
    intro m n h e hn w s
    obtain ⟨n, rfl, -⟩ := zq_suc hn
    have e2 : m = 20 := by omega
    subst e2
    refine ⟨h, ?_, fun j j1 j2 => by omega, zfr.rf _ h⟩
    rw [s_X11_look_L43, if_pos (by decide), show nI i + 1 = nI (i + 1) from nI_1 i]
  | succ k ih =>
    intro m n h e hn w s
    obtain ⟨n, rfl, hm⟩ := zq_suc hn
    obtain ⟨h1, e1, s1, -, -, f1⟩ := k_day hP w s (qIt_ok hP ho m)
    have s1 : zSM h1 (pR P) (qIt P T (m + 1)) := s1
    have w1 : zPM h1 P := w.fr f1 (fun b k e => by unfold zAm; omega)
    have f2 : zfr (fun b k => b = 81 ∧ k = 20 * i + m) h1 (zwI h1 81 (20 * i + m) (nI (qGo (qIt P T (m + 1)) (pR P)))) := zfr.wI 81 _ _ ⟨rfl, rfl⟩
    have d2 : zI (zwI h1 81 (20 * i + m) (nI (qGo (qIt P T (m + 1)) (pR P)))) 81 (20 * i + m) = nI (qGo (qIt P T (m + 1)) (pR P)) := by rw [zI_wI, if_pos rfl, if_pos rfl]
    rw [s_X11_look_L43, if_neg (show ¬ (20 : Int32) ≤ nI m from nI_ge (b := 20) (by omega) (by omega)), e1, ob_e, k_goneM hR w1.1 s1.1 (qIt_ok hP ho (m + 1)).1, ob_e, q_20, zq_ix (by omega) (by omega), zlt_e, show nI m + 1 = nI (m + 1) from nI_1 m]
    generalize zwI h1 81 (20 * i + m) (nI (qGo (qIt P T (m + 1)) (pR P))) = h2 at f2 d2 ⊢
    obtain ⟨h3, e3, c3, f3⟩ := ih (m + 1) n h2 (by omega) (by omega) (w1.fr f2 (fun b k e => by omega)) (s1.fr f2 (fun b k e => by omega))
    refine ⟨h3, e3, fun j j1 j2 => ?_, ((f1.mo (fun b k e => Or.inl e)).tr (f2.mo (fun b k e => Or.inr (by omega)))).tr (f3.mo (fun b k e => e.imp id (fun x => by omega)))⟩
    by_cases q : j = m
    · subst q
      rw [f3.i (by unfold zAm; omega)]; exact d2
    · exact c3 j (by omega) j2
theorem k_lkM2 (hP : pOk P) (hL : lOk (pR P) L) (wM : zPM h0 P) (sM : zSM h0 (pR P) (lS L)) (v4 : ∀ j, j < 38 → zI h4 71 j = zMr h0 j) (f4 : zfr (fun c k => c = 71 ∧ k < 38) h0 h4) (fr : qFr h0 P L (99 * pR P)) (l1 : Int32) : ∀ k i n h, i + k = qFn P L (99 * pR P) → k < n → zfr (fun b k => zScr b k ∧ b ≠ 80 ∧ ¬ (b = 52 ∧ k = 54)) h0 h → zfr (fun b k => (zScr b k ∧ b ≠ 80 ∧ ¬ (b = 52 ∧ k = 54) ∧ b ≠ 71) ∨ zAs b k) h4 h → zI h 52 4 = zI h0 52 4 → qGr h P L i → ∃ h', s_X11_look_L22 n l1 (nI i) h = s_X11_look_L73 zfu l1 (-1 : Int32) (0 : Int32) (0 : Int32) h' ∧ zfr (fun b k => zScr b k ∧ b ≠ 80 ∧ ¬ (b = 52 ∧ k = 54)) h0 h' ∧ zI h' 52 4 = zI h0 52 4 ∧ qGr h' P L (qFn P L (99 * pR P)) := by
  intro k
  have hR := hP.1
  have hN := qFn_le P L (99 * pR P)
  induction k with
  | zero =>
    intro i n h e hn f g k4 a
    obtain ⟨n, rfl, -⟩ := zq_suc hn
    have e2 : i = qFn P L (99 * pR P) := by omega
    refine ⟨h, ?_, f, k4, by rw [← e2]; exact a⟩
    rw [s_X11_look_L22, f.i (by omega), fr.1, if_pos (nI_le (by omega) (by omega))]
  | succ k ih =>
    intro i n h e hn f g k4 a
    obtain ⟨n, rfl, hm⟩ := zq_suc hn
    obtain ⟨q, q1, q2, q3⟩ := fb_ct_kth (p := qFt P L) (k := i) (n := 99 * pR P) (show i < qFn P L (99 * pR P) by omega)
    have q3 : qFn P L q = i := q3
    have q4 := fr.2 q q1 q2
    rw [q3] at q4
    have r1 : q / 99 < pR P := by omega
    have ei : zI h 80 i = nI (100 * (q / 99) + (q % 99 + 1)) := by rw [f.i (by omega)]; exact q4
    have w1 : zPM h P := wM.fr f (fun b k e => by unfold zScr; omega)
    have s1 : zSM h (pR P) (lS L) := sM.fr f (fun b k e => by unfold zScr; omega)
    have s2 : zSM (zwI h 64 (q / 99) (nI (q % 99 + 1))) (pR P) (qSb (lS L) q) := zSM_str hR hL.1.1.2.2.2.2.2 s1 (by omega) _
    have f1 : zfr (fun b k => b = 64 ∧ k < 12) h (zwI h 64 (q / 99) (nI (q % 99 + 1))) := zfr.wI 64 _ _ ⟨rfl, by omega⟩
    rw [s_X11_look_L22, f.i (by omega), fr.1, if_neg (nI_ge (by omega) (by omega)), zq_ix (by omega) (by omega), ei, show (100 : Int32) = nI 100 from rfl, zdv_e (by omega) (by omega) (by omega), ob_e, zq_ix (by omega) (by omega), ei, zre_e (by omega) (by omega) (by omega), ob_e, show (100 * (q / 99) + (q % 99 + 1)) / 100 = q / 99 by omega, show (100 * (q / 99) + (q % 99 + 1)) % 100 = q % 99 + 1 by omega, zq_ix (by omega) (by omega), zlt_e]
    generalize zwI h 64 (q / 99) (nI (q % 99 + 1)) = h5 at f1 s2 ⊢
    obtain ⟨h6, e6, c6, f6⟩ := k_lkM1 hP (T := qSb (lS L) q) (sOk_str hR hL.1.1 (by omega) (by omega)) (i := i) (by omega) (s_X11_look_L22 n) l1 20 0 zfu h5 (by omega) (zq_fu (by omega)) (w1.fr f1 (fun b k e => by omega)) (by rw [qIt]; exact s2)
    have g6 : zfr (fun b k => (zScr b k ∧ b ≠ 80 ∧ ¬ (b = 52 ∧ k = 54) ∧ b ≠ 71) ∨ zAs b k) h4 h6 := (g.tr (f1.mo (fun b k e => Or.inr (by unfold zAs; omega)))).tr (f6.mo (fun b k e => by
      rcases e with e | e
      · unfold zAm at e; unfold zScr zAs; omega
      · exact Or.inl ⟨by unfold zScr; omega, by omega, by omega, by omega⟩))
    obtain ⟨h7, e7, f7, g7⟩ := r_unp (b := 71) (Or.inl rfl) v4 f4 (g6.mo (fun b k e => by
      rcases e with e | e
      · exact Or.inl ⟨e.1, e.2.2.2⟩
      · exact Or.inr e))
    have f7' : zfr (fun b k => zScr b k ∧ b ≠ 80 ∧ ¬ (b = 52 ∧ k = 54)) h0 h7 := by
      obtain ⟨x1, x2, x3, x4, x5, x6, x7⟩ := f7
      refine ⟨x1, x2, x3, x4, x5, x6, fun b k n => ?_⟩
      by_cases z : zScr b k
      · have z2 : b = 80 ∨ (b = 52 ∧ k = 54) := by
          by_cases z3 : b = 80
          · exact Or.inl z3
          · by_cases z4 : b = 52 ∧ k = 54
            · exact Or.inr z4
            · exact absurd ⟨z, z3, z4⟩ n
        rw [g7.i (by unfold zAs; omega), g6.i (by unfold zAs; omega), f4.i (by omega)]
      · exact x7 b k z
    have k7 : zI h7 52 4 = zI h0 52 4 := by rw [g7.i (by unfold zAs; omega), f6.i (by unfold zAm; omega), f1.i (by omega)]; exact k4
    have a7 : qGr h7 P L (i + 1) := by
      intro p p1 p2 p3 m hm
      rw [g7.i (by unfold zAs; omega)]
      by_cases z : qFn P L p = i
      · have := fb_ct_kth_one (p := qFt P L) p2 q2 (show qFn P L p = qFn P L q by omega)
        subst this
        rw [z]
        exact c6 m (by omega) hm
      · rw [f6.i (by unfold zAm; omega), f1.i (by omega)]
        exact a p p1 p2 (by omega) m hm
    obtain ⟨h9, e9, f9, k9, a9⟩ := ih (i + 1) n h7 (by omega) (by omega) f7' (g6.tr (g7.mo (fun b k e => Or.inr e))) k7 a7
    refine ⟨h9, ?_, f9, k9, a9⟩
    rw [show s_X11_look_L43 (s_X11_look_L22 n) zfu l1 (nI i) 0 h5 = _ from e6, e7, ob_e]
    exact e9
/-- one question more -/
theorem k_unl (hP : pOk P) {m D : Nat} (hm : m < 20) (hD : D < 2 ^ 30) : ∀ k i n h, i + k = qFn P L (99 * pR P) → k < n → zI h 52 54 = nI (qFn P L (99 * pR P)) → qGr h P L (qFn P L (99 * pR P)) → zI h 52 56 = nI D → (∀ s, s < 4096 → ∃ x, x ≤ D ∧ zI h 82 s = nI x ∧ (x = D ↔ qVs P L (m + 1) i s = true)) → ∃ h', s_X11_unlike_L10 n (nI m) (nI (fb_ct (qVs P L (m + 1) i) 4096)) (nI i) h = some (nI (qUn P L (m + 1)), h') ∧ (∀ s, s < 4096 → ∃ x, x ≤ D ∧ zI h' 82 s = nI x) ∧ zfr (fun b _ => b = 82) h h' := by
  intro k
  have hR := hP.1
  have hN := qFn_le P L (99 * pR P)
  induction k with
  | zero =>
    intro i n h e hn h54 a hD2 v
    obtain ⟨n, rfl, -⟩ := zq_suc hn
    have e2 : i = qFn P L (99 * pR P) := by omega
    refine ⟨h, ?_, fun s hs => ?_, zfr.rf _ h⟩
    · rw [s_X11_unlike_L10, h54, if_pos (nI_le (by omega) (by omega)), e2]
      have z : fb_ct (qVs P L (m + 1) (qFn P L (99 * pR P))) 4096 = qUn P L (m + 1) := fb_ct_cong (fun s _ => qVs_end P L (m + 1) s)
      rw [z]
    · obtain ⟨x, x1, x2, -⟩ := v s hs
      exact ⟨x, x1, x2⟩
  | succ k ih =>
    intro i n h e hn h54 a hD2 v
    obtain ⟨n, rfl, hn2⟩ := zq_suc hn
    obtain ⟨q, q1, q2, q3⟩ := fb_ct_kth (p := qFt P L) (k := i) (n := 99 * pR P) (show i < qFn P L (99 * pR P) by omega)
    have q3 : qFn P L q = i := q3
    have q4 := a q q1 q2 (by omega) m hm
    rw [q3] at q4
    have hg : qGo (qIt P (qSb (lS L) q) (m + 1)) (pR P) < 4096 := qGo_l _ hR
    have vs := fun s => qVs_s (d := m + 1) q1 q2 s
    rw [q3] at vs
    generalize qGo (qIt P (qSb (lS L) q) (m + 1)) (pR P) = G at q4 hg vs
    obtain ⟨x, x1, x2, x3⟩ := v G hg
    have ec := fb_ct_upd (qVs P L (m + 1) i) true hg
    have ec2 : fb_ct (fun k => if k = G then true else qVs P L (m + 1) i k) 4096 = fb_ct (qVs P L (m + 1) (i + 1)) 4096 := fb_ct_cong (fun s _ => (vs s).symm)
    rw [ec2, if_pos (rfl : true = true)] at ec
    have key : ∀ y : Nat, fb_ct (qVs P L (m + 1) i) 4096 + y = fb_ct (qVs P L (m + 1) (i + 1)) 4096 → ∃ h', s_X11_unlike_J34 (s_X11_unlike_L10 n) (nI m) (nI i) (nI G) (nI (fb_ct (qVs P L (m + 1) i) 4096)) (nI y) h = some (nI (qUn P L (m + 1)), h') ∧ (∀ s, s < 4096 → ∃ x, x ≤ D ∧ zI h' 82 s = nI x) ∧ zfr (fun b _ => b = 82) h h' := by
      intro y ey
      have f1 : zfr (fun b _ => b = 82) h (zwI h 82 G (nI D)) := zfr.wI 82 _ _ rfl
      have v1 : ∀ s, s < 4096 → ∃ x, x ≤ D ∧ zI (zwI h 82 G (nI D)) 82 s = nI x ∧ (x = D ↔ qVs P L (m + 1) (i + 1) s = true) := by
        intro s hs
        by_cases z : s = G
        · refine ⟨D, Nat.le_refl _, by rw [zI_wI, if_pos rfl, if_pos z], fun _ => ?_, fun _ => rfl⟩
          rw [vs s, if_pos z]
        · obtain ⟨x, x1, x2, x3⟩ := v s hs
          refine ⟨x, x1, by rw [zI_wI, if_pos rfl, if_neg z]; exact x2, ?_⟩
          rw [vs s, if_neg z]
          exact x3
      rw [s_X11_unlike_J34, zq_ix hg (by omega), hD2, zlt_e, nI_add, ey, show nI i + 1 = nI (i + 1) from nI_1 i]
      generalize zwI h 82 G (nI D) = h1 at f1 v1 ⊢
      obtain ⟨h2, e2, c2, f2⟩ := ih (i + 1) n h1 (by omega) (by omega) (by rw [f1.i (by omega)]; exact h54) (fun p p1 p2 p3 j hj => by rw [f1.i (by omega)]; exact a p p1 p2 p3 j hj) (by rw [f1.i (by omega)]; exact hD2) v1
      exact ⟨h2, e2, c2, f1.tr f2⟩
    rw [s_X11_unlike_L10, h54, if_neg (nI_ge (by omega) (by omega)), q_20, zq_ix (by omega) (by omega), q4, zq_ix hg (by omega), x2, hD2]
    by_cases z : x = D
    · rw [if_neg (fun n => n (by rw [z]))]
      rw [x3.mp z, if_pos rfl] at ec
      exact key 0 (by omega)
    · rw [if_pos (fun e => z ((nI_eq (by omega) (by omega)).mp e))]
      have z2 : qVs P L (m + 1) i G = false := by
        cases hq : qVs P L (m + 1) i G with
        | false => rfl
        | true => exact absurd (x3.mpr hq) z
      rw [z2, if_neg (by decide)] at ec
      exact key 1 (by omega)
theorem k_lkD (hP : pOk P) (l1 : Int32) : ∀ k m n h D, m + k = 20 → k < n → D + k < 2 ^ 29 → zI h 52 54 = nI (qFn P L (99 * pR P)) → qGr h P L (qFn P L (99 * pR P)) → zI h 52 56 = nI D → (∀ s, s < 4096 → ∃ x, x ≤ D ∧ zI h 82 s = nI x) → ∃ h', s_X11_look_L73 n l1 (qLk P L m).1 (nI (qLk P L m).2) (nI m) h = some ((if ¬ l1 = 0 then nI (qLk P L 20).2 else (qLk P L 20).1), h') ∧ zI h' 52 56 = nI (D + k) ∧ (∀ s, s < 4096 → ∃ x, x ≤ D + k ∧ zI h' 82 s = nI x) ∧ zfr (fun b k => b = 82 ∨ (b = 52 ∧ k = 56)) h h' := by
  intro k
  induction k with
  | zero =>
    intro m n h D e hn hD h54 a hD2 v
    obtain ⟨n, rfl, -⟩ := zq_suc hn
    have e2 : m = 20 := by omega
    subst e2
    refine ⟨h, ?_, hD2, v, zfr.rf _ h⟩
    rw [s_X11_look_L73, if_pos (by decide)]
    by_cases z : l1 = 0
    · rw [if_neg (fun n => n z), if_neg (fun n => n z)]
    · rw [if_pos z, if_pos z]
  | succ k ih =>
    intro m n h D e hn hD h54 a hD2 v
    obtain ⟨n, rfl, hn2⟩ := zq_suc hn
    have bu : qUn P L (m + 1) ≤ 4096 := fb_ct_le _ 4096
    have bl := qLk_le P L m
    have f1 : zfr (fun b k => b = 52 ∧ k = 56) h (zwI h 52 56 (nI (D + 1))) := zfr.wI 52 56 _ ⟨rfl, rfl⟩
    have d1 : zI (zwI h 52 56 (nI (D + 1))) 52 56 = nI (D + 1) := by rw [zI_wI, if_pos rfl, if_pos rfl]
    have eu : s_X11_unlike (nI m) h = s_X11_unlike_L10 zfu (nI m) 0 0 (zwI h 52 56 (nI (D + 1))) := by
      rw [s_X11_unlike, zlt_e, hD2, show nI D + 1 = nI (D + 1) from nI_1 D]
    have z0 : fb_ct (qVs P L (m + 1) 0) 4096 = 0 := (fb_ct_zero (p := qVs P L (m + 1) 0)).mpr (fun s _ => decide_eq_false (fun ⟨q, _, _, g, _⟩ => by omega))
    rw [s_X11_look_L73, if_neg (show ¬ (20 : Int32) ≤ nI m from nI_ge (b := 20) (by omega) (by omega)), eu]
    generalize zwI h 52 56 (nI (D + 1)) = h1 at f1 d1 ⊢
    obtain ⟨h2, e2, c2, f2⟩ := k_unl (L := L) hP (m := m) (D := D + 1) (by omega) (by omega) (qFn P L (99 * pR P)) 0 zfu h1 (by omega) (zq_fu (by have := qFn_le P L (99 * pR P); have := hP.1; omega)) (by rw [f1.i (by omega)]; exact h54) (fun p p1 p2 p3 j hj => by rw [f1.i (by omega)]; exact a p p1 p2 p3 j hj) d1 (fun s hs => by
      obtain ⟨x, x1, x2⟩ := v s hs
      refine ⟨x, by omega, by rw [f1.i (by omega)]; exact x2, fun z => by omega, fun z => ?_⟩
      exfalso
      have := of_decide_eq_true z
      obtain ⟨q, _, _, g, _⟩ := this
      omega)
    rw [z0] at e2
    rw [show s_X11_unlike_L10 zfu (nI m) 0 0 h1 = _ from e2, zbd_e, show nI m + 1 = nI (m + 1) from nI_1 m]
    have f12 : zfr (fun b k => b = 82 ∨ (b = 52 ∧ k = 56)) h h2 := (f1.mo (fun b k e => Or.inr e)).tr (f2.mo (fun b k e => Or.inl e))
    obtain ⟨h3, e3, c3, c4, f3⟩ := ih (m + 1) n h2 (D + 1) (by omega) (by omega) (by omega) (by rw [f12.i (by omega)]; exact h54) (fun p p1 p2 p3 j hj => by rw [f12.i (by omega)]; exact a p p1 p2 p3 j hj) (by rw [f2.i (by omega)]; exact d1) c2
    refine ⟨h3, ?_, by rw [c3, show D + 1 + k = D + (k + 1) by omega], fun s hs => ?_, f12.tr f3⟩
    · have es : qLk P L (m + 1) = if (qLk P L m).2 < qUn P L (m + 1) then (nI (m + 1), qUn P L (m + 1)) else qLk P L m := by rw [qLk]
      by_cases q : (qLk P L m).2 < qUn P L (m + 1)
      · rw [if_pos q] at es
        rw [es] at e3
        rw [if_pos (nI_lt q (by omega))]
        exact e3
      · rw [if_neg q] at es
        rw [es] at e3
        rw [if_neg (nI_nlt (by omega) (by omega))]
        exact e3
    · obtain ⟨x, x1, x2⟩ := c4 s hs
      exact ⟨x, by omega, x2⟩
theorem zRel.ak (w : zRel c h pp P L) (f : zSm (fun b k => zScr b k ∨ b = 82 ∨ (b = 52 ∧ k = 56)) h h1) {d : Nat} (q : zAk h1 d) : zRel d h1 pp P L := by
  obtain ⟨w0, w1, w2, w3, w4, w5, w6, w7, ⟨b, w8⟩, ⟨t, w9⟩, w10, w11⟩ := w
  have hR := w1.1
  refine ⟨w0, w1, w2, w3.sm f ?_, w4.sm f ?_, w5.sm f ?_ hR w2, w6.sm f ?_ hR w2, w7.sm f ?_, ⟨b, w8.sm f ?_ hR⟩, ⟨t, w9.sm f ?_⟩, ?_, q⟩
  · intro b k e1 e2; unfold zScr; omega
  · intro b k e; unfold zScr; omega
  · intro b k e1 e2; unfold zScr; omega
  · intro b k e; unfold zScr; omega
  · intro b k e; unfold zScr; omega
  · intro b k e; unfold zScr; omega
  · intro b k e; unfold zScr; omega
  · rw [f _ _ (by unfold zScr; omega), f _ _ (by unfold zScr; omega)]; exact w10
theorem r_lookM (w : zRel c h pp P L) (hc : c < 1000) (l1 : Int32) : ∃ h2, ((s_X11_tellFits h).bind fun h3 => (s_X11_pack 71 38 (0 : Int32) h3).bind fun h4 => s_X11_look_L22 zfu l1 (0 : Int32) h4) = some ((if ¬ l1 = 0 then nI (qLk P L 20).2 else (qLk P L 20).1), h2) ∧ zI h2 52 4 = zI h 52 4 ∧ zRel (c + 1) h2 pp P L ∧ zfr (fun b k => zScr b k ∨ b = 82 ∨ (b = 52 ∧ k = 56)) h h2 := by
  obtain ⟨h3, e3, f3, a3, k3⟩ := r_fitsM w
  have w3 := w.fr (zAj_scr f3)
  obtain ⟨w0, hP, hL, wC, wM, cC, cM, -, -, -, -, ak⟩ := id w3
  obtain ⟨h4, e4, v4, f4⟩ := r_pack 71 (Or.inl rfl) h3
  obtain ⟨h5, e5, f5, k5, a5⟩ := k_lkM2 hP hL wM cM.1 v4 f4 a3 l1 (qFn P L (99 * pR P)) 0 zfu h4 (by omega) (zq_fu (by have := qFn_le P L (99 * pR P); have := hP.1; omega)) (f4.mo (fun b k e => by unfold zScr; omega)) (zfr.rf _ h4) (f4.i (by omega)) (fun p _ _ p3 => by omega)
  obtain ⟨D, D1, D2, D3⟩ := ak
  have p5 : zfr zScr h h5 := (zAj_scr f3).tr (f5.mo (fun b k e => e.1))
  obtain ⟨h6, e6, c6, d6, f6⟩ := k_lkD (L := L) hP l1 20 0 zfu h5 D (by omega) (zq_fu (by omega)) (by omega) (by rw [f5.i (by omega)]; exact a3.1) a5 (by rw [f5.i (by unfold zScr; omega)]; exact D2) (fun s hs => by
    obtain ⟨x, x1, x2⟩ := D3 s hs
    exact ⟨x, x1, by rw [f5.i (by unfold zScr; omega)]; exact x2⟩)
  have p6 : zfr (fun b k => zScr b k ∨ b = 82 ∨ (b = 52 ∧ k = 56)) h h6 := (p5.mo (fun b k e => Or.inl e)).tr (f6.mo (fun b k e => Or.inr e))
  refine ⟨h6, ?_, ?_, w.ak p6.sm ⟨D + 20, by omega, c6, d6⟩, p6⟩
  · rw [e3, ob_e, e4, ob_e, show s_X11_look_L22 zfu l1 0 h4 = _ from e5]
    rw [qLk] at e6
    exact e6
  · rw [f6.i (by omega), k5, k3]
theorem zCall.lk {F : Option (Int32 × zH)} {v : Int32} {G : zH → Option (Int32 × zH)} (w : zRel c h1 pp P L) (f : zfll A h h1) (qA : ¬ A 0 8) (qB : ¬ B 0 8) (eF : F = some (nI 0, zwL h1 90 0 v.toInt64)) (g : ∀ h, zRel c h pp P L → ∃ h2, G h = some (v, h2) ∧ zI h2 52 4 = nI 0 ∧ zRel (c + 1) h2 pp P L ∧ zfr B h h2) : zCall c h pp P F G := by
  have w1 : zRel c (zwL h1 90 0 v.toInt64) pp P L := w.co rfl
  obtain ⟨h2, e2, k2, w2, f2⟩ := g _ w1
  refine ⟨nI 0, _, v, h2, L, eF, e2, k2, fun _ => ?_, w2, ?_⟩
  · rw [f2.2.2.1]; rfl
  · obtain ⟨a1, a2, a3, a4, a5, a6, a7⟩ := f
    obtain ⟨b1, b2, b3, b4, b5, b6, b7⟩ := f2
    refine ⟨b1.trans a1, b4.trans a4, ?_, ?_, ?_⟩
    · rw [b5]; show zc h1 ≤ _; rw [a5]; omega
    · rw [b6]; show zs h1 ≤ _; rw [a6]; omega
    · rw [b7 0 8 qB]; exact a7 0 8 qA
theorem c_look (w : zRel c h pp P L) (hc : c < 1000) (x : Int32) : zCall c h pp P (s_L_look pp x 90 1 h) (s_X11_look x) := by
  show zCall c h pp P (zHa (s_X10_look pp x h)) (s_X11_look x)
  have hP := w.2.1
  have bad : (x < nI 0 ∨ nI 2 ≤ x) → zCall c h pp P (zHa (s_X10_look pp x h)) (s_X11_look x) := by
    intro hx
    refine zCall.i1 (v := nI 0) w (by rw [s_X10_look, zq_2, n_wha0 hx, zbx_r]) (zAsk.fail (fun h w => ?_))
    rw [show (0 : Int64) = (nI 0).toInt64 from rfl, show (1 : Int64) = (nI 1).toInt64 from rfl, k_in0 (hx.imp id zq_lt2), ob_e, if_neg (by decide)]
    rfl
  rcases zq_any x 2 (by omega) with hx | hx | ⟨i, hi, rfl⟩
  · exact bad (Or.inl hx)
  · exact bad (Or.inr hx)
  · have gi : ∀ h, s_X11_isIn (nI i).toInt64 (0 : Int64) (1 : Int64) h = some (nI 1) := fun h => k_in1 (a := 0) (b := 1) (by omega) (by omega) (by omega) h
    obtain ⟨h1, e1, w1, q9, q10, f1⟩ := r_cmp w
    refine zCall.lk (B := fun b k => zScr b k ∨ b = 82 ∨ (b = 52 ∧ k = 56)) (v := if ¬ nI i = 0 then nI (qLk P L 20).2 else (qLk P L 20).1) w1 f1 (by unfold zAfi; omega) (by unfold zScr; omega) (zL_in ?_).1 (fun h w => ?_)
    · rw [s_X10_look, zq_2, n_wha1 hi (by omega), zbx_l, e1, ob_e, q9, q10]
      by_cases z : nI i = 0
      · rw [if_neg (fun n => n z), if_neg (fun n => n z)]
      · rw [if_pos z, if_pos z]
    · have f0 : zfr zScr h (zwI h 52 4 (0 : Int32)) := zfr.wI 52 4 _ (by unfold zScr; omega)
      have k0 : zI (zwI h 52 4 (0 : Int32)) 52 4 = nI 0 := by rw [zI_wI, if_pos rfl, if_pos rfl]; rfl
      have w0 := w.fr f0
      rw [s_X11_look, zlt_e]
      generalize zwI h 52 4 (0 : Int32) = h0 at f0 k0 w0 ⊢
      obtain ⟨h2, e2, k2, w2, f2⟩ := r_lookM w0 hc (nI i)
      refine ⟨h2, ?_, k2.trans k0, w2, (f0.mo (fun b k e => Or.inl e)).tr f2⟩
      rw [gi, ob_e, if_pos (by decide)]
      exact e2
end LM
