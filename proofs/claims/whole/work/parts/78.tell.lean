/-! ===== to tell ===== -/
/-- the smallest set so far of all below s that tells as much -/
def qTt (K : Nat → Nat) (al : Nat) : Nat → Nat
  | 0 => al
  | s + 1 => if s &&& al = s ∧ qPc s < qPc (qTt K al s) ∧ K s = K al then s else qTt K al s
theorem qTt_in (K : Nat → Nat) (al : Nat) : ∀ s, qTt K al s &&& al = qTt K al s ∧ (qTt K al s = al ∨ qTt K al s < s) := by
  intro s
  induction s with
  | zero => exact ⟨Nat.and_self al, Or.inl rfl⟩
  | succ s ih =>
    rw [qTt]
    split
    · rename_i q
      exact ⟨q.1, Or.inr (by omega)⟩
    · exact ⟨ih.1, ih.2.imp id (fun n => by omega)⟩
theorem q_xand {a b : Nat} : a ^^^ (a &&& b) = 0 ↔ a &&& b = a := by
  constructor
  · intro e
    have : a ^^^ (a ^^^ (a &&& b)) = a ^^^ 0 := by rw [e]
    rw [← Nat.xor_assoc, Nat.xor_self, Nat.zero_xor, Nat.xor_zero] at this
    exact this
  · intro e
    rw [e, Nat.xor_self]
section TL
variable {c pp : Nat} {h : zH} {P : zPl} {L : zLg} {K : Nat → Nat} {al : Nat}
theorem k_few (ha : al < 4096) (hK : ∀ s, K s ≤ 8) (kd : ∀ s, s < 4096 → s_X7_kinds pp (nI s) h = some (nI (K s))) : ∀ k s n, s + k = al → k < n → s_X7_fewestToTell_L9 pp n (nI al) (nI (K al)) (nI (qTt K al s)) (nI s) h = some (nI (qTt K al al)) := by
  intro k
  induction k with
  | zero =>
    intro s n e hn
    obtain ⟨n, rfl, -⟩ := zq_suc hn
    have e2 : s = al := by omega
    rw [s_X7_fewestToTell_L9, if_pos (nI_le (by omega) (by omega)), e2]
  | succ k ih =>
    intro s n e hn
    obtain ⟨n, rfl, hn2⟩ := zq_suc hn
    have ih1 := ih (s + 1) n (by omega) (by omega)
    have tl := qTt_in K al s
    have t4 : qTt K al s < 4096 := by omega
    have p1 := qPc_le s
    have p2 := qPc_le (qTt K al s)
    have k1 := hK s
    have k2 := hK al
    rw [qTt] at ih1
    rw [s_X7_fewestToTell_L9, if_neg (nI_ge (by omega) (by omega)), fa_and]
    by_cases q : s &&& al = s
    · rw [if_neg (show ¬ ¬ nI (s &&& al) = nI s from fun n => n (by rw [q])), s_X7_fewestToTell_J20, if_neg (by decide), k_bc (by omega), ob_e, k_bc t4, ob_e, show nI s + 1 = nI (s + 1) from nI_1 s]
      by_cases q2 : qPc s < qPc (qTt K al s)
      · rw [if_neg (nI_ge q2 (by omega)), kd s (by omega), ob_e]
        by_cases q3 : K s = K al
        · rw [if_pos ⟨q, q2, q3⟩] at ih1
          rw [if_neg (fun n => n (by rw [q3]))]
          exact ih1
        · rw [if_neg (fun n => q3 n.2.2)] at ih1
          rw [if_pos (fun e => q3 ((nI_eq (by omega) (by omega)).mp e))]
          exact ih1
      · rw [if_neg (fun n => q2 n.2.1)] at ih1
        rw [if_pos (nI_le (by omega) (by omega))]
        exact ih1
    · rw [if_neg (fun n => q n.1)] at ih1
      have : s &&& al ≤ s := Nat.and_le_left
      rw [if_pos (show ¬ nI (s &&& al) = nI s from fun e => q ((nI_eq (by omega) (by omega)).mp e)), s_X7_fewestToTell_J20, if_pos rfl, show nI s + 1 = nI (s + 1) from nI_1 s]
      exact ih1
/-- none yet, in the reference -/
def qTm (K : Nat → Nat) (al s : Nat) : Int32 := if qTt K al s = al then nM else nI (qTt K al s)
theorem k_fewM (ha : al < 4096) (hK : ∀ s, K s ≤ 8) (kd : ∀ s, s < 4096 → s_X11_kindsBy (nI s) h = some (nI (K s))) : ∀ k s n, s + k = al → k + 1 < n → s_X11_toTell_L14 n (nI al) (nI (K al)) (qTm K al s) (nI s) h = some (nI (qTt K al al), h) := by
  intro k
  induction k with
  | zero =>
    intro s n e hn
    obtain ⟨n, rfl, hn2⟩ := zq_suc (show 0 < n by omega)
    have e2 : s = al := by omega
    subst e2
    have tl := qTt_in K s s
    have fin : s_X11_toTell_L14 n (nI s) (nI (K s)) (nI (qTt K s s)) (nI (s + 1)) h = some (nI (qTt K s s), h) := by
      obtain ⟨n, rfl, -⟩ := zq_suc (show 0 < n by omega)
      rw [s_X11_toTell_L14, if_pos (nI_lt (by omega) (by omega))]
    rw [s_X11_toTell_L14, if_neg (nI_nlt (by omega) (by omega)), show nI s &&& (nI s ^^^ (-1 : Int32)) = nI (s ^^^ (s &&& s)) from zq_nand _ _, q_xand.mpr (Nat.and_self s), if_neg (fun n => n rfl)]
    unfold qTm
    by_cases q : qTt K s s = s
    · rw [q] at fin
      rw [if_pos q, if_pos (show nM = (-1 : Int32) from rfl), s_X11_toTell_J32, kd s (by omega), ob_e, if_neg (fun n => n rfl), show nI s + 1 = nI (s + 1) from nI_1 s, fin, q]
    · have lt : qTt K s s < s := by omega
      have sm := qPc_sub tl.1
      have p2 := qPc_le s
      rw [if_neg q, if_neg (show ¬ nI (qTt K s s) = (-1 : Int32) from fun e => (Eq.mp (zq_eM (by omega)) (show nI (qTt K s s) = nM from e)).elim), k_bo (by omega), ob_e, k_bo (by omega), ob_e, if_neg (nI_nlt sm (by omega)), show nI s + 1 = nI (s + 1) from nI_1 s, fin]
  | succ k ih =>
    intro s n e hn
    obtain ⟨n, rfl, hn2⟩ := zq_suc (show 0 < n by omega)
    have ih1 := ih (s + 1) n (by omega) (by omega)
    have tl := qTt_in K al s
    have p1 := qPc_le s
    have p2 := qPc_le (qTt K al s)
    have k1 := hK s
    have k2 := hK al
    unfold qTm at ih1 ⊢
    have st : qTt K al (s + 1) = if s &&& al = s ∧ qPc s < qPc (qTt K al s) ∧ K s = K al then s else qTt K al s := by rw [qTt]
    have : s ^^^ (s &&& al) < 4096 := Nat.xor_lt_two_pow (n := 12) (show s < 2 ^ 12 by omega) (Nat.lt_of_le_of_lt Nat.and_le_left (show s < 2 ^ 12 by omega))
    rw [s_X11_toTell_L14, if_neg (nI_nlt (by omega) (by omega)), show nI s &&& (nI al ^^^ (-1 : Int32)) = nI (s ^^^ (s &&& al)) from zq_nand _ _, show nI s + 1 = nI (s + 1) from nI_1 s]
    by_cases q : s &&& al = s
    · rw [q_xand.mpr q, if_neg (fun n => n rfl)]
      have kind : qPc s < qPc (qTt K al s) → ∀ l3, l3 = (if qTt K al s = al then nM else nI (qTt K al s)) → s_X11_toTell_J32 (s_X11_toTell_L14 n) (nI al) (nI (K al)) l3 (nI s) h = some (nI (qTt K al al), h) := by
        intro q2 l3 el
        rw [s_X11_toTell_J32, kd s (by omega), ob_e, show nI s + 1 = nI (s + 1) from nI_1 s]
        by_cases q3 : K s = K al
        · rw [if_pos ⟨q, q2, q3⟩] at st
          rw [st, if_neg (show ¬ s = al by omega)] at ih1
          rw [if_neg (fun n => n (by rw [q3]))]
          exact ih1
        · rw [if_neg (fun n => q3 n.2.2)] at st
          rw [st] at ih1
          rw [if_pos (fun e => q3 ((nI_eq (by omega) (by omega)).mp e)), el]
          exact ih1
      by_cases q4 : qTt K al s = al
      · rw [if_pos q4, if_pos (show nM = (-1 : Int32) from rfl)]
        exact kind (by rw [q4]; exact qPc_sublt (by omega) ha q (by omega)) nM (by rw [if_pos q4])
      · rw [if_neg q4, if_neg (show ¬ nI (qTt K al s) = (-1 : Int32) from fun e => (Eq.mp (zq_eM (by omega)) (show nI (qTt K al s) = nM from e)).elim), k_bo (by omega), ob_e, k_bo (by omega), ob_e]
        by_cases q2 : qPc s < qPc (qTt K al s)
        · rw [if_pos (nI_lt q2 (by omega))]
          exact kind q2 _ (by rw [if_neg q4])
        · rw [if_neg (fun n => q2 n.2.1)] at st
          rw [st, if_neg q4] at ih1
          rw [if_neg (nI_nlt (by omega) (by omega))]
          exact ih1
    · rw [if_neg (fun n => q n.1)] at st
      rw [st] at ih1
      rw [if_pos (show ¬ nI (s ^^^ (s &&& al)) = 0 from fun e => q (q_xand.mp ((nI_eq (b := 0) (by omega) (by omega)).mp e)))]
      exact ih1
theorem c_toTell (w : zRel c h pp P L) : zCal2 c h pp P ((s_X10_toTell pp h).bind fun v => some (v, h)) s_X11_toTell := by
  have ha := r_all w
  have hV := w.2.1.2.1
  have hK : ∀ s, qKd (pT P) s (pV P) (pV P) ≤ 8 := fun s => Nat.le_trans (qKd_le _ _ _ _) hV
  refine zCal2.of (v := nI (qTt (fun s => qKd (pT P) s (pV P) (pV P)) (qAl (lS L) (pR P)) (qAl (lS L) (pR P)))) w ?_ (zfr.rf _ h) (zAsk.val (fun h w => ?_))
  · rw [s_X10_toTell, r_al w, ob_e, s_X7_fewestToTell, r_kd w ha, ob_e, show s_X7_fewestToTell_L9 pp zfu (nI (qAl (lS L) (pR P))) (nI (qKd (pT P) (qAl (lS L) (pR P)) (pV P) (pV P))) (nI (qAl (lS L) (pR P))) 0 h = _ from k_few (K := fun s => qKd (pT P) s (pV P) (pV P)) ha hK (fun s hs => r_kd w hs) (qAl (lS L) (pR P)) 0 zfu (by omega) (zq_fu (by omega)), ob_e, ob_e]
  · rw [r_th w, ob_e, r_kdM w ha, ob_e]
    have := k_fewM (h := h) (K := fun s => qKd (pT P) s (pV P) (pV P)) ha hK (fun s hs => r_kdM w hs) (qAl (lS L) (pR P)) 0 zfu (by omega) (zq_fu (by omega))
    unfold qTm at this
    rw [qTt, if_pos rfl] at this
    exact this
end TL
