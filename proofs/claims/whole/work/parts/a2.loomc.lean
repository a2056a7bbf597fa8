/-! ===== loom in the class ===== -/
/-- nothing is made; some ints change, and references of the class -/
def zfk (A : Nat → Nat → Prop) (h h' : zH) : Prop := zK h' = zK h ∧ (∀ a y, 52 ≤ a → zR h' a y = zR h a y) ∧ zL h' = zL h ∧ zX h' = zX h ∧ zc h' = zc h ∧ zs h' = zs h ∧ ∀ a k, ¬ A a k → zI h' a k = zI h a k
section LA
variable {A C : Nat → Nat → Prop} {h h1 h2 : zH}
theorem zfr.fk (f : zfr A h h1) (m : ∀ a k, A a k → C a k) : zfk C h h1 := by
  obtain ⟨a1, a2, a3, a4, a5, a6, a7⟩ := f
  exact ⟨a1, fun a y _ => by rw [a2], a3, a4, a5, a6, fun a k q => a7 a k (fun z => q (m a k z))⟩
theorem zfk.tr (f : zfk A h h1) (g : zfk A h1 h2) : zfk A h h2 := by
  obtain ⟨a1, a2, a3, a4, a5, a6, a7⟩ := f
  obtain ⟨b1, b2, b3, b4, b5, b6, b7⟩ := g
  exact ⟨b1.trans a1, fun a y q => (b2 a y q).trans (a2 a y q), b3.trans a3, b4.trans a4, b5.trans a5, b6.trans a6, fun a k q => (b7 a k q).trans (a7 a k q)⟩
theorem zfk.mo (f : zfk A h h1) (m : ∀ a k, A a k → C a k) : zfk C h h1 := by
  obtain ⟨a1, a2, a3, a4, a5, a6, a7⟩ := f
  exact ⟨a1, a2, a3, a4, a5, a6, fun a k q => a7 a k (fun z => q (m a k z))⟩
theorem zfk.fr (f : zfk A h h1) (g : zfr C h1 h2) (m : ∀ a k, C a k → A a k) : zfk A h h2 := f.tr (g.fk m)
theorem zfk.i (f : zfk A h h1) {a k : Nat} (q : ¬ A a k) : zI h1 a k = zI h a k := f.2.2.2.2.2.2 a k q
theorem zfk.sm (f : zfk A h h1) : zSm A h h1 := f.2.2.2.2.2.2
theorem zfk.wR (a y : Nat) (r : Option zF) (ha : a < 52) : zfk A h (zwR h a y r) := ⟨rfl, fun b k hb => by
  show (if b = a then (if k = y then r else zR h b k) else zR h b k) = zR h b k
  rw [if_neg (by omega)], rfl, rfl, rfl, rfl, fun _ _ _ => rfl⟩
theorem zVn.fk (w : zVn h) (f : zfk A h h1) : zVn h1 := by
  obtain ⟨⟨a0, a1⟩, ⟨b0, b1, b2, b3, b4⟩, c0, c1, c2, c3, c4⟩ := w
  have g := f.2.1
  exact ⟨⟨(g 53 0 (by omega)).trans a0, (g 53 1 (by omega)).trans a1⟩, ⟨(g 54 0 (by omega)).trans b0, (g 54 1 (by omega)).trans b1, (g 54 2 (by omega)).trans b2, (g 54 3 (by omega)).trans b3, (g 54 4 (by omega)).trans b4⟩, (g 55 0 (by omega)).trans c0, (g 55 1 (by omega)).trans c1, (g 55 2 (by omega)).trans c2, (g 55 3 (by omega)).trans c3, (g 55 4 (by omega)).trans c4⟩
end LA
/-- a draft at its beginning -/
def d0 : zDf := (0, 0, fun _ => 0, 0, fun _ => 0, 3, 3, false, [], [])
theorem d0_ok : dOk d0 0 := by
  refine ⟨?_, ?_, fun r hr => absurd hr (Nat.not_lt_zero r), ?_, fun r hr => absurd hr (Nat.not_lt_zero r), ?_, ?_, Or.inl rfl, Or.inl rfl, ?_⟩
  · show (0 : Nat) ≤ 12; omega
  · show (0 : Nat) < 2 ^ 0; decide
  · show (0 : Nat) ≤ 8; omega
  · show (3 : Nat) ≤ 9; omega
  · show (3 : Nat) ≤ 9; omega
  · show (0 : Nat) + 0 ≤ 0; omega
/-- a state at its beginning -/
def sS (E : zDf) : Nat → Nat := fun k => if k < 12 then dS E k else if k = 30 then dk E else if k = 31 then dl E else 0
def dPl (E : zDf) : zPl := (dR E, dV E, dJ E, dT E, dC E, dW E)
section LB
variable {h h1 h2 : zH} {tp pp c N : Nat} {B : Nat → Nat} {P : zPl} {L : zLg} {E : zDf}
theorem sS_r {r : Nat} (hr : r < 12) : sS E r = dS E r := if_pos hr
theorem sS_0 {k : Nat} (h1 : 12 ≤ k) (h2 : k ≠ 30) (h3 : k ≠ 31) : sS E k = 0 := by
  unfold sS
  rw [if_neg (by omega), if_neg h2, if_neg h3]
theorem sS_30 : sS E 30 = dk E := rfl
theorem sS_31 : sS E 31 = dl E := rfl
theorem sS_ok (w : dOk E N) : sOk2 (dR E) (sS E) := by
  obtain ⟨d1, d2, d3, d4, d5, d6, d7, d8, d9, d10⟩ := w
  refine ⟨⟨fun r hr => by rw [sS_r (by omega)]; exact d3 r hr, d6, d7, ?_, ?_, ?_⟩, ?_, ?_⟩
  · rw [sS_0 (by omega) (by omega) (by omega), sS_0 (by omega) (by omega) (by omega)]; omega
  · rw [sS_0 (by omega) (by omega) (by omega)]; exact Nat.two_pow_pos _
  · rw [sS_0 (by omega) (by omega) (by omega)]; omega
  · rw [sS_0 (by omega) (by omega) (by omega)]; omega
  · rw [sS_0 (by omega) (by omega) (by omega)]; omega
theorem dPl_ok (w : dOk E N) : pOk (dPl E) := by
  obtain ⟨d1, d2, d3, d4, d5, d6, d7, d8, d9, d10⟩ := w
  refine ⟨d1, d4, ?_, fun v hv => ?_, ?_, ?_⟩
  · show dJ E < 4096
    have : 2 ^ dR E ≤ 2 ^ 12 := Nat.pow_le_pow_right (by omega) d1
    omega
  · show dT E v < 4096
    have := d5 v hv
    omega
  · rcases d8 with q | q
    · exact Or.inl q
    · exact q
  · rcases d9 with q | q
    · exact Or.inl q
    · exact q
theorem k_clear (hp : tp = 2 ∨ tp = 9) : ∃ h1, s_X3_clear tp h = some h1 ∧ zDC h1 tp d0 ∧ zfr (fun b _ => tp ≤ b ∧ b ≤ tp + 6) h h1 := by
  rw [s_X3_clear, zlt_e, zlt_e, zlt_e, zlt_e, zlt_e, zlt_e, zlt_e, zlt_e, zlt_e]
  refine ⟨_, rfl, ?_, ?_⟩
  · rcases hp with e | e <;> subst e
    · exact ⟨rfl, rfl, rfl, rfl, rfl, fun r hr => absurd hr (Nat.not_lt_zero r), fun r hr => absurd hr (Nat.not_lt_zero r), rfl, rfl, ⟨rfl, fun n => absurd rfl n⟩, ⟨rfl, fun n => absurd rfl n⟩⟩
    · exact ⟨rfl, rfl, rfl, rfl, rfl, fun r hr => absurd hr (Nat.not_lt_zero r), fun r hr => absurd hr (Nat.not_lt_zero r), rfl, rfl, ⟨rfl, fun n => absurd rfl n⟩, ⟨rfl, fun n => absurd rfl n⟩⟩
  · exact ((((((((zfr.wI _ _ _ (by omega)).w _ _ _ (by omega)).w _ _ _ (by omega)).w _ _ _ (by omega)).w _ _ _ (by omega)).w _ _ _ (by omega)).w _ _ _ (by omega)).w _ _ _ (by omega)).w _ _ _ (by omega)
/-- what reading a text changes in the class -/
def zAlx (tp : Nat) : Nat → Nat → Prop := fun b _ => b = 16 ∨ b = 17 ∨ (tp ≤ b ∧ b ≤ tp + 6)
theorem x_read (hp : tp = 2 ∨ tp = 9) (hN : N ≤ 700) (hB : ∀ i, i < N → B i < 256 ∧ zI h 1 i = (nI (B i)).toInt8.toInt32) : (match pLo B N (N + 1) 0 d0 with
    | Sum.inl q => ∃ h', s_X4_read tp (nI N) h = some (nI q.1, h') ∧ zI h' 16 3 = nI q.2 ∧ zfk (zAlx tp) h h'
    | Sum.inr E => ∃ h', s_X4_read tp (nI N) h = some (nI 0, h') ∧ zDC h' tp E ∧ zfk (zAlx tp) h h') ∧ ∀ q, pLo B N (N + 1) 0 d0 = Sum.inl q → 1 ≤ q.1 ∧ q.1 ≤ 5 := by
  have f1 : zfk (zAlx tp) h (zwR (zwI h 16 1 (nI N)) 16 2 (some (tp, 3, 0))) := ((zfr.wI (A := zAlx tp) 16 1 _ (Or.inl rfl)).fk (fun _ _ e => e)).tr (zfk.wR 16 2 _ (by omega))
  have e1 : zI (zwR (zwI h 16 1 (nI N)) 16 2 (some (tp, 3, 0))) 16 1 = nI N := by rw [zI_wR, zI_wI, if_pos rfl, if_pos rfl]
  generalize hh3 : zwR (zwI h 16 1 (nI N)) 16 2 (some (tp, 3, 0)) = h3 at f1 e1
  obtain ⟨h4, e4, d4, f4⟩ := k_clear (h := h3) hp
  have f5 : zfr (fun b k => b = 16 ∧ k = 4) h4 (zwI h4 16 4 (0 : Int32)) := zfr.wI _ _ _ ⟨rfl, rfl⟩
  have z5 : zI (zwI h4 16 4 (0 : Int32)) 16 4 = nI 0 := by rw [zI_wI, if_pos rfl, if_pos rfl]; rfl
  generalize hh5 : zwI h4 16 4 (0 : Int32) = h5 at f5 z5
  have w3 : zTbc h3 B N := ⟨hN, e1, fun i hi => ⟨(hB i hi).1, by rw [f1.i (by unfold zAlx; omega)]; exact (hB i hi).2⟩⟩
  have f35 : zfr (zAl tp) h3 h5 := (f4.mo (fun b k e => by unfold zAl; omega)).tr (f5.mo (fun b k e => by unfold zAl; omega))
  have w5 : zTbc h5 B N := x_tb w3 hp f35
  obtain ⟨h6, e6, t6, f6⟩ := k_adv (tp := tp) w5 (Nat.zero_le N) z5
  have s6 : zLs h3 B N tp h6 0 d0 := ⟨f35.tr (f6.mo (fun b k e => by unfold zAl; omega)), t6, (d4.fr f5 (fun b k e1 e2 => by omega)).fr f6 (fun b k e1 e2 => by omega)⟩
  have r := x_lo w3 hp (N + 1) 0 d0 h6 0 zfu (by omega) (zq_fu (by omega)) s6 (Nat.zero_le N) d0_ok (Nat.le_refl 0)
  have key : s_X4_read tp (nI N) h = s_X4_read_L18 tp zfu (0 : Int32) (nI 0) h6 := by
    rw [s_X4_read, zlt_e, zlt_e, hh3, s_X4_read_J6, e4, ob_e, zlt_e, hh5, e6, ob_e, zq_0]
  have m : ∀ b k, zAl tp b k → zAlx tp b k := fun b k e => by unfold zAl at e; unfold zAlx; omega
  cases hp9 : pLo B N (N + 1) 0 d0 with
  | inl q =>
    rw [hp9] at r
    obtain ⟨⟨h', a1, a2, a3⟩, a4⟩ := r
    exact ⟨⟨h', key.trans a1, a2, f1.fr a3 m⟩, a4⟩
  | inr E =>
    rw [hp9] at r
    obtain ⟨⟨h', a1, a2, a3⟩, a4⟩ := r
    exact ⟨⟨h', key.trans a1, a2, f1.fr a3 m⟩, a4⟩
theorem k_begin (hp : tp = 2 ∨ tp = 9) (w : zDC h tp E) (r12 : dR E ≤ 12) : ∃ h1, s_X2_begin 18 tp h = some h1 ∧ zSC h1 19 (dR E) (sS E) ∧ zI h1 18 6 = nI 0 ∧ zI h1 18 7 = nI 0 ∧ zfr (fun b k => (19 ≤ b ∧ b ≤ 22) ∨ (b = 18 ∧ (k = 6 ∨ k = 7))) h h1 := by
  obtain ⟨v1, v2, v3, v4, v5, v6, v7, v8, v9, v10, v11⟩ := w
  have f1 : zfr (fun b k => (19 ≤ b ∧ b ≤ 22) ∨ (b = 18 ∧ (k = 6 ∨ k = 7))) h (zwA h 20 (va_cpy (zI h (tp + 1)) (zI h 20) 0 0 12)) := (zfr.rf _ h).cpy (tp + 1) 20 0 0 12 (fun _ _ _ => by omega)
  have a1 : ∀ r, r < 12 → zI (zwA h 20 (va_cpy (zI h (tp + 1)) (zI h 20) 0 0 12)) 20 r = zI h (tp + 1) r := by
    intro r hr
    rw [zI_cpy, if_pos ⟨rfl, by omega, by omega⟩, show 0 + (r - 0) = r by omega]
  have b1 : ∀ k, zI (zwA h 20 (va_cpy (zI h (tp + 1)) (zI h 20) 0 0 12)) (tp + 3) k = zI h (tp + 3) k := by
    intro k
    rw [zI_cpy, if_neg (by omega)]
  generalize hh1 : zwA h 20 (va_cpy (zI h (tp + 1)) (zI h 20) 0 0 12) = h1 at f1 a1 b1
  have f2 : zfr (fun b k => (19 ≤ b ∧ b ≤ 22) ∨ (b = 18 ∧ (k = 6 ∨ k = 7))) h (zwA h1 21 (va_cpy (zI h1 (tp + 3)) (zI h1 21) 0 0 2)) := f1.cpy (tp + 3) 21 0 0 2 (fun _ _ _ => by omega)
  have a2 : ∀ r, zI (zwA h1 21 (va_cpy (zI h1 (tp + 3)) (zI h1 21) 0 0 2)) 20 r = zI h1 20 r := by
    intro r
    rw [zI_cpy, if_neg (by omega)]
  have b2 : ∀ k, k < 2 → zI (zwA h1 21 (va_cpy (zI h1 (tp + 3)) (zI h1 21) 0 0 2)) 21 k = zI h1 (tp + 3) k := by
    intro k hk
    rw [zI_cpy, if_pos ⟨rfl, by omega, by omega⟩, show 0 + (k - 0) = k by omega]
  generalize hh2 : zwA h1 21 (va_cpy (zI h1 (tp + 3)) (zI h1 21) 0 0 2) = h2 at f2 a2 b2
  have e : s_X2_begin 18 tp h = some (zwI (zwI (zwI (zwI (zwI (zwI (zwI (zwI h2 22 0 (0 : Int32)) 22 1 (0 : Int32)) 19 5 (0 : Int32)) 19 6 (0 : Int32)) 19 7 (0 : Int32)) 19 8 (0 : Int32)) 18 6 (0 : Int32)) 18 7 (0 : Int32)) := by
    rw [← hh2, ← hh1]
    rfl
  refine ⟨_, e, ?_, rfl, rfl, (((((((f2.w 22 0 _ (by omega)).w 22 1 _ (by omega)).w 19 5 _ (by omega)).w 19 6 _ (by omega)).w 19 7 _ (by omega)).w 19 8 _ (by omega)).w 18 6 _ (by omega)).w 18 7 _ (by omega)⟩
  refine ⟨fun r hr => ?_, ?_, ?_, rfl, rfl, rfl, rfl, rfl, rfl, fun i hi => ?_⟩
  · show zI h2 20 r = nI (sS E r)
    rw [a2, a1 r (by omega), sS_r (by omega)]
    exact v6 r hr
  · show zI h2 21 0 = nI (dk E)
    rw [b2 0 (by omega), b1]
    exact v8
  · show zI h2 21 1 = nI (dl E)
    rw [b2 1 (by omega), b1]
    exact v9
  · rw [sS_0 (by omega) (by omega) (by omega)] at hi
    omega
/-- what a loom changes in the class -/
def zAly (tp : Nat) : Nat → Nat → Prop := fun b k => b = 16 ∨ b = 17 ∨ (tp ≤ b ∧ b ≤ tp + 6) ∨ (b = 0 ∧ (k = 1 ∨ k = 2 ∨ k = 8)) ∨ (19 ≤ b ∧ b ≤ 22) ∨ (b = 18 ∧ (k = 6 ∨ k = 7)) ∨ (b = 39 ∧ k = 5) ∨ (b = 47 ∧ (k = 4 ∨ k = 8))
def zAlz (tp : Nat) : Nat → Nat → Prop := fun b k => b = 16 ∨ b = 17 ∨ (tp ≤ b ∧ b ≤ tp + 6) ∨ (b = 0 ∧ (k = 1 ∨ k = 2)) ∨ (b = 28 ∧ k = 0)
theorem k_loomC {t : Nat} (hp : tp = 2 ∨ tp = 9) (ht : t ≤ 700) (h1t : zI h 0 1 = nI t) (hN : N ≤ t) (hB : ∀ i, i < N → B i < 256 ∧ zI h 1 i = (nI (B i)).toInt8.toInt32) (hE : ∀ E, pLo B N (N + 1) 0 d0 = Sum.inr E → dR E ≤ 12) : (match pLo B N (N + 1) 0 d0 with
    | Sum.inl q => 1 ≤ q.1 ∧ q.1 ≤ 5 ∧ ∃ h', s_X10_loom pp tp (nI N) h = some (Sum.inl (nI q.1), h') ∧ zI h' 0 1 = nI 0 ∧ zI h' 0 2 = nI q.2 ∧ zI h' 28 0 = zI h 28 0 + 1 ∧ zfk (zAlz tp) h h'
    | Sum.inr E => ∃ h', s_X10_loom pp tp (nI N) h = some (Sum.inl (nI 0), h') ∧ zDC h' tp E ∧ zSC h' 19 (dR E) (sS E) ∧ zI h' 18 6 = nI 0 ∧ zI h' 18 7 = nI 0 ∧ zOff h' ∧ zI h' 0 1 = nI 0 ∧ zI h' 0 2 = nM ∧ zI h' 0 8 = nI 0 ∧ zfk (zAly tp) h h') := by
  have f1 : zfr (fun b k => b = 0 ∧ k = 1) h (zwI h 0 1 (0 : Int32)) := zfr.wI _ _ _ ⟨rfl, rfl⟩
  have z1 : zI (zwI h 0 1 (0 : Int32)) 0 1 = nI 0 := by rw [zI_wI, if_pos rfl, if_pos rfl]; rfl
  generalize hh1 : zwI h 0 1 (0 : Int32) = h1 at f1 z1
  have r := x_read (h := h1) (B := B) hp (show N ≤ 700 by omega) (fun i hi => ⟨(hB i hi).1, by rw [f1.i (by omega)]; exact (hB i hi).2⟩)
  have key : ∀ v h2, s_X4_read tp (nI N) h1 = some (v, h2) → s_X10_loom pp tp (nI N) h = if ¬ v = 0 then (zlt (zwI h2 0 2 (zI h2 16 3)) fun h3 => zlt (zwI h3 28 0 ((zI h3 28 0) + (1 : Int32))) fun h4 => some (Sum.inl v, h4)) else (zlt (zwI h2 0 2 (-1 : Int32)) fun h3 => s_X10_loom_J43 pp tp h3) := by
    intro v h2 e
    rw [s_X10_loom, if_neg (show ¬ nI N < 0 from nI_pos (by omega)), h1t, if_pos (nI_le hN (by omega)), zlt_e, hh1, e, zbd_e]
  cases hp9 : pLo B N (N + 1) 0 d0 with
  | inl q =>
    rw [hp9] at r
    obtain ⟨⟨h2, a1, a2, a3⟩, a4⟩ := r
    obtain ⟨q1, q5⟩ := a4 q rfl
    refine ⟨q1, q5, zwI (zwI h2 0 2 (nI q.2)) 28 0 (zI h2 28 0 + 1), ?_, ?_, ?_, ?_, ?_⟩
    · rw [key _ _ a1, if_pos (nI_ne0 (by omega) (by omega)), zlt_e, zlt_e, a2]
      rfl
    · show zI h2 0 1 = nI 0
      rw [a3.i (by unfold zAlx; omega)]; exact z1
    · rfl
    · show zI h2 28 0 + 1 = zI h 28 0 + 1
      rw [a3.i (by unfold zAlx; omega), f1.i (by omega)]
    · exact (((f1.fk (fun b k e => by unfold zAlz; omega)).tr (a3.mo (fun b k e => by unfold zAlx at e; unfold zAlz; omega))).fr (C := fun b k => b = 0 ∧ k = 2) (zfr.wI 0 2 _ ⟨rfl, rfl⟩) (fun b k e => by unfold zAlz; omega)).fr (C := fun b k => b = 28 ∧ k = 0) (zfr.wI 28 0 _ ⟨rfl, rfl⟩) (fun b k e => by unfold zAlz; omega)
  | inr E =>
    rw [hp9] at r
    obtain ⟨⟨h2, a1, a2, a3⟩, -⟩ := r
    have f3 : zfk (zAly tp) h2 (zwR (zwR (zwI h2 0 2 (-1 : Int32)) 0 4 (some (pp, 3, 0))) 0 3 (some (tp, 3, 0))) := (((zfr.wI (A := fun b k => b = 0 ∧ k = 2) 0 2 _ ⟨rfl, rfl⟩).fk (fun b k e => by unfold zAly; omega)).tr (zfk.wR 0 4 _ (by omega))).tr (zfk.wR 0 3 _ (by omega))
    have g3 : zfr (fun b k => b = 0 ∧ k = 2) h2 (zwI h2 0 2 (-1 : Int32)) := zfr.wI 0 2 _ ⟨rfl, rfl⟩
    have d3 : zDC (zwI h2 0 2 (-1 : Int32)) tp E := a2.fr g3 (fun b k e1 e2 => by omega)
    have d3 : zDC (zwR (zwR (zwI h2 0 2 (-1 : Int32)) 0 4 (some (pp, 3, 0))) 0 3 (some (tp, 3, 0))) tp E := d3
    have z3 : zI (zwR (zwR (zwI h2 0 2 (-1 : Int32)) 0 4 (some (pp, 3, 0))) 0 3 (some (tp, 3, 0))) 0 2 = nM := rfl
    have z31 : zI (zwR (zwR (zwI h2 0 2 (-1 : Int32)) 0 4 (some (pp, 3, 0))) 0 3 (some (tp, 3, 0))) 0 1 = nI 0 := by
      show zI h2 0 1 = nI 0
      rw [a3.i (by unfold zAlx; omega)]; exact z1
    have key3 : s_X10_loom pp tp (nI N) h = ((s_X2_begin 18 tp (zwR (zwR (zwI h2 0 2 (-1 : Int32)) 0 4 (some (pp, 3, 0))) 0 3 (some (tp, 3, 0)))).bind fun h3 => zlt (zwI h3 0 8 (0 : Int32)) fun h4 => (s_X10_noteChange tp h4).bind fun h5 => some (Sum.inl (0 : Int32), h5)) := by
      rw [key _ _ a1, if_neg (fun n => n rfl), zlt_e, s_X10_loom_J43, zlt_e, zlt_e]
    generalize zwR (zwR (zwI h2 0 2 (-1 : Int32)) 0 4 (some (pp, 3, 0))) 0 3 (some (tp, 3, 0)) = h3 at f3 d3 z3 z31 key3
    obtain ⟨h4, e4, s4, b6, b7, f4⟩ := k_begin hp d3 (hE E hp9)
    have f5 : zfr (fun b k => b = 0 ∧ k = 8) h4 (zwI h4 0 8 (0 : Int32)) := zfr.wI _ _ _ ⟨rfl, rfl⟩
    have z5 : zI (zwI h4 0 8 (0 : Int32)) 0 8 = nI 0 := by rw [zI_wI, if_pos rfl, if_pos rfl]; rfl
    rw [e4, ob_e, zlt_e] at key3
    generalize zwI h4 0 8 (0 : Int32) = h5 at f5 z5 key3
    obtain ⟨h6, e6, o6, f6⟩ := k_off (pp := tp) h5
    rw [e6, ob_e] at key3
    have F : zfr (fun b k => (19 ≤ b ∧ b ≤ 22) ∨ (b = 18 ∧ (k = 6 ∨ k = 7)) ∨ (b = 0 ∧ k = 8) ∨ (b = 39 ∧ k = 5) ∨ (b = 47 ∧ (k = 4 ∨ k = 8))) h3 h6 := ((f4.mo (fun b k e => by omega)).tr (f5.mo (fun b k e => by omega))).tr (f6.mo (fun b k e => by omega))
    have G : zfr (fun b k => (b = 0 ∧ k = 8) ∨ (b = 39 ∧ k = 5) ∨ (b = 47 ∧ (k = 4 ∨ k = 8))) h4 h6 := (f5.mo (fun b k e => by omega)).tr (f6.mo (fun b k e => by omega))
    refine ⟨h6, key3, d3.fr F (fun b k e1 e2 => by omega), s4.fr G (fun b k e1 e2 => by omega), ?_, ?_, o6, ?_, ?_, ?_, ?_⟩
    · rw [G.i (by omega)]; exact b6
    · rw [G.i (by omega)]; exact b7
    · rw [F.i (by omega)]; exact z31
    · rw [F.i (by omega)]; exact z3
    · rw [f6.i (by omega)]; exact z5
    · exact (((f1.fk (fun b k e => by unfold zAly; omega)).tr (a3.mo (fun b k e => by unfold zAlx at e; unfold zAly; omega))).tr f3).fr F (fun b k e => by unfold zAly; omega)
end LB
