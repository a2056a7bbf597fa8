/-! ===== lines, and lines in the class ===== -/
/-- a draft: ribs, jaws as bits, strengths; verses, throws; skills; clans told; ROTS, WEAVES -/
abbrev zDf : Type := Nat × Nat × (Nat → Nat) × Nat × (Nat → Nat) × Nat × Nat × Bool × List Nat × List Nat
def dR (D : zDf) : Nat := D.1
def dJ (D : zDf) : Nat := D.2.1
def dS (D : zDf) : Nat → Nat := D.2.2.1
def dV (D : zDf) : Nat := D.2.2.2.1
def dT (D : zDf) : Nat → Nat := D.2.2.2.2.1
def dk (D : zDf) : Nat := D.2.2.2.2.2.1
def dl (D : zDf) : Nat := D.2.2.2.2.2.2.1
def dcl (D : zDf) : Bool := D.2.2.2.2.2.2.2.1
def dC (D : zDf) : List Nat := D.2.2.2.2.2.2.2.2.1
def dW (D : zDf) : List Nat := D.2.2.2.2.2.2.2.2.2
def dRu (wv : Bool) (D : zDf) : List Nat := if wv = true then dW D else dC D
abbrev pRd : Type := (Nat × Nat) ⊕ (Nat × zDf)
section LI
variable (B : Nat → Nat) (N : Nat)
def pNc (top x : Nat) : Nat := if tK B N x = 3 then (if 4 < tE B N x - tP B N x then 2 else if tV B N x ≤ top then 0 else 2) else 1
def pEnd (D : zDf) (x : Nat) : pRd := if tM B N x 59 = true then Sum.inr (tE B N x, D) else Sum.inl (1, tP B N x)
def pRib (jw : Nat) (D : zDf) (x : Nat) : pRd := if dR D = 12 then Sum.inl (2, tP B N x) else if pNc B N 99 (tE B N x) = 0 then pEnd B N (dR D + 1, dJ D ||| (if jw = 0 then 0 else 2 ^ dR D), zu (dS D) (dR D) (tV B N (tE B N x)), dV D, dT D, dk D, dl D, dcl D, dC D, dW D) (tE B N (tE B N x)) else Sum.inl (pNc B N 99 (tE B N x), tP B N (tE B N x))
def pVer (D : zDf) (x : Nat) : pRd := if dV D = 8 then Sum.inl (2, tP B N x) else if pNc B N 4095 (tE B N x) = 0 then pEnd B N (dR D, dJ D, dS D, dV D + 1, zu (dT D) (dV D) (tV B N (tE B N x)), dk D, dl D, dcl D, dC D, dW D) (tE B N (tE B N x)) else Sum.inl (pNc B N 4095 (tE B N x), tP B N (tE B N x))
def pCla (D : zDf) (x : Nat) : pRd := if dcl D = true then Sum.inl (5, tP B N x) else if pNc B N 9 (tE B N x) = 0 then (if pNc B N 9 (tE B N (tE B N x)) = 0 then pEnd B N (dR D, dJ D, dS D, dV D, dT D, tV B N (tE B N x), tV B N (tE B N (tE B N x)), true, dC D, dW D) (tE B N (tE B N (tE B N x))) else Sum.inl (pNc B N 9 (tE B N (tE B N x)), tP B N (tE B N (tE B N x)))) else Sum.inl (pNc B N 9 (tE B N x), tP B N (tE B N x))
def dPut (wv : Bool) (D : zDf) (C : List Nat) : zDf := (dR D, dJ D, dS D, dV D, dT D, dk D, dl D, dcl D, (if wv = true then dC D else C), (if wv = true then C else dW D))
def pRul (wv : Bool) (D : zDf) (x : Nat) : pRd := if dRu wv D = [] then (match pEx wv B N 9 0 (tE B N x) with
  | Sum.inl q => Sum.inl q
  | Sum.inr q => pEnd B N (dPut wv D q.2) q.1) else Sum.inl (5, tP B N x)
def pLine (D : zDf) (x : Nat) : pRd := if tW B N x 2 = true then pRib B N 0 D x else if tW B N x 3 = true then pRib B N 1 D x else if tW B N x 4 = true then pCla B N D x else if tW B N x 5 = true then pVer B N D x else if tW B N x 6 = true then pRul B N false D x else if tW B N x 17 = true then pRul B N true D x else Sum.inl (1, tP B N x)
def pLo : Nat → Nat → zDf → (Nat × Nat) ⊕ zDf
  | 0, _, D => Sum.inr D
  | f + 1, x, D => if tK B N x = 0 then Sum.inr D else (match pLine B N D x with
    | Sum.inl q => Sum.inl q
    | Sum.inr q => pLo f q.1 q.2)
end LI
/-- a draft that is told by the first x bytes -/
def dOk (D : zDf) (x : Nat) : Prop := dR D ≤ 12 ∧ dJ D < 2 ^ dR D ∧ (∀ r, r < dR D → dS D r ≤ 99) ∧ dV D ≤ 8 ∧ (∀ v, v < dV D → dT D v ≤ 4095) ∧ dk D ≤ 9 ∧ dl D ≤ 9 ∧ (dC D = [] ∨ qOk (dC D)) ∧ (dW D = [] ∨ qOk (dW D)) ∧ (dC D).length + (dW D).length ≤ x
def pOkl (N x : Nat) (r : pRd) : Prop := match r with
  | Sum.inl q => 1 ≤ q.1 ∧ q.1 ≤ 5
  | Sum.inr q => x < q.1 ∧ q.1 ≤ N ∧ dOk q.2 q.1
section LO
variable {B : Nat → Nat} {N : Nat}
theorem pNc_b (top x : Nat) : pNc B N top x ≤ 2 := by
  unfold pNc
  split
  · split
    · omega
    · split <;> omega
  · omega
theorem pNc_0 {top x : Nat} (h : pNc B N top x = 0) : tK B N x = 3 ∧ tE B N x - tP B N x ≤ 4 ∧ tV B N x ≤ top := by
  unfold pNc at h
  split at h
  · split at h
    · omega
    · split at h
      · exact ⟨by assumption, by omega, by assumption⟩
      · omega
  · omega
theorem pEnd_k {D : zDf} {x y : Nat} (hy : y ≤ N) (hx : x ≤ y) (h : dOk D y) : pOkl N x (pEnd B N D y) := by
  unfold pEnd
  split
  · rename_i q
    have e1 := tE_1 (B := B) hy (by have := (tM_k q).1; omega)
    have e2 := (tE_le (B := B) hy).2.1
    obtain ⟨d1, d2, d3, d4, d5, d6, d7, d8, d9, d10⟩ := h
    refine ⟨?_, e2, d1, d2, d3, d4, d5, d6, d7, d8, d9, ?_⟩
    · show x < tE B N y; omega
    · show (dC D).length + (dW D).length ≤ tE B N y; omega
  · exact ⟨by show 1 ≤ 1; omega, by show 1 ≤ 5; omega⟩
theorem pOkl_f {x k p : Nat} (h1 : 1 ≤ k) (h2 : k ≤ 5) : pOkl N x (Sum.inl (k, p)) := ⟨h1, h2⟩
theorem pRib_k {jw : Nat} {D : zDf} {x : Nat} (hx : x ≤ N) (hk : tK B N x ≠ 0) (h : dOk D x) : pOkl N x (pRib B N jw D x) := by
  obtain ⟨d1, d2, d3, d4, d5, d6, d7, d8, d9, d10⟩ := h
  have e1 := tE_1 (B := B) hx hk
  have e2 := (tE_le (B := B) hx).2.1
  have nb := pNc_b (B := B) (N := N) 99 (tE B N x)
  unfold pRib
  split
  · exact pOkl_f (by omega) (by omega)
  · split
    · rename_i q1 q
      obtain ⟨k1, k2, k3⟩ := pNc_0 q
      have e3 := tE_1 (B := B) e2 (by omega)
      have e4 := (tE_le (B := B) e2).2.1
      refine pEnd_k e4 (by omega) ⟨?_, ?_, fun r hr => ?_, d4, d5, d6, d7, d8, d9, ?_⟩
      · show dR D + 1 ≤ 12; omega
      · show dJ D ||| (if jw = 0 then 0 else 2 ^ dR D) < 2 ^ (dR D + 1)
        have p1 : 2 ^ dR D < 2 ^ (dR D + 1) := Nat.pow_lt_pow_right (by omega) (by omega)
        refine Nat.or_lt_two_pow (by omega) ?_
        split
        · exact Nat.two_pow_pos _
        · exact p1
      · show zu (dS D) (dR D) (tV B N (tE B N x)) r ≤ 99
        have hr : r < dR D + 1 := hr
        by_cases z : r = dR D
        · rw [z, zu_eq]; exact k3
        · rw [zu_ne _ _ z]; exact d3 r (by omega)
      · show (dC D).length + (dW D).length ≤ tE B N (tE B N x); omega
    · exact pOkl_f (by omega) (by omega)
theorem pVer_k {D : zDf} {x : Nat} (hx : x ≤ N) (hk : tK B N x ≠ 0) (h : dOk D x) : pOkl N x (pVer B N D x) := by
  obtain ⟨d1, d2, d3, d4, d5, d6, d7, d8, d9, d10⟩ := h
  have e1 := tE_1 (B := B) hx hk
  have e2 := (tE_le (B := B) hx).2.1
  have nb := pNc_b (B := B) (N := N) 4095 (tE B N x)
  unfold pVer
  split
  · exact pOkl_f (by omega) (by omega)
  · split
    · rename_i q1 q
      obtain ⟨k1, k2, k3⟩ := pNc_0 q
      have e3 := tE_1 (B := B) e2 (by omega)
      have e4 := (tE_le (B := B) e2).2.1
      refine pEnd_k e4 (by omega) ⟨d1, d2, d3, ?_, fun r hr => ?_, d6, d7, d8, d9, ?_⟩
      · show dV D + 1 ≤ 8; omega
      · show zu (dT D) (dV D) (tV B N (tE B N x)) r ≤ 4095
        have hr : r < dV D + 1 := hr
        by_cases z : r = dV D
        · rw [z, zu_eq]; exact k3
        · rw [zu_ne _ _ z]; exact d5 r (by omega)
      · show (dC D).length + (dW D).length ≤ tE B N (tE B N x); omega
    · exact pOkl_f (by omega) (by omega)
theorem pCla_k {D : zDf} {x : Nat} (hx : x ≤ N) (hk : tK B N x ≠ 0) (h : dOk D x) : pOkl N x (pCla B N D x) := by
  obtain ⟨d1, d2, d3, d4, d5, d6, d7, d8, d9, d10⟩ := h
  have e1 := tE_1 (B := B) hx hk
  have e2 := (tE_le (B := B) hx).2.1
  have nb := pNc_b (B := B) (N := N) 9 (tE B N x)
  have nb2 := pNc_b (B := B) (N := N) 9 (tE B N (tE B N x))
  unfold pCla
  split
  · exact pOkl_f (by omega) (by omega)
  · split
    · rename_i q1 q
      obtain ⟨k1, k2, k3⟩ := pNc_0 q
      have e3 := tE_1 (B := B) e2 (by omega)
      have e4 := (tE_le (B := B) e2).2.1
      split
      · rename_i q2
        obtain ⟨j1, j2, j3⟩ := pNc_0 q2
        have e5 := tE_1 (B := B) e4 (by omega)
        have e6 := (tE_le (B := B) e4).2.1
        refine pEnd_k e6 (by omega) ⟨d1, d2, d3, d4, d5, k3, j3, d8, d9, ?_⟩
        show (dC D).length + (dW D).length ≤ tE B N (tE B N (tE B N x)); omega
      · exact pOkl_f (by omega) (by omega)
    · exact pOkl_f (by omega) (by omega)
theorem pRul_k {wv : Bool} {D : zDf} {x : Nat} (hN : N ≤ 700) (hx : x ≤ N) (hk : tK B N x ≠ 0) (h : dOk D x) : pOkl N x (pRul B N wv D x) := by
  obtain ⟨d1, d2, d3, d4, d5, d6, d7, d8, d9, d10⟩ := h
  have e1 := tE_1 (B := B) hx hk
  have e2 := (tE_le (B := B) hx).2.1
  unfold pRul
  split
  · rename_i q1
    have g := pEx_G (wv := wv) (B := B) (N := N) 9 0 (tE B N x) e2
    cases hp : pEx wv B N 9 0 (tE B N x) with
    | inl q => rw [hp] at g; exact pOkl_f g.1 (by have := g.2; omega)
    | inr q =>
      rw [hp] at g
      obtain ⟨g1, g2, g3⟩ := g
      obtain ⟨ok1, ok2⟩ := pEx_ok (wv := wv) hN e2 hp
      show pOkl N x (pEnd B N (dPut wv D q.2) q.1)
      refine pEnd_k g2 (by omega) ?_
      cases wv with
      | true =>
        have q1 : dW D = [] := q1
        refine ⟨d1, d2, d3, d4, d5, d6, d7, d8, Or.inr ok2, ?_⟩
        show (dC D).length + q.2.length ≤ q.1
        rw [q1] at d10
        have : (dC D).length + 0 ≤ x := d10
        omega
      | false =>
        have q1 : dC D = [] := q1
        refine ⟨d1, d2, d3, d4, d5, d6, d7, Or.inr ok2, d9, ?_⟩
        show q.2.length + (dW D).length ≤ q.1
        rw [q1] at d10
        have : 0 + (dW D).length ≤ x := d10
        omega
  · exact pOkl_f (by omega) (by omega)
theorem pLine_k {D : zDf} {x : Nat} (hN : N ≤ 700) (hx : x ≤ N) (hk : tK B N x ≠ 0) (h : dOk D x) : pOkl N x (pLine B N D x) := by
  unfold pLine
  split
  · exact pRib_k hx hk h
  · split
    · exact pRib_k hx hk h
    · split
      · exact pCla_k hx hk h
      · split
        · exact pVer_k hx hk h
        · split
          · exact pRul_k hN hx hk h
          · split
            · exact pRul_k hN hx hk h
            · exact pOkl_f (by omega) (by omega)
end LO
/-- a rule in the draft: its code lies within the first c -/
def zRv (h : zH) (p r : Nat) (C : List Nat) (c : Nat) : Prop := zI h r 0 = nI (if C = [] then 0 else 1) ∧ (C ≠ [] → ∃ f, f + C.length ≤ c ∧ zI h r 1 = nI f ∧ zI h r 2 = nI (f + C.length) ∧ ∀ i, i < C.length → zI h (p + 4) (f + i) = nI (C.getD i 0))
def zDC (h : zH) (tp : Nat) (D : zDf) : Prop := zI h tp 6 = nI (dR D) ∧ zI h tp 7 = nI (dJ D) ∧ zI h tp 8 = nI (dV D) ∧ zI h tp 9 = nI ((dC D).length + (dW D).length) ∧ zI h tp 10 = nI (dcl D).toNat ∧ (∀ r, r < dR D → zI h (tp + 1) r = nI (dS D r)) ∧ (∀ v, v < dV D → zI h (tp + 2) v = nI (dT D v)) ∧ zI h (tp + 3) 0 = nI (dk D) ∧ zI h (tp + 3) 1 = nI (dl D) ∧ zRv h tp (tp + 5) (dC D) ((dC D).length + (dW D).length) ∧ zRv h tp (tp + 6) (dW D) ((dC D).length + (dW D).length)
/-- what reading a text writes in the class -/
def zAl (tp : Nat) : Nat → Nat → Prop := fun b k => (b = 16 ∧ 3 ≤ k ∧ k ≤ 14) ∨ b = 17 ∨ (tp ≤ b ∧ b ≤ tp + 6)
def zLs (h0 : zH) (B : Nat → Nat) (N tp : Nat) (h : zH) (x : Nat) (D : zDf) : Prop := zfr (zAl tp) h0 h ∧ zTC h B N x ∧ zDC h tp D
def zLo (h0 : zH) (B : Nat → Nat) (N tp : Nat) (F : Option (Int32 × zH)) (r : pRd) : Prop := match r with
  | Sum.inl q => ∃ h', F = some (nI q.1, h') ∧ zI h' 16 3 = nI q.2 ∧ zfr (zAl tp) h0 h'
  | Sum.inr q => ∃ h', F = some (nI 0, h') ∧ zLs h0 B N tp h' q.1 q.2
section LC
variable {h0 h h1 : zH} {B : Nat → Nat} {N tp x : Nat} {D : zDf} {A : Nat → Nat → Prop}
theorem zRv.fr {p r : Nat} {C : List Nat} {c : Nat} (w : zRv h p r C c) (f : zfr A h h1) (q : ∀ k, ¬ A r k) (q2 : ∀ k, k < c → ¬ A (p + 4) k) {e : Nat} (he : c ≤ e) : zRv h1 p r C e := by
  obtain ⟨w1, w2⟩ := w
  refine ⟨by rw [f.i (q 0)]; exact w1, fun n => ?_⟩
  obtain ⟨g, g1, g2, g3, g4⟩ := w2 n
  exact ⟨g, by omega, by rw [f.i (q 1)]; exact g2, by rw [f.i (q 2)]; exact g3, fun i hi => by rw [f.i (q2 _ (by omega))]; exact g4 i hi⟩
theorem zDC.fr (w : zDC h tp D) (f : zfr A h h1) (q : ∀ b k, tp ≤ b → b ≤ tp + 6 → ¬ A b k) : zDC h1 tp D := by
  obtain ⟨w1, w2, w3, w4, w5, w6, w7, w8, w9, w10, w11⟩ := w
  refine ⟨?_, ?_, ?_, ?_, ?_, fun r hr => ?_, fun v hv => ?_, ?_, ?_, w10.fr f (fun k => q _ _ (by omega) (by omega)) (fun k _ => q _ _ (by omega) (by omega)) (Nat.le_refl _), w11.fr f (fun k => q _ _ (by omega) (by omega)) (fun k _ => q _ _ (by omega) (by omega)) (Nat.le_refl _)⟩
  · rw [f.i (q _ _ (by omega) (by omega))]; exact w1
  · rw [f.i (q _ _ (by omega) (by omega))]; exact w2
  · rw [f.i (q _ _ (by omega) (by omega))]; exact w3
  · rw [f.i (q _ _ (by omega) (by omega))]; exact w4
  · rw [f.i (q _ _ (by omega) (by omega))]; exact w5
  · rw [f.i (q _ _ (by omega) (by omega))]; exact w6 r hr
  · rw [f.i (q _ _ (by omega) (by omega))]; exact w7 v hv
  · rw [f.i (q _ _ (by omega) (by omega))]; exact w8
  · rw [f.i (q _ _ (by omega) (by omega))]; exact w9
theorem x_tb (w : zTbc h0 B N) (hp : tp = 2 ∨ tp = 9) (s : zfr (zAl tp) h0 h) : zTbc h B N := w.fr s (fun b k e => by unfold zAl; omega)
theorem x_adv (w : zTbc h0 B N) (hp : tp = 2 ∨ tp = 9) (s : zLs h0 B N tp h x D) (hx : x ≤ N) : ∃ h', s_X4_advance tp h = some h' ∧ zLs h0 B N tp h' (tE B N x) D := by
  obtain ⟨s1, s2, s3⟩ := s
  obtain ⟨h2, e2, t2, f2⟩ := k_adv (tp := tp) (x_tb w hp s1) (tE_le (B := B) hx).2.1 s2.2.1
  exact ⟨h2, e2, s1.tr (f2.mo (fun b k e => by unfold zAl; omega)), t2, s3.fr f2 (fun b k e1 e2 => by omega)⟩
theorem x_chk (s : zTC h B N x) (hx : x ≤ N) (hN : N ≤ 700) {top : Nat} (ht : top < 10000) : s_X4_checkNumber tp (nI top) h = some (nI (pNc B N top x)) := by
  obtain ⟨t1, t2, t3, t4⟩ := s
  have e1 := tE_le (B := B) hx
  have hk := tK_le (B := B) (N := N) (x := x)
  unfold pNc
  rw [s_X4_checkNumber, t3]
  by_cases q : tK B N x = 3
  · have hv := tV_lt (B := B) q
    rw [if_pos (show nI (tK B N x) = (3 : Int32) by rw [q]; rfl), if_pos q, t2, t1, zq_sub e1.1, t4 q]
    by_cases q2 : 4 < tE B N x - tP B N x
    · rw [if_pos (show (4 : Int32) < nI (tE B N x - tP B N x) from nI_lt (a := 4) q2 (by omega)), if_pos q2]; rfl
    · rw [if_neg (show ¬ (4 : Int32) < nI (tE B N x - tP B N x) from nI_nlt (a := 4) (by omega) (by omega)), if_neg q2]
      by_cases q3 : tV B N x ≤ top
      · rw [if_pos (nI_le q3 (by omega)), if_pos q3]; rfl
      · rw [if_neg (nI_ge (by omega) (by omega)), if_neg q3]; rfl
  · rw [if_neg (show ¬ nI (tK B N x) = (3 : Int32) from nI_ne (b := 3) q (by omega) (by omega)), if_neg q]
    rfl
theorem x_end (w : zTbc h0 B N) (hp : tp = 2 ∨ tp = 9) (s : zLs h0 B N tp h x D) (hx : x ≤ N) : zLo h0 B N tp (s_X4_readLineEnd tp h) (pEnd B N D x) := by
  have tb := x_tb w hp s.1
  unfold pEnd
  rw [s_X4_readLineEnd, show s_X4_isSign tp (59 : Int32) h = _ from k_isS tb s.2.1 hx (c := 59) (by omega), ob_e]
  cases hq : tM B N x 59 with
  | true =>
    obtain ⟨h2, e2, s2⟩ := x_adv w hp s hx
    rw [if_pos (by decide), if_pos rfl, e2, ob_e]
    exact ⟨h2, rfl, s2⟩
  | false =>
    rw [if_neg (fun n => n rfl), if_neg (by decide)]
    exact ⟨h, rfl, s.2.1.1, s.1⟩
theorem x_rib (w : zTbc h0 B N) (hp : tp = 2 ∨ tp = 9) (s : zLs h0 B N tp h x D) (hx : x ≤ N) (hk : tK B N x ≠ 0) (ok : dOk D x) {jw : Nat} (hj : jw ≤ 1) : zLo h0 B N tp (s_X4_readRib tp (nI jw) h) (pRib B N jw D x) := by
  have hN := w.1
  obtain ⟨s1, s2, s3⟩ := id s
  obtain ⟨c1, c2, c3, c4, c5, c6, c7, c8, c9, c10, c11⟩ := id s3
  have r12 := ok.1
  have e2 := (tE_le (B := B) hx).2.1
  unfold pRib
  rw [s_X4_readRib, c1]
  by_cases q : dR D = 12
  · rw [if_neg (show ¬ nI (dR D) < (12 : Int32) by rw [q]; decide), if_pos q]
    exact ⟨h, rfl, s2.1, s1⟩
  · rw [if_pos (show nI (dR D) < (12 : Int32) from nI_lt (b := 12) (by omega) (by omega)), if_neg q]
    obtain ⟨h2, g2, t2⟩ := x_adv w hp s hx
    have nb := pNc_b (B := B) (N := N) 99 (tE B N x)
    rw [g2, ob_e, show s_X4_checkNumber tp (99 : Int32) h2 = _ from x_chk t2.2.1 e2 hN (top := 99) (by omega), ob_e]
    by_cases q0 : pNc B N 99 (tE B N x) = 0
    · obtain ⟨k1, k2, k3⟩ := pNc_0 q0
      have e4 := (tE_le (B := B) e2).2.1
      obtain ⟨u1, u2, u3⟩ := id t2
      obtain ⟨v1, v2, v3, v4, v5, v6, v7, v8, v9, v10, v11⟩ := id u3
      rw [q0, if_pos (show nI 0 = 0 from rfl), if_pos rfl, v1, zq_ix (by omega) (by omega), zlt_e, u2.2.2.2 k1]
      have f3 : zfr (fun b k => b = tp + 1 ∧ k = dR D) h2 (zwI h2 (tp + 1) (dR D) (nI (tV B N (tE B N x)))) := zfr.wI _ _ _ ⟨rfl, rfl⟩
      have c3 : zI (zwI h2 (tp + 1) (dR D) (nI (tV B N (tE B N x)))) (tp + 1) (dR D) = nI (tV B N (tE B N x)) := by rw [zI_wI, if_pos rfl, if_pos rfl]
      generalize zwI h2 (tp + 1) (dR D) (nI (tV B N (tE B N x))) = h3 at f3 c3 ⊢
      have go : ∀ y : Nat, y = (if jw = 0 then 0 else 2 ^ dR D) → zLo h0 B N tp (s_X4_readRib_J39 tp (nI (dJ D)) (nI y) h3) (pEnd B N (dR D + 1, dJ D ||| (if jw = 0 then 0 else 2 ^ dR D), zu (dS D) (dR D) (tV B N (tE B N x)), dV D, dT D, dk D, dl D, dcl D, dC D, dW D) (tE B N (tE B N x))) := by
        intro y ey
        rw [s_X4_readRib_J39, zlt_e, zlt_e, fa_or, ey]
        generalize (if jw = 0 then 0 else 2 ^ dR D) = y
        rw [show zI (zwI h3 tp 7 (nI (dJ D ||| y))) tp 6 = nI (dR D) by rw [zI_wI, if_pos rfl, if_neg (by decide), f3.i (by omega)]; exact v1, show nI (dR D) + 1 = nI (dR D + 1) from nI_1 _]
        have f4 : zfr (fun b k => b = tp ∧ (k = 6 ∨ k = 7)) h3 (zwI (zwI h3 tp 7 (nI (dJ D ||| y))) tp 6 (nI (dR D + 1))) := (zfr.wI tp 7 _ (by omega)).w tp 6 _ (by omega)
        have c6 : zI (zwI (zwI h3 tp 7 (nI (dJ D ||| y))) tp 6 (nI (dR D + 1))) tp 6 = nI (dR D + 1) := by rw [zI_wI, if_pos rfl, if_pos rfl]
        have c7 : zI (zwI (zwI h3 tp 7 (nI (dJ D ||| y))) tp 6 (nI (dR D + 1))) tp 7 = nI (dJ D ||| y) := by rw [zI_wI, if_pos rfl, if_neg (by decide), zI_wI, if_pos rfl, if_pos rfl]
        generalize zwI (zwI h3 tp 7 (nI (dJ D ||| y))) tp 6 (nI (dR D + 1)) = h4 at f4 c6 c7 ⊢
        have s4 : zLs h0 B N tp h4 (tE B N x) (dR D + 1, dJ D ||| y, zu (dS D) (dR D) (tV B N (tE B N x)), dV D, dT D, dk D, dl D, dcl D, dC D, dW D) := by
          have f34 : zfr (fun b k => (b = tp + 1 ∧ k = dR D) ∨ (b = tp ∧ (k = 6 ∨ k = 7))) h2 h4 := (f3.mo (fun b k e => Or.inl e)).tr (f4.mo (fun b k e => Or.inr e))
          refine ⟨(u1.tr (f3.mo (fun b k e => by unfold zAl; omega))).tr (f4.mo (fun b k e => by unfold zAl; omega)), u2.fr f34 (fun b k e => by omega), c6, c7, ?_, ?_, ?_, fun r hr => ?_, fun v hv => ?_, ?_, ?_, ?_, ?_⟩
          · rw [f34.i (by omega)]; exact v3
          · rw [f34.i (by omega)]; exact v4
          · rw [f34.i (by omega)]; exact v5
          · have hr : r < dR D + 1 := hr
            show zI h4 (tp + 1) r = nI (zu (dS D) (dR D) (tV B N (tE B N x)) r)
            by_cases z : r = dR D
            · rw [z, zu_eq, f4.i (by omega)]; exact c3
            · rw [zu_ne _ _ z, f34.i (by omega)]; exact v6 r (by omega)
          · rw [f34.i (by omega)]; exact v7 v hv
          · rw [f34.i (by omega)]; exact v8
          · rw [f34.i (by omega)]; exact v9
          · exact v10.fr f34 (fun k => by omega) (fun k _ => by omega) (Nat.le_refl _)
          · exact v11.fr f34 (fun k => by omega) (fun k _ => by omega) (Nat.le_refl _)
        obtain ⟨h5, g5, s5⟩ := x_adv w hp s4 e2
        rw [g5, ob_e]
        have r6 := x_end w hp s5 e4
        cases hp6 : pEnd B N (dR D + 1, dJ D ||| y, zu (dS D) (dR D) (tV B N (tE B N x)), dV D, dT D, dk D, dl D, dcl D, dC D, dW D) (tE B N (tE B N x)) with
        | inl p =>
          rw [hp6] at r6
          obtain ⟨h6, b1, b2, b3⟩ := r6
          exact ⟨h6, by rw [b1, zbd_e], b2, b3⟩
        | inr p =>
          rw [hp6] at r6
          obtain ⟨h6, b1, b2⟩ := r6
          exact ⟨h6, by rw [b1, zbd_e], b2⟩
      have j7 : zI h3 tp 7 = nI (dJ D) := by rw [f3.i (by omega)]; exact v2
      have j6 : zI h3 tp 6 = nI (dR D) := by rw [f3.i (by omega)]; exact v1
      rw [j7, j6]
      by_cases qj : jw = 0
      · rw [if_pos (show nI jw = 0 by rw [qj]; rfl)]
        exact go 0 (by rw [if_pos qj])
      · rw [if_neg (nI_ne0 (by omega) (by omega)), show (1 : Int32) <<< (nI (dR D) &&& 31) = nI (2 ^ dR D) from zq_shl (r := dR D) (by omega)]
        exact go (2 ^ dR D) (by rw [if_neg qj])
    · rw [if_neg (nI_ne0 (by omega) (by omega)), if_neg q0]
      exact ⟨h2, rfl, t2.2.1.1, t2.1⟩
end LC
