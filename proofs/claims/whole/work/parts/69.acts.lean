/-! ===== acts ===== -/
def zAt : Nat → Nat → Prop := fun b k => zScr b k ∨ (18 ≤ b ∧ b ≤ 29) ∨ b = 39 ∨ b = 47 ∨ b = 62 ∨ (64 ≤ b ∧ b ≤ 68) ∨ b = 76 ∨ b = 77 ∨ b = 79 ∨ (b = 52 ∧ 29 ≤ k ∧ k ≤ 36)
/-- the class's part of it, the reference's -/
def zAcl : Nat → Nat → Prop := fun b k => (18 ≤ b ∧ b ≤ 38) ∨ (b = 39 ∧ k = 5) ∨ (b = 47 ∧ (k = 4 ∨ k = 8))
def zAmo : Nat → Nat → Prop := fun b k => (b = 52 ∧ (k = 4 ∨ (29 ≤ k ∧ k ≤ 36) ∨ (39 ≤ k ∧ k ≤ 41))) ∨ b = 62 ∨ (64 ≤ b ∧ b ≤ 70) ∨ b = 76 ∨ b = 77 ∨ b = 79
/-- one more call was refused -/
def lRf (L : zLg) (i : Nat) : zLg := (lS L, ln L, lA L, lm L, lr L, ld L, lg L, fun j => if j = i then lt L j + 1 else lt L j)
theorem qDay_at {P : zPl} (hP : pOk P) {S : Nat → Nat} (h : sOk (pR P) S) : qDay P S 35 = S 35 + 1 ∧ qDay P S 36 ≤ S 36 + 1 := by
  have hR := hP.1
  have rx : ∀ k r T, r + k ≤ pR P → ∀ j, 12 ≤ j → qRx P k r T j = T j := by
    intro k
    induction k with
    | zero => intro r T _ j _; rfl
    | succ k ih =>
      intro r T hr j hj
      rw [qRx, ih (r + 1) _ (by omega) j hj]
      split
      · rfl
      · rw [zu_ne _ _ (by omega)]
  have lp : ∀ c, c < 2 → ∀ k t T, ∀ j, 34 < j → qLp (pR P) c k t T j = T j := by
    intro c hc k
    induction k with
    | zero => intro t T j _; rfl
    | succ k ih =>
      intro t T j hj
      rw [qLp]
      split
      · rw [ih _ _ j hj, (qGp_at hc).1 j (by omega) (by omega)]
      · rfl
  have wv : ∀ c, c < 2 → ∀ T j, 34 < j → qWv P T c j = T j := by
    intro c hc T j hj
    rw [qWv, lp c hc _ _ _ j hj, (qSk_at hR hc (pR P) T (by omega)).1 j (by omega)]
  have w2 : ∀ T j, 34 < j → qW2 P T j = T j := by
    intro T j hj
    rw [qW2, wv 1 (by omega) _ j hj, wv 0 (by omega) _ j hj]
  unfold qDay qEnd
  refine ⟨?_, ?_⟩
  · rw [zu_eq, w2 _ 35 (by omega), rx _ _ _ (by omega) 35 (by omega)]
  · rw [zu_ne _ _ (by omega)]
    split
    · rw [qBg_o _ (by omega)]
      show qW2 P (qRx P (pR P) 0 S) 36 + 1 ≤ _
      rw [w2 _ 36 (by omega), rx _ _ _ (by omega) 36 (by omega)]
      omega
    · rw [w2 _ 36 (by omega), rx _ _ _ (by omega) 36 (by omega)]
      omega
theorem qIt_at {P : zPl} (hP : pOk P) {S : Nat → Nat} (h : sOk (pR P) S) : ∀ d, qIt P S d 35 = S 35 + d ∧ qIt P S d 36 ≤ S 36 + d := by
  intro d
  induction d with
  | zero => exact ⟨rfl, Nat.le_refl _⟩
  | succ d ih =>
    have := qDay_at hP (qIt_ok hP h d)
    show qDay P (qIt P S d) 35 = _ ∧ qDay P (qIt P S d) 36 ≤ _
    omega
theorem qIt_ok2 {P : zPl} (hP : pOk P) {S : Nat → Nat} (h : sOk2 (pR P) S) {d : Nat} (hd : S 35 + d ≤ 999) : sOk2 (pR P) (qIt P S d) := by
  have := qIt_at hP h.1 d
  have := h.2
  exact ⟨qIt_ok hP h.1 d, by omega, by omega⟩
section AC
variable {c pp : Nat} {h h1 h2 : zH} {P : zPl} {L L2 : zLg} {v : Int32} {G : zH → Option (Int32 × zH)}
theorem zRel.act (w : zRel c h pp P L) (f : zSm zAt h h2) (hL2 : lOk (pR P) L2) (l1 : zLC h2 18 (pR P) L2) (l2 : zLM h2 (pR P) L2) (q : zCa h2 P L2) : zRel c h2 pp P L2 := by
  obtain ⟨w0, w1, w2, w3, w4, w5, w6, w7, ⟨b, w8⟩, ⟨t, w9⟩, w10, w11⟩ := w
  have hR := w1.1
  refine ⟨w0, w1, hL2, w3.sm f ?_, w4.sm f ?_, l1, l2, q, ⟨b, w8.sm f ?_ hR⟩, ⟨t, w9.sm f ?_⟩, ?_, w11.sm f ?_⟩
  · intro b k e1 e2; unfold zAt zScr; omega
  · intro b k e; unfold zAt zScr; omega
  · intro b k e; unfold zAt zScr; omega
  · intro b k e; unfold zAt zScr; omega
  · rw [f _ _ (by unfold zAt zScr; omega), f _ _ (by unfold zAt zScr; omega)]; exact w10
  · intro b k e; unfold zAt zScr; omega
/-- what the reference does at an act -/
def zDo (P : zPl) (L L2 : zLg) (G : zH → Option (Int32 × zH)) (v : Int32) : Prop := ∀ h, zPM h P → zLM h (pR P) L → ∃ h2, G h = some (v, h2) ∧ zI h2 52 4 = nI 0 ∧ zLM h2 (pR P) L2 ∧ zfr zAmo h h2
theorem zAct_a (w : zRel c h pp P L) (f1 : zfr zAcl h h1) (l1 : zLC h1 18 (pR P) L2) (q1 : zCa h1 P L2) (hL2 : lOk (pR P) L2) (g : zDo P L L2 G v) (h1' : zH) (e' : zI h1' = zI h1) : ∃ h2, G h1' = some (v, h2) ∧ zI h2 52 4 = nI 0 ∧ zRel c h2 pp P L2 ∧ zfr zAmo h1' h2 := by
  have hR := w.2.1.1
  have wM : zPM h1 P := w.2.2.2.2.1.sm f1.sm (fun b k e => by unfold zAcl; omega)
  have cM : zLM h1 (pR P) L := w.2.2.2.2.2.2.1.sm f1.sm (fun b k e => by unfold zAcl; omega) hR w.2.2.1
  have wM' : zPM h1' P := wM.co e'
  have cM' : zLM h1' (pR P) L := cM.sm (A := fun _ _ => False) (fun a k _ => by rw [e']) (fun _ _ _ n => n) hR w.2.2.1
  obtain ⟨h2, e2, k2, l2, f2⟩ := g h1' wM' cM'
  refine ⟨h2, e2, k2, ?_, f2⟩
  have s2 : zSm zAmo h1 h2 := fun a k n => by rw [f2.i n, e']
  refine w.act ?_ hL2 (l1.sm s2 (fun b k _ _ => by unfold zAmo; omega) hR hL2) l2 (q1.sm s2 (fun b k e => by unfold zAmo; omega))
  intro a k n
  rw [s2 a k (fun n2 => n (by unfold zAmo at n2; unfold zAt zScr; omega)), f1.i (fun n2 => n (by unfold zAcl at n2; unfold zAt zScr; omega))]
theorem zCall.act {F : Option (Int32 × zH)} (w : zRel c h pp P L) (eF : F = some (nI 0, zwL h1 90 0 v.toInt64)) (f1 : zfr zAcl h h1) (l1 : zLC h1 18 (pR P) L2) (q1 : zCa h1 P L2) (hL2 : lOk (pR P) L2) (g : zDo P L L2 G v) : zCall c h pp P F G := by
  obtain ⟨h2, e2, k2, w2, f2⟩ := zAct_a w f1 l1 q1 hL2 g (zwL h1 90 0 v.toInt64) rfl
  refine ⟨nI 0, _, v, h2, L2, eF, e2, k2, fun _ => ?_, w2.up, ?_⟩
  · rw [f2.2.2.1]; rfl
  · obtain ⟨a1, a2, a3, a4, a5, a6, a7⟩ := f1
    obtain ⟨b1, b2, b3, b4, b5, b6, b7⟩ := f2
    refine ⟨b1.trans a1, b4.trans a4, ?_, ?_, ?_⟩
    · rw [b5]; show zc h1 ≤ _; rw [a5]; omega
    · rw [b6]; show zs h1 ≤ _; rw [a6]; omega
    · rw [b7 0 8 (by unfold zAmo; omega)]; exact a7 0 8 (by unfold zAcl; omega)
theorem zCal2.act {F : Option (Int32 × zH)} (w : zRel c h pp P L) (eF : F = some (v, h1)) (f1 : zfr zAcl h h1) (l1 : zLC h1 18 (pR P) L2) (q1 : zCa h1 P L2) (hL2 : lOk (pR P) L2) (g : zDo P L L2 G v) : zCal2 c h pp P F G := by
  obtain ⟨h2, e2, k2, w2, f2⟩ := zAct_a w f1 l1 q1 hL2 g h1 rfl
  refine ⟨v, _, h2, L2, eF, e2, w2.up, ?_⟩
  obtain ⟨a1, a2, a3, a4, a5, a6, a7⟩ := f1
  obtain ⟨b1, b2, b3, b4, b5, b6, b7⟩ := f2
  refine ⟨b1.trans a1, b4.trans a4, ?_, ?_, ?_⟩
  · rw [b5, a5]; omega
  · rw [b6, a6]; omega
  · rw [b7 0 8 (by unfold zAmo; omega)]; exact a7 0 8 (by unfold zAcl; omega)
/-- the reference begins every call so -/
theorem zDo.go {K : zH → Option (Int32 × zH)} (g : ∀ h, zPM h P → zLM h (pR P) L → zI h 52 4 = nI 0 → ∃ h2, K h = some (v, h2) ∧ zI h2 52 4 = nI 0 ∧ zLM h2 (pR P) L2 ∧ zfr zAmo h h2) (hR : pR P ≤ 12) (hL : lOk (pR P) L) : zDo P L L2 (fun h => zlt (zwI h 52 4 (0 : Int32)) K) v := by
  intro h w l
  have f : zfr zAmo h (zwI h 52 4 (0 : Int32)) := zfr.wI 52 4 _ (by unfold zAmo; omega)
  have f' : zfr (fun b k => b = 52 ∧ k = 4) h (zwI h 52 4 (0 : Int32)) := zfr.wI 52 4 _ ⟨rfl, rfl⟩
  obtain ⟨h2, e2, k2, l2, f2⟩ := g _ (w.fr f' (fun b k e => by omega)) (l.sm f'.sm (fun b k e => by omega) hR hL) rfl
  exact ⟨h2, e2, k2, l2, f.tr f2⟩
theorem zCa_eq (e1 : lS L2 = lS L) (e2 : lm L2 = lm L) (e3 : lr L2 = lr L) (e4 : ld L2 = ld L) (e5 : lg L2 = lg L) (w : zCa h P L) : zCa h P L2 := by
  have a1 : ∀ S, qAs P L2 S = qAs P L S := fun S => by unfold qAs; rw [e2, e3, e4, e5]
  have a2 : qFt P L2 = qFt P L := by funext q; unfold qFt; rw [a1, e1]
  have a3 : ∀ d, qUn P L2 d = qUn P L d := fun d => by
    have : qUs P L2 d (99 * pR P) = qUs P L d (99 * pR P) := by funext s; unfold qUs; rw [a2, e1]
    unfold qUn; rw [this]
  have a4 : ∀ d, qLk P L2 d = qLk P L d := by
    intro d
    induction d with
    | zero => rfl
    | succ d ih => rw [qLk, qLk, ih, a3]
  unfold zCa qFn qF1 at w ⊢
  rw [e1, a1, a2, a4]
  exact w
theorem lRf_ok {i : Nat} {R : Nat} (h : lOk R L) : lOk R (lRf L i) := h
theorem zCa_rf {i : Nat} (w : zCa h P L) : zCa h P (lRf L i) := by
  refine zCa_eq (L := L) (L2 := lRf L i) ?_ ?_ ?_ ?_ ?_ w <;> rfl
theorem r_ref (w : zRel c h pp P L) {i : Nat} (hi : i < 3) : ∃ h1, s_X10_refuse pp (nI i) h = some (nM, h1) ∧ zLC h1 18 (pR P) (lRf L i) ∧ zCa h1 P (lRf L i) ∧ zfr zAcl h h1 := by
  obtain ⟨w0, hP, hL, wC, wM, cC, cM, wa, -⟩ := id w
  have hR := hP.1
  rw [s_X10_refuse, zq_ix hi (by omega), zq_ix hi (by omega), zlt_e]
  have f : zfr (fun b k => b = 28) h (zwI h 28 i (zI h 28 i + 1)) := zfr.wI 28 i _ rfl
  refine ⟨_, rfl, ?_, ?_, f.mo (fun b k e => by unfold zAcl; omega)⟩
  · obtain ⟨c1, c2, c3, c4, c5, c6⟩ := cC
    refine ⟨c1.fr f (fun b k _ _ => by omega), ?_, fun j hj => (c3 j hj).sm f.sm (fun _ _ _ => by omega) hR (hL.2.2.1 j hj).1.2.2.2.2.2, ?_, fun j hj => ⟨?_, ?_, ?_⟩, fun j hj => ?_⟩
    · rw [f.i (by omega)]; exact c2
    · rw [f.i (by omega)]; exact c4
    · rw [f.i (by omega)]; exact (c5 j hj).1
    · rw [f.i (by omega)]; exact (c5 j hj).2.1
    · rw [f.i (by omega)]; exact (c5 j hj).2.2
    · show zI (zwI h 28 i (zI h 28 i + 1)) 28 j = if j = i then lt L j + 1 else lt L j
      rw [zI_wI, if_pos rfl]
      by_cases q : j = i
      · subst q
        rw [if_pos rfl, if_pos rfl]
        exact congrArg (· + 1) (c6 j hj)
      · rw [if_neg q, if_neg q]
        exact c6 j hj
  · exact zCa.sm f.sm (fun b k e => by omega) (zCa_rf wa)
theorem r_refM (hR : pR P ≤ 12) (hL : lOk (pR P) L) (cM : zLM h (pR P) L) {i : Nat} (hi : i < 3) : ∃ h1, s_X11_refuse (nI i) h = some (nM, h1) ∧ zLM h1 (pR P) (lRf L i) ∧ zI h1 52 4 = zI h 52 4 ∧ zfr zAmo h h1 := by
  rw [s_X11_refuse, zq_ix hi (by omega), zq_ix hi (by omega), zlt_e]
  have f : zfr (fun b k => b = 62) h (zwI h 62 i (zI h 62 i + 1)) := zfr.wI 62 i _ rfl
  refine ⟨_, rfl, ?_, f.i (by omega), f.mo (fun b k e => by unfold zAmo; omega)⟩
  obtain ⟨c1, c2, c3, c4, c5, c6⟩ := cM
  refine ⟨c1.fr f (fun b k e => by omega), ?_, fun j hj => (c3 j hj).sm f.sm (fun _ _ _ => by omega) hR (hL.2.2.1 j hj).1.2.2.2.2.2, ?_, fun j hj => ⟨?_, ?_, ?_⟩, fun j hj => ?_⟩
  · rw [f.i (by omega)]; exact c2
  · rw [f.i (by omega)]; exact c4
  · rw [f.i (by omega)]; exact (c5 j hj).1
  · rw [f.i (by omega)]; exact (c5 j hj).2.1
  · rw [f.i (by omega)]; exact (c5 j hj).2.2
  · show zI (zwI h 62 i (zI h 62 i + 1)) 62 j = if j = i then lt L j + 1 else lt L j
    rw [zI_wI, if_pos rfl]
    by_cases q : j = i
    · subst q
      rw [if_pos rfl, if_pos rfl]
      exact congrArg (· + 1) (c6 j hj)
    · rw [if_neg q, if_neg q]
      exact c6 j hj
/-- nothing that was worked out stands -/
def zOff (h : zH) : Prop := zI h 39 5 = nI 0 ∧ zI h 47 4 = nI 0 ∧ zI h 47 8 = nI 0
theorem zOff.ca (w : zOff h) : zCa h P L := ⟨Or.inl w.1, Or.inl w.2.1, Or.inl w.2.2⟩
theorem zOff.fr {A : Nat → Nat → Prop} (w : zOff h) (f : zfr A h h1) (q : ∀ b k, b = 39 ∨ b = 47 → ¬ A b k) : zOff h1 := ⟨by rw [f.i (q _ _ (by omega))]; exact w.1, by rw [f.i (q _ _ (by omega))]; exact w.2.1, by rw [f.i (q _ _ (by omega))]; exact w.2.2⟩
theorem k_off (h : zH) : ∃ h1, s_X10_noteChange pp h = some h1 ∧ zOff h1 ∧ zfr (fun b k => (b = 39 ∧ k = 5) ∨ (b = 47 ∧ (k = 4 ∨ k = 8))) h h1 := by
  rw [s_X10_noteChange, zlt_e, zlt_e, zlt_e]
  exact ⟨_, rfl, ⟨rfl, rfl, rfl⟩, ((zfr.wI 39 5 _ (by omega)).w 47 4 _ (by omega)).w 47 8 _ (by omega)⟩
theorem r_keep (w : zRel c h pp P L) : ∃ h1, s_X10_keepAct pp h = some h1 ∧ zLC h1 18 (pR P) (lKp L (lS L)) ∧ zOff h1 ∧ zPC h1 pp P ∧ zfr zAcl h h1 ∧ ∀ b k, b ≤ 15 ∨ (19 ≤ b ∧ b ≤ 28) → zI h1 b k = zI h b k := by
  obtain ⟨w0, hP, hL, wC, wM, cC, cM, wa, -⟩ := id w
  have hR := hP.1
  obtain ⟨h2, e2, l2, f2⟩ := k_keep hR hL cC
  obtain ⟨h3, e3, o3, f3⟩ := k_off (pp := pp) h2
  refine ⟨h3, by rw [s_X10_keepAct, e2, ob_e, e3, ob_e], l2.sm f3.sm (fun b k _ _ => by omega) hR (lKp_ok hL hL.1), o3, (wC.fr f2 (fun b k _ _ => by omega)).fr f3 (fun b k _ _ => by omega), (f2.mo (fun b k e => by unfold zAcl; omega)).tr (f3.mo (fun b k e => by unfold zAcl; omega)), fun b k e => by rw [f3.i (by omega), f2.i (by omega)]⟩
/-- an act in the class: kept, then the state is another one -/
theorem r_act (hR : pR P ≤ 12) (hL : lOk (pR P) L) {S : Nat → Nat} {h0 : zH} (l : zLC h0 18 (pR P) (lKp L (lS L))) (o : zOff h0) (f0 : zfr zAcl h h0) (f : zfr (fun b _ => (19 ≤ b ∧ b ≤ 24) ∨ (36 ≤ b ∧ b ≤ 38)) h0 h1) (s : zSC h1 19 (pR P) S) : zLC h1 18 (pR P) (lKp L S) ∧ zCa h1 P (lKp L S) ∧ zfr zAcl h h1 := by
  refine ⟨l.wi hR (lKp_ok hL hL.1) f (fun b k e => by omega) s, (o.fr f (fun b k e => by omega)).ca, f0.tr (f.mo (fun b k e => by unfold zAcl; omega))⟩
theorem k_days_L (hp : pp = 2 ∨ pp = 9) (hP : pOk P) {S : Nat → Nat} (ho : sOk (pR P) S) {d : Nat} (hd : d ≤ 20) : ∀ k i n h, i + k = d → k < n → zPC h pp P → zSC h 19 (pR P) (qIt P S i) → ∃ h', s_X10_days_L22 pp n (nI d) (nI i) h = some (nI (qIt P S d 35), h') ∧ zSC h' 19 (pR P) (qIt P S d) ∧ zfr (zAd 19) h h' := by
  intro k
  induction k with
  | zero =>
    intro i n h e hn w s
    obtain ⟨m, rfl, -⟩ := zq_suc hn
    have e2 : i = d := by omega
    subst e2
    refine ⟨h, ?_, s, zfr.rf _ h⟩
    rw [s_X10_days_L22, if_pos (nI_le (by omega) (by omega)), s.2.2.2.2.2.2.1]
  | succ k ih =>
    intro i n h e hn w s
    obtain ⟨m, rfl, hm⟩ := zq_suc hn
    obtain ⟨h1, e1, s1, g1, f1⟩ := k_pass (Or.inl rfl) hp hP w s (qIt_ok hP ho i)
    have w1 : zPC h1 pp P := w.fr f1 (fun b k _ _ => by unfold zAd; omega)
    obtain ⟨h2, e2, s2, f2⟩ := ih (i + 1) m h1 (by omega) (by omega) w1 s1
    rw [s_X10_days_L22, if_neg (nI_ge (by omega) (by omega)), e1, zbd_e, show nI i + 1 = nI (i + 1) from nI_1 i]
    exact ⟨h2, e2, s2, f1.tr f2⟩
theorem c_days (w : zRel c h pp P L) (x : Int32) : zCal2 c h pp P (s_X10_days pp x h) (s_X11_days x) := by
  obtain ⟨w0, hP, hL, wC, wM, cC, cM, wa, -⟩ := id w
  have hR := hP.1
  have bad : (x < nI 1 ∨ nI 20 < x ∨ ∃ d, 1 ≤ d ∧ d ≤ 20 ∧ x = nI d ∧ 999 < lS L 35 + d) → zCal2 c h pp P (s_X10_days pp x h) (s_X11_days x) := by
    intro hx
    obtain ⟨h1, e1, l1, q1, f1⟩ := r_ref w (i := 1) (by omega)
    refine zCal2.act (v := nM) w ?_ f1 l1 q1 (lRf_ok hL) (zDo.go (fun h p l k4 => ?_) hR hL)
    · rw [s_X10_days]
      by_cases q : x < 1
      · rw [if_pos q, s_X10_days_J14, zq_1, e1, zbd_e]
      · rw [if_neg q]
        by_cases q2 : (20 : Int32) < x
        · rw [if_pos q2, s_X10_days_J14, zq_1, e1, zbd_e]
        · rw [if_neg q2]
          obtain ⟨d, d1, d2, rfl, d3⟩ := (hx.resolve_left q).resolve_left q2
          rw [show zI h 19 6 = nI (lS L 35) from cC.1.2.2.2.2.2.2.1, nI_add, if_neg (show ¬ nI (lS L 35 + d) ≤ 999 from nI_ge (a := 999) (by omega) (by have := hL.1.2.1; omega)), s_X10_days_J14, zq_1, e1, zbd_e]
    · obtain ⟨h2, e2, l2, k2, f2⟩ := r_refM hR hL l (i := 1) (by omega)
      refine ⟨h2, ?_, k2.trans k4, l2, f2⟩
      by_cases q : x < nI 1 ∨ nI 20 < x
      · rw [show s_X11_isIn x.toInt64 (1 : Int64) (20 : Int64) h = some (nI 0) from k_in0 (a := 1) (b := 20) q h, ob_e, if_pos (show nI 0 = 0 from rfl), s_X11_days_J15, zq_1, e2, zbd_e]
      · obtain ⟨d, d1, d2, rfl, d3⟩ := (hx.resolve_left (fun n => q (Or.inl n))).resolve_left (fun n => q (Or.inr n))
        rw [show s_X11_isIn (nI d).toInt64 (1 : Int64) (20 : Int64) h = some (nI 1) from k_in1 (a := 1) (b := 20) d1 d2 (by omega) h, ob_e, if_neg (by decide), l.1.2.2.2.2.2.2.1, nI_add, if_neg (show ¬ nI (lS L 35 + d) ≤ 999 from nI_ge (a := 999) (by omega) (by have := hL.1.2.1; omega)), s_X11_days_J15, zq_1, e2, zbd_e]
  rcases zq_with x 1 20 (by omega) (by omega) with hx | ⟨d, d1, d2, rfl⟩
  · exact bad (hx.imp id Or.inl)
  · rcases Nat.lt_or_ge 999 (lS L 35 + d) with q | q
    · exact bad (Or.inr (Or.inr ⟨d, d1, d2, rfl, q⟩))
    · have ok2 := qIt_ok2 hP hL.1 q
      obtain ⟨h0, e0, l0, o0, p0, f0, g0⟩ := r_keep w
      have s0 : zSC h0 19 (pR P) (lS L) := l0.1
      obtain ⟨h1, e1, s1, f1⟩ := k_days_L w0 hP hL.1.1 d2 d 0 zfu h0 (by omega) (zq_fu (by omega)) p0 s0
      obtain ⟨a1, a2, a3⟩ := r_act hR hL l0 o0 f0 (f1.mo (fun b k e => by unfold zAd at e; omega)) s1
      refine zCal2.act (v := nI (qIt P (lS L) d 35)) w ?_ a3 a1 a2 (lKp_ok hL ok2) (zDo.go (fun h p l k4 => ?_) hR hL)
      · rw [s_X10_days, if_neg (show ¬ nI d < 1 from nI_nlt (b := 1) d1 (by omega)), if_neg (show ¬ (20 : Int32) < nI d from nI_nlt (a := 20) d2 (by omega)), show zI h 19 6 = nI (lS L 35) from cC.1.2.2.2.2.2.2.1, nI_add, if_pos (show nI (lS L 35 + d) ≤ 999 from nI_le (b := 999) q (by omega)), e0, ob_e]
        exact e1
      · obtain ⟨h3, e3, l3, f3⟩ := k_keepM hR hL l
        obtain ⟨h4, e4, s4, f4⟩ := k_goOn hP hL.1.1 (d := d) (by omega) d 0 zfu h3 (by omega) (zq_fu (by omega)) (p.fr f3 (fun b k e => by omega)) l3.1
        refine ⟨h4, ?_, ?_, l3.wi hR (lKp_ok hL hL.1) f4 (fun b k e => by unfold zAm; omega) s4, (f3.mo (fun b k e => by unfold zAmo; omega)).tr (f4.mo (fun b k e => by unfold zAm at e; unfold zAmo; omega))⟩
        · rw [show s_X11_isIn (nI d).toInt64 (1 : Int64) (20 : Int64) h = some (nI 1) from k_in1 (a := 1) (b := 20) d1 d2 (by omega) h, ob_e, if_neg (by decide), l.1.2.2.2.2.2.2.1, nI_add, if_pos (show nI (lS L 35 + d) ≤ 999 from nI_le (b := 999) q (by omega)), e3, ob_e, show s_X11_goOn (nI d) h3 = some h4 from e4, ob_e, s4.2.2.2.2.2.2.1]
        · rw [f4.i (by unfold zAm; omega), f3.i (by omega)]; exact k4
end AC
