/-! ===== tokens in the reference ===== -/
def zTbm (h : zH) (B : Nat → Nat) (N : Nat) : Prop := N ≤ 700 ∧ zI h 52 15 = nI N ∧ ∀ i, i < N → B i < 256 ∧ zI h 63 i = nI (B i)
def zTM (h : zH) (B : Nat → Nat) (N x : Nat) : Prop := zI h 52 14 = nI (tE B N x) ∧ zI h 52 16 = nI (tK B N x - 1) ∧ zI h 52 18 = nI (tP B N x) ∧ zI h 52 19 = nI (tE B N x) ∧ (tK B N x = 3 → tE B N x - tP B N x ≤ 4 → zI h 52 17 = nI (tV B N x))
/-- what a step writes -/
def zAu : Nat → Nat → Prop := fun b k => b = 52 ∧ (k = 14 ∨ (16 ≤ k ∧ k ≤ 19))
theorem k_let {c : Nat} (hc : c < 256) (h : zH) : s_X11_isLetter (nI c) h = some (nI (qLet c).toNat) := by
  rw [s_X11_isLetter]
  by_cases q1 : c < 97
  · rw [if_pos (show nI c < (97 : Int32) from nI_lt (b := 97) q1 (by omega)), show qLet c = false from decide_eq_false (by omega)]; rfl
  · rw [if_neg (show ¬ nI c < (97 : Int32) from nI_nlt (b := 97) (by omega) (by omega))]
    by_cases q2 : 122 < c
    · rw [if_pos (show (122 : Int32) < nI c from nI_lt (a := 122) q2 (by omega)), show qLet c = false from decide_eq_false (by omega)]; rfl
    · rw [if_neg (show ¬ (122 : Int32) < nI c from nI_nlt (a := 122) (by omega) (by omega)), show qLet c = true from decide_eq_true (by omega)]; rfl
theorem k_digM {c : Nat} (hc : c < 256) (h : zH) : s_X11_isDigit (nI c) h = some (nI (qDig c).toNat) := by
  rw [s_X11_isDigit]
  by_cases q1 : c < 48
  · rw [if_pos (show nI c < (48 : Int32) from nI_lt (b := 48) q1 (by omega)), show qDig c = false from decide_eq_false (by omega)]; rfl
  · rw [if_neg (show ¬ nI c < (48 : Int32) from nI_nlt (b := 48) (by omega) (by omega))]
    by_cases q2 : 57 < c
    · rw [if_pos (show (57 : Int32) < nI c from nI_lt (a := 57) q2 (by omega)), show qDig c = false from decide_eq_false (by omega)]; rfl
    · rw [if_neg (show ¬ (57 : Int32) < nI c from nI_nlt (a := 57) (by omega) (by omega)), show qDig c = true from decide_eq_true (by omega)]; rfl
theorem k_neg (h : zH) : s_X11_isLetter (-1 : Int32) h = some (nI 0) ∧ s_X11_isDigit (-1 : Int32) h = some (nI 0) := by
  rw [s_X11_isLetter, s_X11_isDigit, if_pos (by decide), if_pos (by decide)]
  exact ⟨rfl, rfl⟩
theorem k_mrk1 : (List.range 256).all (fun c => decide ((nI c = 59 ↔ c = 59) ∧ (nI c = 40 ↔ c = 40) ∧ (nI c = 41 ↔ c = 41) ∧ (nI c = 43 ↔ c = 43) ∧ (nI c = 45 ↔ c = 45) ∧ (nI c = 42 ↔ c = 42) ∧ (nI c = 47 ↔ c = 47) ∧ (nI c = 60 ↔ c = 60) ∧ (nI c = 61 ↔ c = 61) ∧ (nI c = 32 ↔ c = 32) ∧ (nI c = 10 ↔ c = 10))) = true := by decide +kernel
theorem k_mrk {c : Nat} (hc : c < 256) (h : zH) : s_X11_isMark (nI c) h = some (nI (qMrk c).toNat) := by
  obtain ⟨k1, k2, k3, k4, k5, k6, k7, k8, k9, -⟩ := of_decide_eq_true (v_all k_mrk1 hc)
  rw [s_X11_isMark]
  have yes : (c = 59 ∨ c = 40 ∨ c = 41 ∨ c = 43 ∨ c = 45 ∨ c = 42 ∨ c = 47 ∨ c = 60 ∨ c = 61) → qMrk c = true := fun q => decide_eq_true q
  by_cases q1 : c = 59
  · rw [if_pos (k1.mpr q1), yes (by omega)]; rfl
  rw [if_neg (fun n => q1 (k1.mp n))]
  by_cases q2 : c = 40
  · rw [if_pos (k2.mpr q2), yes (by omega)]; rfl
  rw [if_neg (fun n => q2 (k2.mp n))]
  by_cases q3 : c = 41
  · rw [if_pos (k3.mpr q3), yes (by omega)]; rfl
  rw [if_neg (fun n => q3 (k3.mp n))]
  by_cases q4 : c = 43
  · rw [if_pos (k4.mpr q4), yes (by omega)]; rfl
  rw [if_neg (fun n => q4 (k4.mp n))]
  by_cases q5 : c = 45
  · rw [if_pos (k5.mpr q5), yes (by omega)]; rfl
  rw [if_neg (fun n => q5 (k5.mp n))]
  by_cases q6 : c = 42
  · rw [if_pos (k6.mpr q6), yes (by omega)]; rfl
  rw [if_neg (fun n => q6 (k6.mp n))]
  by_cases q7 : c = 47
  · rw [if_pos (k7.mpr q7), yes (by omega)]; rfl
  rw [if_neg (fun n => q7 (k7.mp n))]
  by_cases q8 : c = 60
  · rw [if_pos (k8.mpr q8), yes (by omega)]; rfl
  rw [if_neg (fun n => q8 (k8.mp n))]
  by_cases q9 : c = 61
  · rw [if_neg (fun n => n (k9.mpr q9)), yes (by omega)]; rfl
  · rw [if_pos (fun n => q9 (k9.mp n)), show qMrk c = false from decide_eq_false (by omega)]; rfl
theorem qKi_l {c : Nat} : qKi c = 2 ↔ qLet c = true := by
  have h1 : qLet c = true → ¬ qBk c = true := fun a b => by
    have a := of_decide_eq_true a
    have b := of_decide_eq_true b
    omega
  unfold qKi
  constructor
  · intro h
    split at h
    · omega
    · split at h
      · assumption
      · split at h
        · omega
        · split at h <;> omega
  · intro h
    rw [if_neg (h1 h), if_pos h]
theorem qKi_d {c : Nat} : qKi c = 3 ↔ qDig c = true := by
  have h1 : qDig c = true → ¬ qBk c = true ∧ ¬ qLet c = true := fun a => by
    have a := of_decide_eq_true a
    exact ⟨fun b => by have b := of_decide_eq_true b; omega, fun b => by have b := of_decide_eq_true b; omega⟩
  constructor
  · intro h
    exact decide_eq_true (qKi_3 h)
  · intro h
    unfold qKi
    rw [if_neg (h1 h).1, if_neg (h1 h).2, if_pos h]
theorem qKi_k {c : Nat} : qKi c = 1 ↔ (c = 32 ∨ c = 10) := by
  unfold qKi
  constructor
  · intro h
    split at h
    · rename_i q; exact of_decide_eq_true q
    · split at h
      · omega
      · split at h
        · omega
        · split at h <;> omega
  · intro h
    rw [if_pos (show qBk c = true from decide_eq_true h)]
theorem qKi_m {c : Nat} (h1 : qKi c ≠ 1) (h2 : qKi c ≠ 2) (h3 : qKi c ≠ 3) : qKi c = if qMrk c = true then 4 else 5 := by
  have a1 : ¬ qBk c = true := fun n => h1 (qKi_k.mpr (of_decide_eq_true n))
  have a2 : ¬ qLet c = true := fun n => h2 (qKi_l.mpr n)
  have a3 : ¬ qDig c = true := fun n => h3 (qKi_d.mpr n)
  unfold qKi
  rw [if_neg a1, if_neg a2, if_neg a3]
section TM
variable {A : Nat → Nat → Prop} {h h1 : zH} {B : Nat → Nat} {N x : Nat}
theorem zTbm.fr (w : zTbm h B N) (f : zfr A h h1) (q : ∀ b k, (b = 52 ∧ k = 15) ∨ b = 63 → ¬ A b k) : zTbm h1 B N := by
  obtain ⟨w1, w2, w3⟩ := w
  refine ⟨w1, by rw [f.i (q _ _ (by omega))]; exact w2, fun i hi => ⟨(w3 i hi).1, ?_⟩⟩
  rw [f.i (q _ _ (by omega))]; exact (w3 i hi).2
theorem zTM.fr (w : zTM h B N x) (f : zfr A h h1) (q : ∀ b k, zAu b k → ¬ A b k) : zTM h1 B N x := by
  obtain ⟨w1, w2, w3, w4, w5⟩ := w
  exact ⟨by rw [f.i (q _ _ (by unfold zAu; omega))]; exact w1, by rw [f.i (q _ _ (by unfold zAu; omega))]; exact w2, by rw [f.i (q _ _ (by unfold zAu; omega))]; exact w3, by rw [f.i (q _ _ (by unfold zAu; omega))]; exact w4, fun e e2 => by rw [f.i (q _ _ (by unfold zAu; omega))]; exact w5 e e2⟩
theorem k_ba (w : zTbm h B N) {i : Nat} (hi : i < N) : s_X11_byteAt (nI i) h = some (nI (B i)) := by
  obtain ⟨w1, w2, w3⟩ := w
  rw [s_X11_byteAt, w2, if_neg (nI_ge hi (by omega)), zq_ix (by omega) (by omega), (w3 i hi).2]
theorem k_ba0 (w : zTbm h B N) : s_X11_byteAt (nI N) h = some (-1 : Int32) := by
  obtain ⟨w1, w2, w3⟩ := w
  rw [s_X11_byteAt, w2, if_pos (nI_le (Nat.le_refl _) (by omega))]
theorem k_so1 : ∀ m i n h, zTbm h B N → i + m = N → m < n → zI h 52 14 = nI i → ∃ h' n', s_X11_stepOn_L0 n h = s_X11_stepOn_L0 (n' + 1) h' ∧ zI h' 52 14 = nI (tRw B 1 m i) ∧ zfr zAu h h' := by
  intro m
  induction m with
  | zero =>
    intro i n h w e hn h14
    obtain ⟨n, rfl, -⟩ := zq_suc hn
    exact ⟨h, n, rfl, by rw [tRw]; exact h14, zfr.rf _ h⟩
  | succ m ih =>
    intro i n h w e hn h14
    obtain ⟨n, rfl, hn2⟩ := zq_suc hn
    by_cases q : qKi (B i) = 1
    · have hb := (w.2.2 i (by omega)).1
      obtain ⟨-, -, -, -, -, -, -, -, -, m1, m2⟩ := of_decide_eq_true (v_all k_mrk1 hb)
      have f1 : zfr zAu h (zwI h 52 14 (nI (i + 1))) := zfr.wI 52 14 _ (by unfold zAu; omega)
      have c1 : zI (zwI h 52 14 (nI (i + 1))) 52 14 = nI (i + 1) := by rw [zI_wI, if_pos rfl, if_pos rfl]
      have go : ∃ h' n', s_X11_stepOn_L0 n (zwI h 52 14 (nI (i + 1))) = s_X11_stepOn_L0 (n' + 1) h' ∧ zI h' 52 14 = nI (tRw B 1 (m + 1) i) ∧ zfr zAu h h' := by
        obtain ⟨h2, n2, e2, g2, f2⟩ := ih (i + 1) n (zwI h 52 14 (nI (i + 1))) (w.fr f1 (fun b k e => by unfold zAu; omega)) (by omega) (by omega) c1
        exact ⟨h2, n2, e2, by rw [tRw, if_pos q]; exact g2, f1.tr f2⟩
      rw [s_X11_stepOn_L0, h14, k_ba w (by omega), ob_e, zlt_e, show nI i + 1 = nI (i + 1) from nI_1 i]
      rcases qKi_k.mp q with z | z
      · rw [if_pos (m1.mpr z)]; exact go
      · rw [if_neg (fun n => by have := m1.mp n; omega), ob_e, if_neg (fun n => n (m2.mpr z))]; exact go
    · exact ⟨h, n, rfl, by rw [tRw, if_neg q]; exact h14, zfr.rf _ h⟩
theorem k_so2 {p : Nat} : ∀ m i n h, zTbm h B N → i + m = N → m < n → zI h 52 14 = nI i → zI h 52 18 = nI p → ∃ h', s_X11_stepOn_L38 n h = some h' ∧ zI h' 52 14 = nI (tRw B 2 m i) ∧ zI h' 52 16 = nI 1 ∧ zI h' 52 18 = nI p ∧ zI h' 52 19 = nI (tRw B 2 m i) ∧ zfr zAu h h' := by
  have fin : ∀ i h, zI h 52 14 = nI i → zI h 52 18 = nI p → ∃ h', (zlt (zwI h 52 16 (1 : Int32)) fun h3 => zlt (zwI h3 52 19 (zI h3 52 14)) fun h4 => some h4) = some h' ∧ zI h' 52 14 = nI i ∧ zI h' 52 16 = nI 1 ∧ zI h' 52 18 = nI p ∧ zI h' 52 19 = nI i ∧ zfr zAu h h' := by
    intro i h h14 h18
    rw [zlt_e, zlt_e]
    refine ⟨_, rfl, ?_, ?_, ?_, ?_, (zfr.wI 52 16 _ (by unfold zAu; omega)).w 52 19 _ (by unfold zAu; omega)⟩
    · rw [zI_wI, if_pos rfl, if_neg (by decide), zI_wI, if_pos rfl, if_neg (by decide)]; exact h14
    · rw [zI_wI, if_pos rfl, if_neg (by decide), zI_wI, if_pos rfl, if_pos rfl]; rfl
    · rw [zI_wI, if_pos rfl, if_neg (by decide), zI_wI, if_pos rfl, if_neg (by decide)]; exact h18
    · rw [zI_wI, if_pos rfl, if_pos rfl, zI_wI, if_pos rfl, if_neg (by decide)]; exact h14
  intro m
  induction m with
  | zero =>
    intro i n h w e hn h14 h18
    obtain ⟨n, rfl, -⟩ := zq_suc hn
    have e2 : i = N := by omega
    rw [s_X11_stepOn_L38, h14, e2, k_ba0 w, ob_e, (k_neg h).1, ob_e, if_pos (show nI 0 = 0 from rfl), tRw]
    exact fin N h (by rw [h14, e2]) h18
  | succ m ih =>
    intro i n h w e hn h14 h18
    obtain ⟨n, rfl, hn2⟩ := zq_suc hn
    have hb := (w.2.2 i (by omega)).1
    rw [s_X11_stepOn_L38, h14, k_ba w (by omega), ob_e, k_let hb, ob_e, tRw]
    by_cases q : qKi (B i) = 2
    · rw [if_pos q, qKi_l.mp q, if_neg (by decide), zlt_e, show nI i + 1 = nI (i + 1) from nI_1 i]
      have f1 : zfr zAu h (zwI h 52 14 (nI (i + 1))) := zfr.wI 52 14 _ (by unfold zAu; omega)
      obtain ⟨h2, e2, g1, g2, g3, g4, f2⟩ := ih (i + 1) n (zwI h 52 14 (nI (i + 1))) (w.fr f1 (fun b k e => by unfold zAu; omega)) (by omega) (by omega) (by rw [zI_wI, if_pos rfl, if_pos rfl]) (by rw [zI_wI, if_pos rfl, if_neg (by decide)]; exact h18)
      exact ⟨h2, e2, g1, g2, g3, g4, f1.tr f2⟩
    · have z : qLet (B i) = false := by
        cases hq : qLet (B i) with
        | false => rfl
        | true => exact absurd (qKi_l.mpr hq) q
      rw [if_neg q, z, if_pos (show nI false.toNat = 0 from rfl)]
      exact fin i h h14 h18
theorem k_so3 {p : Nat} : ∀ m i n h, zTbm h B N → p + i + m = N → m < n → zI h 52 14 = nI (p + i) → zI h 52 18 = nI p → (∀ j, j < i → qKi (B (p + j)) = 3) → (∃ v, v ≤ 100000 ∧ zI h 52 17 = nI v) → (i ≤ 4 → zI h 52 17 = nI (qDv B p i)) → ∃ h', s_X11_stepOn_L61 n h = some h' ∧ zI h' 52 14 = nI (tRw B 3 m (p + i)) ∧ zI h' 52 16 = nI 2 ∧ zI h' 52 18 = nI p ∧ zI h' 52 19 = nI (tRw B 3 m (p + i)) ∧ (tRw B 3 m (p + i) - p ≤ 4 → zI h' 52 17 = nI (qDv B p (tRw B 3 m (p + i) - p))) ∧ zfr zAu h h' := by
  have fin : ∀ i h, zI h 52 14 = nI (p + i) → zI h 52 18 = nI p → (i ≤ 4 → zI h 52 17 = nI (qDv B p i)) → ∃ h', (zlt (zwI h 52 16 (2 : Int32)) fun h3 => zlt (zwI h3 52 19 (zI h3 52 14)) fun h4 => some h4) = some h' ∧ zI h' 52 14 = nI (p + i) ∧ zI h' 52 16 = nI 2 ∧ zI h' 52 18 = nI p ∧ zI h' 52 19 = nI (p + i) ∧ (p + i - p ≤ 4 → zI h' 52 17 = nI (qDv B p (p + i - p))) ∧ zfr zAu h h' := by
    intro i h h14 h18 h17
    rw [zlt_e, zlt_e]
    refine ⟨_, rfl, ?_, ?_, ?_, ?_, fun z => ?_, (zfr.wI 52 16 _ (by unfold zAu; omega)).w 52 19 _ (by unfold zAu; omega)⟩
    · rw [zI_wI, if_pos rfl, if_neg (by decide), zI_wI, if_pos rfl, if_neg (by decide)]; exact h14
    · rw [zI_wI, if_pos rfl, if_neg (by decide), zI_wI, if_pos rfl, if_pos rfl]; rfl
    · rw [zI_wI, if_pos rfl, if_neg (by decide), zI_wI, if_pos rfl, if_neg (by decide)]; exact h18
    · rw [zI_wI, if_pos rfl, if_pos rfl, zI_wI, if_pos rfl, if_neg (by decide)]; exact h14
    · rw [show p + i - p = i by omega] at z ⊢
      rw [zI_wI, if_pos rfl, if_neg (by decide), zI_wI, if_pos rfl, if_neg (by decide)]; exact h17 z
  intro m
  induction m with
  | zero =>
    intro i n h w e hn h14 h18 hd hv h17
    obtain ⟨n, rfl, -⟩ := zq_suc hn
    have e2 : p + i = N := by omega
    rw [s_X11_stepOn_L61, h14, e2, k_ba0 w, ob_e, (k_neg h).2, ob_e, if_pos (show nI 0 = 0 from rfl), tRw, ← e2]
    exact fin i h h14 h18 h17
  | succ m ih =>
    intro i n h w e hn h14 h18 hd hv h17
    obtain ⟨n, rfl, hn2⟩ := zq_suc hn
    have hb := (w.2.2 (p + i) (by omega)).1
    rw [s_X11_stepOn_L61, h14, k_ba w (by omega), ob_e, k_digM hb, ob_e, tRw]
    by_cases q : qKi (B (p + i)) = 3
    · obtain ⟨v, v1, v2⟩ := hv
      have d3 := qKi_3 q
      have em : s_J9_min_7cf53 (100000 : Int32) ((((10 : Int32) * zI h 52 17) + nI (B (p + i))) - (48 : Int32)) h = some (nI (if 10 * v + (B (p + i) - 48) < 100000 then 10 * v + (B (p + i) - 48) else 100000)) := by
        rw [v2, show (10 : Int32) * nI v = nI (10 * v) from pk_mul 10 v, nI_add, show nI (10 * v + B (p + i)) - (48 : Int32) = nI (10 * v + (B (p + i) - 48)) by rw [show (48 : Int32) = nI 48 from rfl, zq_sub (by omega), show 10 * v + B (p + i) - 48 = 10 * v + (B (p + i) - 48) by omega]]
        exact k_min2 (a := 100000) (by omega) (by omega) h
      rw [if_pos q, qKi_d.mp q, if_neg (by decide), ob_e, em, ob_e, zlt_e, zlt_e]
      generalize g1 : (if 10 * v + (B (p + i) - 48) < 100000 then 10 * v + (B (p + i) - 48) else 100000) = v3
      have v3b : v3 ≤ 100000 := by rw [← g1]; split <;> omega
      rw [show zI (zwI h 52 17 (nI v3)) 52 14 = nI (p + i) by rw [zI_wI, if_pos rfl, if_neg (by decide)]; exact h14, show nI (p + i) + 1 = nI (p + (i + 1)) by rw [← Nat.add_assoc]; exact nI_1 _]
      have f1 : zfr zAu h (zwI (zwI h 52 17 (nI v3)) 52 14 (nI (p + (i + 1)))) := (zfr.wI 52 17 _ (by unfold zAu; omega)).w 52 14 _ (by unfold zAu; omega)
      have c14 : zI (zwI (zwI h 52 17 (nI v3)) 52 14 (nI (p + (i + 1)))) 52 14 = nI (p + (i + 1)) := by rw [zI_wI, if_pos rfl, if_pos rfl]
      have c17 : zI (zwI (zwI h 52 17 (nI v3)) 52 14 (nI (p + (i + 1)))) 52 17 = nI v3 := by rw [zI_wI, if_pos rfl, if_neg (by decide), zI_wI, if_pos rfl, if_pos rfl]
      have c18 : zI (zwI (zwI h 52 17 (nI v3)) 52 14 (nI (p + (i + 1)))) 52 18 = nI p := by rw [zI_wI, if_pos rfl, if_neg (by decide), zI_wI, if_pos rfl, if_neg (by decide)]; exact h18
      generalize zwI (zwI h 52 17 (nI v3)) 52 14 (nI (p + (i + 1))) = h2 at f1 c14 c17 c18 ⊢
      obtain ⟨h3, e3, g⟩ := ih (i + 1) n h2 (w.fr f1 (fun b k e => by unfold zAu; omega)) (by omega) (by omega) c14 c18 (fun j hj => by
        by_cases z : j = i
        · rw [z]; exact q
        · exact hd j (by omega)) ⟨v3, v3b, c17⟩ (fun z => by
        have h5 := h17 (by omega)
        have l1 := qDv_lt (B := B) (p := p) i hd
        have l2 : 10 ^ i ≤ 10 ^ 3 := Nat.pow_le_pow_right (by omega) (by omega)
        have ev : v = qDv B p i := (nI_eq (by omega) (by omega)).mp (v2.symm.trans h5)
        rw [c17, qDv, ← g1, ← ev, if_pos (by omega)])
      rw [show p + (i + 1) = p + i + 1 by omega] at g
      exact ⟨h3, e3, g.1, g.2.1, g.2.2.1, g.2.2.2.1, g.2.2.2.2.1, f1.tr g.2.2.2.2.2⟩
    · have z : qDig (B (p + i)) = false := by
        cases hq : qDig (B (p + i)) with
        | false => rfl
        | true => exact absurd (qKi_d.mpr hq) q
      rw [if_neg q, z, if_pos (show nI false.toNat = 0 from rfl)]
      exact fin i h h14 h18 h17
theorem k_step (w : zTbm h B N) (hx : x ≤ N) (h14 : zI h 52 14 = nI x) : ∃ h', s_X11_stepOn h = some h' ∧ zTM h' B N x ∧ zfr zAu h h' := by
  have hN := w.1
  have p1 := tP_le (B := B) hx
  obtain ⟨h2, n2, e2, a14, f2⟩ := k_so1 (N - x) x zfu h w (by omega) (zq_fu (by omega)) h14
  have a14 : zI h2 52 14 = nI (tP B N x) := a14
  have w2 : zTbm h2 B N := w.fr f2 (fun b k e => by unfold zAu; omega)
  rw [s_X11_stepOn, e2, s_X11_stepOn_L0, a14]
  have g4 : zfr zAu h2 (zwI h2 52 18 (nI (tP B N x))) := zfr.wI 52 18 _ (by unfold zAu; omega)
  have b14 : zI (zwI h2 52 18 (nI (tP B N x))) 52 14 = nI (tP B N x) := by rw [zI_wI, if_pos rfl, if_neg (by decide)]; exact a14
  have b18 : zI (zwI h2 52 18 (nI (tP B N x))) 52 18 = nI (tP B N x) := by rw [zI_wI, if_pos rfl, if_pos rfl]
  by_cases q : tP B N x < N
  · have hk : tK B N x = qKi (B (tP B N x)) := by unfold tK; rw [if_pos q]
    have hn1 := tK_1 (B := B) (N := N) (x := x)
    have hkb := qKi_b (B (tP B N x))
    have hb := (w.2.2 _ q).1
    obtain ⟨-, -, -, -, -, -, -, -, -, m1, m2⟩ := of_decide_eq_true (v_all k_mrk1 hb)
    have nb : ¬ (B (tP B N x) = 32 ∨ B (tP B N x) = 10) := fun n => hn1 (hk.trans (qKi_k.mpr n))
    rw [k_ba w2 q, ob_e, if_neg (fun n => nb (Or.inl (m1.mp n))), ob_e, if_pos (fun n => nb (Or.inr (m2.mp n))), zlt_e]
    generalize zwI h2 52 18 (nI (tP B N x)) = h4 at g4 b14 b18 ⊢
    have w4 : zTbm h4 B N := w2.fr g4 (fun b k e => by unfold zAu; omega)
    have f4 : zfr zAu h h4 := f2.tr g4
    rw [b14, k_ba w4 q, ob_e, if_pos (show ¬ nI (B (tP B N x)) = (-1 : Int32) from fun e => by
      have : (nI (B (tP B N x)) = nM) = False := zq_eM (by omega)
      rw [← this]; exact e), k_let hb, ob_e]
    by_cases q2 : tK B N x = 2
    · rw [qKi_l.mp (hk.symm.trans q2), if_neg (by decide)]
      obtain ⟨h5, e5, c1, c2, c3, c4, f5⟩ := k_so2 (p := tP B N x) (N - tP B N x) (tP B N x) zfu h4 w4 (by omega) (zq_fu (by omega)) b14 b18
      have ew := tE_w (Or.inl q2)
      rw [q2] at ew
      rw [← ew] at c1 c4
      exact ⟨h5, e5, ⟨c1, by rw [c2, q2], c3, c4, fun e => by omega⟩, f4.tr f5⟩
    · have z2 : qLet (B (tP B N x)) = false := by
        cases hq : qLet (B (tP B N x)) with
        | false => rfl
        | true => exact absurd (hk.trans (qKi_l.mpr hq)) q2
      rw [z2, if_pos (show nI false.toNat = 0 from rfl), k_digM hb, ob_e]
      by_cases q3 : tK B N x = 3
      · rw [qKi_d.mp (hk.symm.trans q3), if_neg (by decide), zlt_e]
        have f5 : zfr zAu h4 (zwI h4 52 17 (0 : Int32)) := zfr.wI 52 17 _ (by unfold zAu; omega)
        have d14 : zI (zwI h4 52 17 (0 : Int32)) 52 14 = nI (tP B N x + 0) := by rw [zI_wI, if_pos rfl, if_neg (by decide), Nat.add_zero]; exact b14
        have d17 : zI (zwI h4 52 17 (0 : Int32)) 52 17 = nI 0 := by rw [zI_wI, if_pos rfl, if_pos rfl]; rfl
        have d18 : zI (zwI h4 52 17 (0 : Int32)) 52 18 = nI (tP B N x) := by rw [zI_wI, if_pos rfl, if_neg (by decide)]; exact b18
        generalize zwI h4 52 17 (0 : Int32) = h5 at f5 d14 d17 d18 ⊢
        obtain ⟨h6, e6, c1, c2, c3, c4, c5, f6⟩ := k_so3 (p := tP B N x) (N - tP B N x) 0 zfu h5 (w4.fr f5 (fun b k e => by unfold zAu; omega)) (by omega) (zq_fu (by omega)) d14 d18 (fun j hj => by omega) ⟨0, by omega, d17⟩ (fun _ => by rw [d17, qDv])
        have ew := tE_w (Or.inr q3)
        rw [q3] at ew
        rw [Nat.add_zero, ← ew] at c1 c4 c5
        refine ⟨h6, e6, ⟨c1, by rw [c2, q3], c3, c4, fun _ e2 => ?_⟩, (f4.tr f5).tr f6⟩
        rw [c5 e2]
        unfold tV
        by_cases z : tE B N x - tP B N x < 4
        · rw [if_pos z]
        · rw [if_neg z, show tE B N x - tP B N x = 4 by omega]
      · have z3 : qDig (B (tP B N x)) = false := by
          cases hq : qDig (B (tP B N x)) with
          | false => rfl
          | true => exact absurd (hk.trans (qKi_d.mpr hq)) q3
        have k45 := qKi_m (c := B (tP B N x)) (by omega) (by omega) (by omega)
        rw [← hk] at k45
        have eE : tE B N x = tP B N x + 1 := tE_s (by split at k45 <;> omega)
        rw [z3, if_pos (show nI false.toNat = 0 from rfl), zlt_e, k_mrk hb, ob_e, show nI (tP B N x) + 1 = nI (tE B N x) by rw [eE]; exact nI_1 _]
        have f8 : zfr zAu h4 (zwI h4 52 14 (nI (tE B N x))) := zfr.wI 52 14 _ (by unfold zAu; omega)
        have d14 : zI (zwI h4 52 14 (nI (tE B N x))) 52 14 = nI (tE B N x) := by rw [zI_wI, if_pos rfl, if_pos rfl]
        have d18 : zI (zwI h4 52 14 (nI (tE B N x))) 52 18 = nI (tP B N x) := by rw [zI_wI, if_pos rfl, if_neg (by decide)]; exact b18
        generalize zwI h4 52 14 (nI (tE B N x)) = h8 at f8 d14 d18 ⊢
        have fin : ∀ t : Nat, t = tK B N x - 1 → ∃ h', (zlt (zwI h8 52 16 (nI t)) fun h10 => zlt (zwI h10 52 19 (zI h10 52 14)) fun h11 => some h11) = some h' ∧ zTM h' B N x ∧ zfr zAu h h' := by
          intro t et
          rw [zlt_e, zlt_e]
          refine ⟨_, rfl, ⟨?_, ?_, ?_, ?_, fun e => absurd e q3⟩, ((f4.tr f8).w 52 16 _ (by unfold zAu; omega)).w 52 19 _ (by unfold zAu; omega)⟩
          · rw [zI_wI, if_pos rfl, if_neg (by decide), zI_wI, if_pos rfl, if_neg (by decide)]; exact d14
          · rw [zI_wI, if_pos rfl, if_neg (by decide), zI_wI, if_pos rfl, if_pos rfl, et]
          · rw [zI_wI, if_pos rfl, if_neg (by decide), zI_wI, if_pos rfl, if_neg (by decide)]; exact d18
          · rw [zI_wI, if_pos rfl, if_pos rfl, zI_wI, if_pos rfl, if_neg (by decide)]; exact d14
        cases hm : qMrk (B (tP B N x)) with
        | false =>
          rw [hm, if_neg (by decide)] at k45
          rw [if_pos (show nI false.toNat = 0 from rfl)]
          exact fin 4 (by omega)
        | true =>
          rw [hm, if_pos rfl] at k45
          rw [if_neg (by decide)]
          exact fin 3 (by omega)
  · have eN : tP B N x = N := by omega
    have k0 : tK B N x = 0 := by unfold tK; rw [if_neg q]
    have eE : tE B N x = N := tE_0 hx k0
    rw [eN] at g4 b14 b18 ⊢
    rw [k_ba0 w2, ob_e, if_neg (by decide), ob_e, if_pos (by decide), zlt_e]
    generalize zwI h2 52 18 (nI N) = h4 at g4 b14 b18 ⊢
    have w4 : zTbm h4 B N := w2.fr g4 (fun b k e => by unfold zAu; omega)
    rw [b14, k_ba0 w4, ob_e, if_neg (fun n => n rfl), zlt_e, zlt_e]
    refine ⟨_, rfl, ⟨?_, ?_, ?_, ?_, fun e => by omega⟩, ((f2.tr g4).w 52 16 _ (by unfold zAu; omega)).w 52 19 _ (by unfold zAu; omega)⟩
    · rw [zI_wI, if_pos rfl, if_neg (by decide), zI_wI, if_pos rfl, if_neg (by decide), eE]; exact b14
    · rw [zI_wI, if_pos rfl, if_neg (by decide), zI_wI, if_pos rfl, if_pos rfl, k0]; rfl
    · rw [zI_wI, if_pos rfl, if_neg (by decide), zI_wI, if_pos rfl, if_neg (by decide), eN]; exact b18
    · rw [zI_wI, if_pos rfl, if_pos rfl, zI_wI, if_pos rfl, if_neg (by decide), eE]; exact b14
end TM
