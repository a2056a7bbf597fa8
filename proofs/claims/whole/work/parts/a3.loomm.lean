/-! ===== loom in the reference ===== -/
section LM
variable {h h1 h2 : zH} {N R : Nat} {B : Nat → Nat} {P : zPl} {L : zLg} {E : zDf}
theorem k_th {a0 n0 m : Nat} (hv : zdv (Int32.ofNat n0) (2 : Int32) = some (nI m)) (hm : n0 = 2 * m) (hs : m < 30000) : ∀ k j n h, j + k = m → k < n → ∃ h1, s_X11_takeHalf_L2 a0 n0 n (nI j) h = some h1 ∧ (∀ i, j ≤ i → i < m → zI h1 a0 i = zI h a0 (m + i)) ∧ zfr (fun b i => b = a0 ∧ j ≤ i ∧ i < m) h h1 := by
  intro k
  induction k with
  | zero =>
    intro j n h e hn
    obtain ⟨n, rfl, -⟩ := zq_suc hn
    rw [s_X11_takeHalf_L2, hv, ob_e, if_pos (nI_le (by omega) (by omega))]
    exact ⟨h, rfl, fun i i1 i2 => by omega, zfr.rf _ h⟩
  | succ k ih =>
    intro j n h e hn
    obtain ⟨n, rfl, hn2⟩ := zq_suc hn
    rw [s_X11_takeHalf_L2, hv, ob_e, if_neg (nI_ge (by omega) (by omega)), ob_e, nI_add, zq_ix (by omega) (by omega), zq_ix (by omega) (by omega), zlt_e, show nI j + 1 = nI (j + 1) from nI_1 j]
    have f0 : zfr (fun b i => b = a0 ∧ i = j) h (zwI h a0 j (zI h a0 (m + j))) := zfr.wI a0 j _ ⟨rfl, rfl⟩
    have v0 : zI (zwI h a0 j (zI h a0 (m + j))) a0 j = zI h a0 (m + j) := by rw [zI_wI, if_pos rfl, if_pos rfl]
    generalize zwI h a0 j (zI h a0 (m + j)) = h2 at f0 v0 ⊢
    obtain ⟨h3, e3, v3, f3⟩ := ih (j + 1) n h2 (by omega) (by omega)
    refine ⟨h3, e3, fun i i1 i2 => ?_, (f0.mo (fun b i e => by omega)).tr (f3.mo (fun b i e => by omega))⟩
    by_cases q : i = j
    · rw [q, f3.i (by omega)]; exact v0
    · rw [v3 i (by omega) i2, f0.i (by omega)]
theorem k_half {a0 n0 m : Nat} (hv : zdv (Int32.ofNat n0) (2 : Int32) = some (nI m)) (hm : n0 = 2 * m) (hs : m < 30000) (h : zH) : ∃ h1, s_X11_takeHalf a0 n0 h = some h1 ∧ (∀ i, i < m → zI h1 a0 i = zI h a0 (m + i)) ∧ zfr (fun b i => b = a0 ∧ i < m) h h1 := by
  obtain ⟨h1, e1, v1, f1⟩ := k_th (a0 := a0) hv hm hs m 0 zfu h (by omega) (zq_fu (by omega))
  exact ⟨h1, by rw [s_X11_takeHalf]; exact e1, fun i hi => v1 i (by omega) hi, f1.mo (fun b i e => by omega)⟩
theorem k_t38 : ∀ k j n h, j + k = 9 → k < n → ∃ h1, s_X11_takeOver_L38 n (nI j) h = s_X11_takeOver_L55 zfu (0 : Int32) h1 ∧ zfr (fun b _ => b = 66 ∨ b = 67) h h1 := by
  intro k
  induction k with
  | zero =>
    intro j n h e hn
    obtain ⟨n, rfl, -⟩ := zq_suc hn
    rw [s_X11_takeOver_L38, if_pos (show (9 : Int32) ≤ nI j from nI_le (a := 9) (by omega) (by omega))]
    exact ⟨h, rfl, zfr.rf _ h⟩
  | succ k ih =>
    intro j n h e hn
    obtain ⟨n, rfl, hn2⟩ := zq_suc hn
    rw [s_X11_takeOver_L38, if_neg (show ¬ (9 : Int32) ≤ nI j from nI_ge (b := 9) (by omega) (by omega)), zq_ix (by omega) (by omega), zlt_e, zq_ix (by omega) (by omega), zlt_e, show nI j + 1 = nI (j + 1) from nI_1 j]
    have f0 : zfr (fun b _ => b = 66 ∨ b = 67) h (zwI (zwI h 66 j (0 : Int32)) 67 j (0 : Int32)) := (zfr.wI 66 _ _ (by omega)).w 67 _ _ (by omega)
    obtain ⟨h3, e3, f3⟩ := ih (j + 1) n _ (by omega) (by omega)
    exact ⟨h3, e3, f0.tr f3⟩
/-- the end of it -/
def tov (h : zH) : zH := zwI (zwI (zwI (zwI (zwI h 65 0 (zI h 56 2)) 65 1 (zI (zwI h 65 0 (zI h 56 2)) 56 3)) 52 35 (0 : Int32)) 52 36 (0 : Int32)) 52 59 (0 : Int32)
theorem k_t55 (hR : R ≤ 12) : ∀ k j n h, j + k = 12 → k < n → zI h 56 0 = nI R → ∃ h1, s_X11_takeOver_L55 n (nI j) h = some (tov h1) ∧ (∀ r, j ≤ r → r < R → zI h1 64 r = zI h 58 r) ∧ zfr (fun b i => b = 64 ∧ j ≤ i) h h1 := by
  intro k
  induction k with
  | zero =>
    intro j n h e hn h0
    obtain ⟨n, rfl, -⟩ := zq_suc hn
    rw [s_X11_takeOver_L55, if_pos (show (12 : Int32) ≤ nI j from nI_le (a := 12) (by omega) (by omega)), zlt_e, zlt_e, zlt_e, zlt_e, zlt_e]
    exact ⟨h, rfl, fun r r1 r2 => by omega, zfr.rf _ h⟩
  | succ k ih =>
    intro j n h e hn h0
    obtain ⟨n, rfl, hn2⟩ := zq_suc hn
    rw [s_X11_takeOver_L55, if_neg (show ¬ (12 : Int32) ≤ nI j from nI_ge (b := 12) (by omega) (by omega)), h0, show nI j + 1 = nI (j + 1) from nI_1 j]
    by_cases q : R ≤ j
    · rw [if_pos (nI_le q (by omega)), zq_ix (by omega) (by omega), zlt_e]
      have f0 : zfr (fun b i => b = 64 ∧ i = j) h (zwI h 64 j (0 : Int32)) := zfr.wI _ _ _ ⟨rfl, rfl⟩
      obtain ⟨h3, e3, v3, f3⟩ := ih (j + 1) n (zwI h 64 j (0 : Int32)) (by omega) (by omega) (by rw [f0.i (by omega)]; exact h0)
      exact ⟨h3, e3, fun r r1 r2 => by omega, (f0.mo (fun b i e => by omega)).tr (f3.mo (fun b i e => by omega))⟩
    · rw [if_neg (nI_ge (by omega) (by omega)), zq_ix (by omega) (by omega), zq_ix (by omega) (by omega), zlt_e]
      have f0 : zfr (fun b i => b = 64 ∧ i = j) h (zwI h 64 j (zI h 58 j)) := zfr.wI _ _ _ ⟨rfl, rfl⟩
      have v0 : zI (zwI h 64 j (zI h 58 j)) 64 j = zI h 58 j := by rw [zI_wI, if_pos rfl, if_pos rfl]
      generalize zwI h 64 j (zI h 58 j) = h2 at f0 v0 ⊢
      obtain ⟨h3, e3, v3, f3⟩ := ih (j + 1) n h2 (by omega) (by omega) (by rw [f0.i (by omega)]; exact h0)
      refine ⟨h3, e3, fun r r1 r2 => ?_, (f0.mo (fun b i e => by omega)).tr (f3.mo (fun b i e => by omega))⟩
      by_cases z : r = j
      · rw [z, f3.i (by omega)]; exact v0
      · rw [v3 r (by omega) r2, f0.i (by omega)]
/-- what taking over changes -/
def zAlw : Nat → Nat → Prop := fun b k => (56 ≤ b ∧ b ≤ 61) ∨ (64 ≤ b ∧ b ≤ 67) ∨ (b = 52 ∧ ((29 ≤ k ∧ k ≤ 36) ∨ k = 59))
theorem k_tov (w : zDM h E) (ok : dOk E N) (hN : N ≤ 700) : ∃ h1, s_X11_takeOver h = some h1 ∧ zPM h1 (dPl E) ∧ zSM h1 (dR E) (sS E) ∧ zI h1 52 35 = nI 0 ∧ zI h1 52 36 = nI 0 ∧ zI h1 52 59 = nI 0 ∧ zfr zAlw h h1 := by
  obtain ⟨o1, o2, o3, o4, o5, o6, o7, o8, o9, o10⟩ := ok
  obtain ⟨w1, w2, w3, w4, w5, w6, w7, w8, w9, w10⟩ := w
  obtain ⟨h1, e1, v1, f1⟩ := k_half (a0 := 56) (n0 := 12) (m := 6) rfl rfl (by omega) h
  obtain ⟨h2, e2, v2, f2⟩ := k_half (a0 := 57) (n0 := 24) (m := 12) rfl rfl (by omega) h1
  obtain ⟨h3, e3, v3, f3⟩ := k_half (a0 := 58) (n0 := 24) (m := 12) rfl rfl (by omega) h2
  obtain ⟨h4, e4, v4, f4⟩ := k_half (a0 := 59) (n0 := 16) (m := 8) rfl rfl (by omega) h3
  obtain ⟨h5, e5, v5, f5⟩ := k_half (a0 := 60) (n0 := 1400) (m := 700) rfl rfl (by omega) h4
  obtain ⟨h6, e6, v6, f6⟩ := k_half (a0 := 61) (n0 := 1400) (m := 700) rfl rfl (by omega) h5
  rw [s_X11_takeOver, e1, ob_e, e2, ob_e, e3, ob_e, e4, ob_e, e5, ob_e, e6, ob_e, zlt_e, zlt_e, zlt_e, zlt_e, zlt_e, zlt_e]
  have f7 : zfr (fun b k => b = 52 ∧ 29 ≤ k ∧ k ≤ 34) h6 (zwI (zwI (zwI (zwI (zwI (zwI h6 52 29 (0 : Int32)) 52 30 (0 : Int32)) 52 31 (0 : Int32)) 52 32 (0 : Int32)) 52 33 (0 : Int32)) 52 34 (0 : Int32)) := (((((zfr.wI 52 29 _ (by omega)).w 52 30 _ (by omega)).w 52 31 _ (by omega)).w 52 32 _ (by omega)).w 52 33 _ (by omega)).w 52 34 _ (by omega)
  have v7 : zI (zwI (zwI (zwI (zwI (zwI (zwI h6 52 29 (0 : Int32)) 52 30 (0 : Int32)) 52 31 (0 : Int32)) 52 32 (0 : Int32)) 52 33 (0 : Int32)) 52 34 (0 : Int32)) 52 29 = nI 0 ∧ zI (zwI (zwI (zwI (zwI (zwI (zwI h6 52 29 (0 : Int32)) 52 30 (0 : Int32)) 52 31 (0 : Int32)) 52 32 (0 : Int32)) 52 33 (0 : Int32)) 52 34 (0 : Int32)) 52 30 = nI 0 ∧ zI (zwI (zwI (zwI (zwI (zwI (zwI h6 52 29 (0 : Int32)) 52 30 (0 : Int32)) 52 31 (0 : Int32)) 52 32 (0 : Int32)) 52 33 (0 : Int32)) 52 34 (0 : Int32)) 52 31 = nI 0 ∧ zI (zwI (zwI (zwI (zwI (zwI (zwI h6 52 29 (0 : Int32)) 52 30 (0 : Int32)) 52 31 (0 : Int32)) 52 32 (0 : Int32)) 52 33 (0 : Int32)) 52 34 (0 : Int32)) 52 32 = nI 0 ∧ zI (zwI (zwI (zwI (zwI (zwI (zwI h6 52 29 (0 : Int32)) 52 30 (0 : Int32)) 52 31 (0 : Int32)) 52 32 (0 : Int32)) 52 33 (0 : Int32)) 52 34 (0 : Int32)) 52 33 = nI 0 ∧ zI (zwI (zwI (zwI (zwI (zwI (zwI h6 52 29 (0 : Int32)) 52 30 (0 : Int32)) 52 31 (0 : Int32)) 52 32 (0 : Int32)) 52 33 (0 : Int32)) 52 34 (0 : Int32)) 52 34 = nI 0 := ⟨rfl, rfl, rfl, rfl, rfl, rfl⟩
  generalize zwI (zwI (zwI (zwI (zwI (zwI h6 52 29 (0 : Int32)) 52 30 (0 : Int32)) 52 31 (0 : Int32)) 52 32 (0 : Int32)) 52 33 (0 : Int32)) 52 34 (0 : Int32) = h7 at f7 v7 ⊢
  obtain ⟨h8, e8, f8⟩ := k_t38 9 0 zfu h7 (by omega) (zq_fu (by omega))
  have F18 : zfr (fun b k => (57 ≤ b ∧ b ≤ 61) ∨ b = 66 ∨ b = 67 ∨ (b = 52 ∧ 29 ≤ k ∧ k ≤ 34)) h1 h8 := ((((((f2.mo (fun b k e => by omega)).tr (f3.mo (fun b k e => by omega))).tr (f4.mo (fun b k e => by omega))).tr (f5.mo (fun b k e => by omega))).tr (f6.mo (fun b k e => by omega))).tr (f7.mo (fun b k e => by omega))).tr (f8.mo (fun b k e => by omega))
  have r0 : zI h8 56 0 = nI (dR E) := by rw [F18.i (by omega), v1 0 (by omega)]; exact w1
  obtain ⟨h9, e9, v9, f9⟩ := k_t55 o1 12 0 zfu h8 (by omega) (zq_fu (by omega)) r0
  have f10 : zfr (fun b k => b = 65 ∨ (b = 52 ∧ (k = 35 ∨ k = 36 ∨ k = 59))) h9 (tov h9) := ((((zfr.wI 65 0 _ (by omega)).w 65 1 _ (by omega)).w 52 35 _ (by omega)).w 52 36 _ (by omega)).w 52 59 _ (by omega)
  have t0 : zI (tov h9) 65 0 = zI h9 56 2 := rfl
  have t1 : zI (tov h9) 65 1 = zI h9 56 3 := rfl
  have t2 : zI (tov h9) 52 35 = nI 0 := rfl
  have t3 : zI (tov h9) 52 36 = nI 0 := rfl
  have t4 : zI (tov h9) 52 59 = nI 0 := rfl
  generalize tov h9 = h10 at e9 f10 t0 t1 t2 t3 t4
  have G : zfr (fun b k => (b = 64) ∨ b = 65 ∨ (b = 52 ∧ (k = 35 ∨ k = 36 ∨ k = 59))) h8 h10 := (f9.mo (fun b k e => by omega)).tr (f10.mo (fun b k e => by omega))
  have x56 : ∀ i, i < 6 → zI h10 56 i = zI h 56 (6 + i) := fun i hi => by rw [G.i (by omega), F18.i (by omega), v1 i hi]
  have b2 : zfr (fun b _ => b = 56) h h1 := f1.mo (fun b k e => by omega)
  have F28 : zfr (fun b k => (58 ≤ b ∧ b ≤ 61) ∨ b = 66 ∨ b = 67 ∨ (b = 52 ∧ 29 ≤ k ∧ k ≤ 34)) h2 h8 := (((((f3.mo (fun b k e => by omega)).tr (f4.mo (fun b k e => by omega))).tr (f5.mo (fun b k e => by omega))).tr (f6.mo (fun b k e => by omega))).tr (f7.mo (fun b k e => by omega))).tr (f8.mo (fun b k e => by omega))
  have F38 : zfr (fun b k => (59 ≤ b ∧ b ≤ 61) ∨ b = 66 ∨ b = 67 ∨ (b = 52 ∧ 29 ≤ k ∧ k ≤ 34)) h3 h8 := ((((f4.mo (fun b k e => by omega)).tr (f5.mo (fun b k e => by omega))).tr (f6.mo (fun b k e => by omega))).tr (f7.mo (fun b k e => by omega))).tr (f8.mo (fun b k e => by omega))
  have F48 : zfr (fun b k => (60 ≤ b ∧ b ≤ 61) ∨ b = 66 ∨ b = 67 ∨ (b = 52 ∧ 29 ≤ k ∧ k ≤ 34)) h4 h8 := (((f5.mo (fun b k e => by omega)).tr (f6.mo (fun b k e => by omega))).tr (f7.mo (fun b k e => by omega))).tr (f8.mo (fun b k e => by omega))
  have F58 : zfr (fun b k => b = 61 ∨ b = 66 ∨ b = 67 ∨ (b = 52 ∧ 29 ≤ k ∧ k ≤ 34)) h5 h8 := ((f6.mo (fun b k e => by omega)).tr (f7.mo (fun b k e => by omega))).tr (f8.mo (fun b k e => by omega))
  have F68 : zfr (fun b k => b = 66 ∨ b = 67 ∨ (b = 52 ∧ 29 ≤ k ∧ k ≤ 34)) h6 h8 := (f7.mo (fun b k e => by omega)).tr (f8.mo (fun b k e => by omega))
  have x57 : ∀ i, i < 12 → zI h10 57 i = zI h 57 (12 + i) := fun i hi => by rw [G.i (by omega), F28.i (by omega), v2 i hi, f1.i (by omega)]
  have x58 : ∀ i, i < 12 → zI h8 58 i = zI h 58 (12 + i) := fun i hi => by rw [F38.i (by omega), v3 i hi, f2.i (by omega), f1.i (by omega)]
  have x59 : ∀ i, i < 8 → zI h10 59 i = zI h 59 (8 + i) := fun i hi => by rw [G.i (by omega), F48.i (by omega), v4 i hi, f3.i (by omega), f2.i (by omega), f1.i (by omega)]
  have x60 : ∀ i, i < 700 → zI h10 60 i = zI h 60 (700 + i) := fun i hi => by rw [G.i (by omega), F58.i (by omega), v5 i hi, f4.i (by omega), f3.i (by omega), f2.i (by omega), f1.i (by omega)]
  have x61 : ∀ i, i < 700 → zI h10 61 i = zI h 61 (700 + i) := fun i hi => by rw [G.i (by omega), F68.i (by omega), v6 i hi, f5.i (by omega), f4.i (by omega), f3.i (by omega), f2.i (by omega), f1.i (by omega)]
  have x52 : ∀ k, 29 ≤ k → k ≤ 34 → zI h10 52 k = zI h7 52 k := fun k k1 k2 => by rw [G.i (by omega), f8.i (by omega)]
  obtain ⟨u29, u30, u31, u32, u33, u34⟩ := v7
  refine ⟨h10, e8.trans e9, ⟨?_, ?_, fun r hr => ?_, fun v hv => ?_, ?_, fun i hi => ?_, ?_, fun i hi => ?_⟩, ⟨fun r hr => ?_, ?_, ?_, ?_, ?_, ?_, ?_, ?_, ?_, fun i hi => ?_⟩, t2, t3, t4, ?_⟩
  · rw [x56 0 (by omega)]; exact w1
  · rw [x56 1 (by omega)]; exact w2
  · have hr : r < dR E := hr
    rw [x57 r (by omega)]; exact (w7 r hr).1
  · have hv : v < dV E := hv
    rw [x59 v (by omega)]; exact w8 v hv
  · rw [x56 4 (by omega)]; exact w5
  · have hi : i < (dC E).length := hi
    rw [x60 i (by omega)]; exact w9 i hi
  · rw [x56 5 (by omega)]; exact w6
  · have hi : i < (dW E).length := hi
    rw [x61 i (by omega)]; exact w10 i hi
  · rw [f10.i (by omega), v9 r (by omega) hr, x58 r (by omega), sS_r (by omega)]
    exact (w7 r hr).2
  · rw [t0, f9.i (by omega), F18.i (by omega), v1 2 (by omega)]; exact w3
  · rw [t1, f9.i (by omega), F18.i (by omega), v1 3 (by omega)]; exact w4
  · rw [sS_0 (by omega) (by omega) (by omega), x52 30 (by omega) (by omega)]; exact u30
  · rw [sS_0 (by omega) (by omega) (by omega), x52 31 (by omega) (by omega)]; exact u31
  · rw [sS_0 (by omega) (by omega) (by omega), x52 32 (by omega) (by omega)]; exact u32
  · rw [sS_0 (by omega) (by omega) (by omega), x52 29 (by omega) (by omega)]; exact u29
  · rw [sS_0 (by omega) (by omega) (by omega), x52 33 (by omega) (by omega)]; exact u33
  · rw [sS_0 (by omega) (by omega) (by omega), x52 34 (by omega) (by omega)]; exact u34
  · rw [sS_0 (by omega) (by omega) (by omega)] at hi
    omega
  · exact ((b2.mo (fun b k e => by unfold zAlw; omega)).tr (F18.mo (fun b k e => by unfold zAlw; omega))).tr (G.mo (fun b k e => by unfold zAlw; omega))
/-- what a loom changes in the reference -/
def zAlq : Nat → Nat → Prop := fun b k => zAlm b k ∨ (b = 52 ∧ (k = 4 ∨ k = 13 ∨ k = 15 ∨ k = 22)) ∨ (b = 62 ∧ k = 0)
def zAlp : Nat → Nat → Prop := fun b k => zAlm b k ∨ zAlw b k ∨ (b = 52 ∧ (k = 4 ∨ k = 13 ∨ k = 15 ∨ k = 22))
theorem k_l30 (h : zH) : ∃ h1, s_X11_loom_L30 zfu (0 : Int32) h = ((s_X11_stepOn h1).bind fun h2 => s_X11_loom_L54 zfu (0 : Int32) h2) ∧ zDM h1 d0 ∧ zfr (fun b k => b = 56 ∧ 6 ≤ k) h h1 := by
  obtain ⟨z0, e0, g0⟩ := zq_suc (show 6 < zfu from zq_fu (by omega))
  obtain ⟨z1, e1, g1⟩ := zq_suc (show 5 < z0 by omega)
  obtain ⟨z2, e2, g2⟩ := zq_suc (show 4 < z1 by omega)
  obtain ⟨z3, e3, g3⟩ := zq_suc (show 3 < z2 by omega)
  obtain ⟨z4, e4, g4⟩ := zq_suc (show 2 < z3 by omega)
  obtain ⟨z5, e5, g5⟩ := zq_suc (show 1 < z4 by omega)
  obtain ⟨z6, e6, -⟩ := zq_suc (show 0 < z5 by omega)
  have s0 : ∀ (n j : Nat) (h : zH), j < 6 → s_X11_loom_L30 (n + 1) (nI j) h = s_X11_loom_L30 n (nI (j + 1)) (zwI h 56 (6 + j) (if j = 2 ∨ j = 3 then 3 else 0)) := by
    intro n j h hj
    rw [s_X11_loom_L30, if_neg (show ¬ (6 : Int32) ≤ nI j from nI_ge (b := 6) (by omega) (by omega)), show (6 : Int32) + nI j = nI (6 + j) from nI_add 6 j, zq_ix (by omega) (by omega), zq_ix (by omega) (by omega), zlt_e, zlt_e, show nI j + 1 = nI (j + 1) from nI_1 j]
    by_cases q2 : j = 2
    · rw [if_pos (show nI j = 2 by rw [q2]; rfl), if_pos (Or.inl q2)]
    · rw [if_neg (show ¬ nI j = 2 from nI_ne (b := 2) q2 (by omega) (by omega))]
      by_cases q3 : j = 3
      · rw [if_neg (fun n => n (show nI j = 3 by rw [q3]; rfl)), if_pos (Or.inr q3)]
      · rw [if_pos (show ¬ nI j = 3 from nI_ne (b := 3) q3 (by omega) (by omega)), if_neg (by omega)]
  have r0 : s_X11_loom_L30 zfu (0 : Int32) h = s_X11_loom_L30 z5 (nI 6) (zwI (zwI (zwI (zwI (zwI (zwI h 56 6 0) 56 7 0) 56 8 3) 56 9 3) 56 10 0) 56 11 0) := by
    rw [zq_0, e0, e1, e2, e3, e4, e5]
    exact (s0 _ 0 h (by omega)).trans ((s0 _ 1 _ (by omega)).trans ((s0 _ 2 _ (by omega)).trans ((s0 _ 3 _ (by omega)).trans ((s0 _ 4 _ (by omega)).trans (s0 _ 5 _ (by omega))))))
  refine ⟨zwI (zwI (zwI (zwI (zwI (zwI h 56 6 0) 56 7 0) 56 8 3) 56 9 3) 56 10 0) 56 11 0, ?_, ⟨rfl, rfl, rfl, rfl, rfl, rfl, fun r hr => absurd hr (Nat.not_lt_zero r), fun r hr => absurd hr (Nat.not_lt_zero r), fun r hr => absurd hr (Nat.not_lt_zero r), fun r hr => absurd hr (Nat.not_lt_zero r)⟩, (((((zfr.wI 56 6 _ (by omega)).w 56 7 _ (by omega)).w 56 8 _ (by omega)).w 56 9 _ (by omega)).w 56 10 _ (by omega)).w 56 11 _ (by omega)⟩
  rw [r0, e6, s_X11_loom_L30, if_pos (show (6 : Int32) ≤ nI 6 from nI_le (a := 6) (by omega) (by omega))]
theorem k_loomM {t : Nat} (vn : zVn h) (ht : t ≤ 700) (h13 : zI h 52 13 = nI t) (hN : N ≤ t) (hB : ∀ i, i < N → B i < 256 ∧ zI h 63 i = nI (B i)) (hq : ∀ q, pLo B N (N + 1) 0 d0 = Sum.inl q → 1 ≤ q.1 ∧ q.1 ≤ 5) : (match pLo B N (N + 1) 0 d0 with
    | Sum.inl q => ∃ h', s_X11_loom (nI N) h = some (nI q.1, h') ∧ zI h' 52 4 = nI 0 ∧ zI h' 52 13 = nI 0 ∧ zI h' 52 22 = nI q.2 ∧ zI h' 62 0 = zI h 62 0 + 1 ∧ zfs zAlq h h'
    | Sum.inr E => ∃ h', s_X11_loom (nI N) h = some (nI 0, h') ∧ zI h' 52 4 = nI 0 ∧ zI h' 52 13 = nI 0 ∧ zI h' 52 22 = nM ∧ zPM h' (dPl E) ∧ zSM h' (dR E) (sS E) ∧ zI h' 52 35 = nI 0 ∧ zI h' 52 36 = nI 0 ∧ zI h' 52 59 = nI 0 ∧ dOk E N ∧ zfs zAlp h h') := by
  have hN7 : N ≤ 700 := by omega
  have f6 : zfr (fun b k => b = 52 ∧ (k = 4 ∨ k = 13 ∨ k = 14 ∨ k = 15 ∨ k = 20 ∨ k = 22)) h (zwI (zwI (zwI (zwI (zwI (zwI h 52 4 (0 : Int32)) 52 13 (0 : Int32)) 52 15 (nI N)) 52 14 (0 : Int32)) 52 20 (0 : Int32)) 52 22 (-1 : Int32)) := (((((zfr.wI 52 4 _ (by omega)).w 52 13 _ (by omega)).w 52 15 _ (by omega)).w 52 14 _ (by omega)).w 52 20 _ (by omega)).w 52 22 _ (by omega)
  have v6 : zI (zwI (zwI (zwI (zwI (zwI (zwI h 52 4 (0 : Int32)) 52 13 (0 : Int32)) 52 15 (nI N)) 52 14 (0 : Int32)) 52 20 (0 : Int32)) 52 22 (-1 : Int32)) 52 4 = nI 0 ∧ zI (zwI (zwI (zwI (zwI (zwI (zwI h 52 4 (0 : Int32)) 52 13 (0 : Int32)) 52 15 (nI N)) 52 14 (0 : Int32)) 52 20 (0 : Int32)) 52 22 (-1 : Int32)) 52 13 = nI 0 ∧ zI (zwI (zwI (zwI (zwI (zwI (zwI h 52 4 (0 : Int32)) 52 13 (0 : Int32)) 52 15 (nI N)) 52 14 (0 : Int32)) 52 20 (0 : Int32)) 52 22 (-1 : Int32)) 52 15 = nI N ∧ zI (zwI (zwI (zwI (zwI (zwI (zwI h 52 4 (0 : Int32)) 52 13 (0 : Int32)) 52 15 (nI N)) 52 14 (0 : Int32)) 52 20 (0 : Int32)) 52 22 (-1 : Int32)) 52 14 = nI 0 ∧ zI (zwI (zwI (zwI (zwI (zwI (zwI h 52 4 (0 : Int32)) 52 13 (0 : Int32)) 52 15 (nI N)) 52 14 (0 : Int32)) 52 20 (0 : Int32)) 52 22 (-1 : Int32)) 52 20 = nI 0 ∧ zI (zwI (zwI (zwI (zwI (zwI (zwI h 52 4 (0 : Int32)) 52 13 (0 : Int32)) 52 15 (nI N)) 52 14 (0 : Int32)) 52 20 (0 : Int32)) 52 22 (-1 : Int32)) 52 22 = nM := ⟨rfl, rfl, rfl, rfl, rfl, rfl⟩
  have key : s_X11_loom (nI N) h = s_X11_loom_L30 zfu (0 : Int32) (zwI (zwI (zwI (zwI (zwI (zwI h 52 4 (0 : Int32)) 52 13 (0 : Int32)) 52 15 (nI N)) 52 14 (0 : Int32)) 52 20 (0 : Int32)) 52 22 (-1 : Int32)) := by
    rw [s_X11_loom, zlt_e, if_neg (show ¬ nI N < 0 from nI_pos (by omega)), show zI (zwI h 52 4 (0 : Int32)) 52 13 = nI t from h13, if_pos (nI_le hN (by omega)), zlt_e, zlt_e, zlt_e, zlt_e, zlt_e]
  generalize zwI (zwI (zwI (zwI (zwI (zwI h 52 4 (0 : Int32)) 52 13 (0 : Int32)) 52 15 (nI N)) 52 14 (0 : Int32)) 52 20 (0 : Int32)) 52 22 (-1 : Int32) = h6 at f6 v6 key
  obtain ⟨a4, a13, a15, a14, a20, a22⟩ := v6
  obtain ⟨h7, e7, m7, f7⟩ := k_l30 h6
  have F7 : zfr (fun b k => (b = 52 ∧ (k = 4 ∨ k = 13 ∨ k = 14 ∨ k = 15 ∨ k = 20 ∨ k = 22)) ∨ (b = 56 ∧ 6 ≤ k)) h h7 := (f6.mo (fun b k e => by omega)).tr (f7.mo (fun b k e => by omega))
  have w7 : zTbm h7 B N := ⟨hN7, by rw [f7.i (by omega)]; exact a15, fun i hi => ⟨(hB i hi).1, by rw [F7.i (by omega)]; exact (hB i hi).2⟩⟩
  have vn7 : zVn h7 := vn.fs (F7.fs (C := fun _ _ => True) (fun _ _ _ => trivial))
  obtain ⟨h8, e8, t8, f8⟩ := k_step w7 (Nat.zero_le N) (by rw [f7.i (by omega)]; exact a14)
  have s8 : zLm h7 B N h8 0 d0 := ⟨f8.fs (fun b k e => by unfold zAu at e; unfold zAlm; omega), t8, by rw [f8.i (by unfold zAu; omega), f7.i (by omega)]; exact a20, m7.fr f8 (fun b k e1 e2 => by unfold zAu; omega)⟩
  have r := y_lo vn7 w7 (N + 1) 0 d0 h8 zfu (by omega) (zq_fu (by omega)) s8 (Nat.zero_le N) d0_ok
  have key2 : s_X11_loom (nI N) h = s_X11_loom_L54 zfu (nI (dn d0)) h8 := by
    rw [key, e7, e8, ob_e]
    rw [show nI (dn d0) = (0 : Int32) from rfl]
  have base : zfs zAlq h h7 := F7.fs (fun b k e => by unfold zAlq zAlm; omega)
  have baseP : zfs zAlp h h7 := F7.fs (fun b k e => by unfold zAlp zAlm; omega)
  have mo : ∀ {C D : Nat → Nat → Prop} {x y : zH}, zfs C x y → (∀ b k, C b k → D b k) → zfs D x y := by
    intro C D x y f m
    obtain ⟨b1, b2, b3, b4, b5, b6, b7⟩ := f
    exact ⟨b1, b2, b3, b4, b5, b6, fun a k q => b7 a k (fun z => q (m a k z))⟩
  cases hp9 : pLo B N (N + 1) 0 d0 with
  | inl q =>
    rw [hp9] at r
    obtain ⟨h9, e9, b1, b2, b3⟩ := r
    obtain ⟨q1, q5⟩ := hq q hp9
    have fr9 : zfs zAlq h h9 := base.tr (mo b1 (fun b k e => Or.inl e))
    have g10 : zfr (fun b k => (b = 52 ∧ k = 22) ∨ (b = 62 ∧ k = 0)) h9 (zwI (zwI h9 52 22 (zI h9 52 21)) 62 0 (zI (zwI h9 52 22 (zI h9 52 21)) 62 0 + 1)) := (zfr.wI 52 22 _ (by omega)).w 62 0 _ (by omega)
    refine ⟨zwI (zwI h9 52 22 (zI h9 52 21)) 62 0 (zI (zwI h9 52 22 (zI h9 52 21)) 62 0 + 1), ?_, ?_, ?_, ?_, ?_, fr9.fr g10 (fun b k e => by unfold zAlq; omega)⟩
    · rw [key2, e9, s_X11_loom_J65, if_neg (show ¬ zI h9 52 20 = 0 by rw [b2]; exact nI_ne0 (by omega) (by omega)), zlt_e, zlt_e]
      rw [show zI (zwI (zwI h9 52 22 (zI h9 52 21)) 62 0 (zI (zwI h9 52 22 (zI h9 52 21)) 62 0 + 1)) 52 20 = zI h9 52 20 from rfl, b2]
    · rw [g10.i (by omega), b1.i (by unfold zAlm; omega), f7.i (by omega)]; exact a4
    · rw [g10.i (by omega), b1.i (by unfold zAlm; omega), f7.i (by omega)]; exact a13
    · show zI h9 52 21 = nI q.2
      exact b3
    · show zI h9 62 0 + 1 = zI h 62 0 + 1
      rw [b1.i (by unfold zAlm; omega), F7.i (by omega)]
  | inr E =>
    rw [hp9] at r
    obtain ⟨h9, e9, b1, b2, b3, b4⟩ := r
    obtain ⟨h10, e10, p10, s10, c35, c36, c59, f10⟩ := k_tov b3 b4 hN7
    refine ⟨h10, ?_, ?_, ?_, ?_, p10, s10, c35, c36, c59, b4, (baseP.tr (mo b1 (fun b k e => Or.inl e))).fr f10 (fun b k e => Or.inr (Or.inl e))⟩
    · rw [key2, e9, s_X11_loom_J65, if_pos (show zI h9 52 20 = 0 from b2), e10, ob_e, zq_0]
    · rw [f10.i (by unfold zAlw; omega), b1.i (by unfold zAlm; omega), f7.i (by omega)]; exact a4
    · rw [f10.i (by unfold zAlw; omega), b1.i (by unfold zAlm; omega), f7.i (by omega)]; exact a13
    · rw [f10.i (by unfold zAlw; omega), b1.i (by unfold zAlm; omega), f7.i (by omega)]; exact a22
end LM
