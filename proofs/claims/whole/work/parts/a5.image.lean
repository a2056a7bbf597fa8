/-! ===== image, restore ===== -/
section IM
variable {h h1 h2 : zH} {pp c R : Nat} {P : zPl} {L : zLg}
theorem k_g1 {g : Nat} (hg : g ≤ 1) : nI g &&& 1 = nI g := by
  rcases (show g = 0 ∨ g = 1 by omega) with e | e <;> subst e <;> rfl
theorem k_c34 {a0 a1 m : Nat} (hd : a0 + 11 < a1 ∨ a1 + 11 < a0) (hm : m ≤ 8) : ∀ k j n h, j + k = m → k < n → zI h a0 7 = nI m → (∀ i, i < m → ∃ g, g ≤ 1 ∧ zI h (a1 + 9) i = nI g) → ∃ h1, s_X2_copyFrom_L34 a0 a1 n (nI j) h = some h1 ∧ (∀ i, j ≤ i → i < m → zI h1 (a0 + 7) i = zI h (a1 + 7) i ∧ zI h1 (a0 + 8) i = zI h (a1 + 8) i ∧ zI h1 (a0 + 9) i = zI h (a1 + 9) i) ∧ zfr (fun b i => a0 + 7 ≤ b ∧ b ≤ a0 + 9 ∧ j ≤ i) h h1 := by
  intro k
  induction k with
  | zero =>
    intro j n h e hn h7 hg
    obtain ⟨n, rfl, -⟩ := zq_suc hn
    rw [s_X2_copyFrom_L34, h7, if_pos (nI_le (by omega) (by omega))]
    exact ⟨h, rfl, fun i i1 i2 => by omega, zfr.rf _ h⟩
  | succ k ih =>
    intro j n h e hn h7 hg
    obtain ⟨n, rfl, hn2⟩ := zq_suc hn
    obtain ⟨g, g1, eg⟩ := hg j (by omega)
    have key : s_X2_copyFrom_L34 a0 a1 (n + 1) (nI j) h = s_X2_copyFrom_L34 a0 a1 n (nI (j + 1)) (zwI (zwI (zwI h (a0 + 7) j (zI h (a1 + 7) j)) (a0 + 8) j (zI h (a1 + 8) j)) (a0 + 9) j (zI h (a1 + 9) j)) := by
      rw [s_X2_copyFrom_L34, h7, if_neg (nI_ge (by omega) (by omega)), zq_ix (by omega) (by omega), zq_ix (by omega) (by omega), zlt_e, zq_ix (by omega) (by omega), zq_ix (by omega) (by omega), zlt_e, zq_ix (by omega) (by omega), zq_ix (by omega) (by omega), zlt_e, show nI j + 1 = nI (j + 1) from nI_1 j]
      rw [show zI (zwI h (a0 + 7) j (zI h (a1 + 7) j)) (a1 + 8) j = zI h (a1 + 8) j by rw [zI_wI, if_neg (by omega)]]
      rw [show zI (zwI (zwI h (a0 + 7) j (zI h (a1 + 7) j)) (a0 + 8) j (zI h (a1 + 8) j)) (a1 + 9) j = zI h (a1 + 9) j by rw [zI_wI, if_neg (by omega), zI_wI, if_neg (by omega)], eg, k_g1 g1]
    have f0 : zfr (fun b i => a0 + 7 ≤ b ∧ b ≤ a0 + 9 ∧ i = j) h (zwI (zwI (zwI h (a0 + 7) j (zI h (a1 + 7) j)) (a0 + 8) j (zI h (a1 + 8) j)) (a0 + 9) j (zI h (a1 + 9) j)) := ((zfr.wI _ _ _ (by omega)).w _ _ _ (by omega)).w _ _ _ (by omega)
    have v0 : zI (zwI (zwI (zwI h (a0 + 7) j (zI h (a1 + 7) j)) (a0 + 8) j (zI h (a1 + 8) j)) (a0 + 9) j (zI h (a1 + 9) j)) (a0 + 7) j = zI h (a1 + 7) j := by rw [zI_wI, if_neg (by omega), zI_wI, if_neg (by omega), zI_wI, if_pos rfl, if_pos rfl]
    have v1 : zI (zwI (zwI (zwI h (a0 + 7) j (zI h (a1 + 7) j)) (a0 + 8) j (zI h (a1 + 8) j)) (a0 + 9) j (zI h (a1 + 9) j)) (a0 + 8) j = zI h (a1 + 8) j := by rw [zI_wI, if_neg (by omega), zI_wI, if_pos rfl, if_pos rfl]
    have v2 : zI (zwI (zwI (zwI h (a0 + 7) j (zI h (a1 + 7) j)) (a0 + 8) j (zI h (a1 + 8) j)) (a0 + 9) j (zI h (a1 + 9) j)) (a0 + 9) j = zI h (a1 + 9) j := by rw [zI_wI, if_pos rfl, if_pos rfl]
    rw [key]
    generalize zwI (zwI (zwI h (a0 + 7) j (zI h (a1 + 7) j)) (a0 + 8) j (zI h (a1 + 8) j)) (a0 + 9) j (zI h (a1 + 9) j) = h2 at f0 v0 v1 v2
    obtain ⟨h3, e3, v3, f3⟩ := ih (j + 1) n h2 (by omega) (by omega) (by rw [f0.i (by omega)]; exact h7) (fun i hi => by rw [f0.i (by omega)]; exact hg i hi)
    refine ⟨h3, e3, fun i i1 i2 => ?_, (f0.mo (fun b i e => by omega)).tr (f3.mo (fun b i e => by omega))⟩
    by_cases z : i = j
    · rw [z, f3.i (by omega), f3.i (by omega), f3.i (by omega)]; exact ⟨v0, v1, v2⟩
    · obtain ⟨x1, x2, x3⟩ := v3 i (by omega) i2
      rw [x1, x2, x3, f0.i (by omega), f0.i (by omega), f0.i (by omega)]
      exact ⟨rfl, rfl, rfl⟩
/-- one ledger out of another -/
theorem k_cpL {a0 a1 : Nat} (hd : a0 + 11 < a1 ∨ a1 + 11 < a0) (hR : R ≤ 12) (hL : lOk R L) (w : zLC h a1 R L) : ∃ h1, s_X2_copyFrom a0 a1 h = some h1 ∧ zLC h1 a0 R L ∧ zfr (fun b _ => a0 ≤ b ∧ b ≤ a0 + 11) h h1 := by
  obtain ⟨w1, w2, w3, w4, w5, w6⟩ := w
  obtain ⟨o1, o2, o3, o4, o5⟩ := id hL
  obtain ⟨h1, e1, s1, f1⟩ := k_copy (a0 := a0 + 1) (a1 := a1 + 1) (by omega) hR o1.1.2.2.2.2.2 w1
  have i1 : ∀ b k, (a1 ≤ b ∧ b ≤ a1 + 11) → zI h1 b k = zI h b k := fun b k e => f1.i (by omega)
  have f2 : zfr (fun b k => b = a0 + 11 ∧ k < ln L * 38) h1 (zwA h1 (a0 + 11) (va_cpy (zI h1 (a1 + 11)) (zI h1 (a0 + 11)) 0 0 (ln L * 38))) := (zfr.rf _ h1).cpy (a1 + 11) (a0 + 11) 0 0 (ln L * 38) (fun j j1 j2 => ⟨rfl, by omega⟩)
  have v2 : ∀ j, j < ln L * 38 → zI (zwA h1 (a0 + 11) (va_cpy (zI h1 (a1 + 11)) (zI h1 (a0 + 11)) 0 0 (ln L * 38))) (a0 + 11) j = zI h (a1 + 11) j := by
    intro j hj
    rw [zI_cpy, if_pos ⟨rfl, by omega, by omega⟩, show 0 + (j - 0) = j by omega]
    exact i1 _ _ (by omega)
  generalize hh2 : zwA h1 (a0 + 11) (va_cpy (zI h1 (a1 + 11)) (zI h1 (a0 + 11)) 0 0 (ln L * 38)) = h2 at f2 v2
  have f3 : zfr (fun b k => b = a0 ∧ k = 6) h2 (zwI h2 a0 6 (nI (ln L))) := zfr.wI _ _ _ ⟨rfl, rfl⟩
  have v3 : zI (zwI h2 a0 6 (nI (ln L))) a0 6 = nI (ln L) := by rw [zI_wI, if_pos rfl, if_pos rfl]
  generalize hh3 : zwI h2 a0 6 (nI (ln L)) = h3 at f3 v3
  have f4 : zfr (fun b k => b = a0 + 10 ∧ k < 3) h3 (zwA h3 (a0 + 10) (va_cpy (zI h3 (a1 + 10)) (zI h3 (a0 + 10)) 0 0 3)) := (zfr.rf _ h3).cpy (a1 + 10) (a0 + 10) 0 0 3 (fun j j1 j2 => ⟨rfl, by omega⟩)
  have v4 : ∀ j, j < 3 → zI (zwA h3 (a0 + 10) (va_cpy (zI h3 (a1 + 10)) (zI h3 (a0 + 10)) 0 0 3)) (a0 + 10) j = zI h (a1 + 10) j := by
    intro j hj
    rw [zI_cpy, if_pos ⟨rfl, by omega, by omega⟩, show 0 + (j - 0) = j by omega, f3.i (by omega), f2.i (by omega)]
    exact i1 _ _ (by omega)
  generalize hh4 : zwA h3 (a0 + 10) (va_cpy (zI h3 (a1 + 10)) (zI h3 (a0 + 10)) 0 0 3) = h4 at f4 v4
  have f5 : zfr (fun b k => b = a0 ∧ k = 7) h4 (zwI h4 a0 7 (nI (lm L))) := zfr.wI _ _ _ ⟨rfl, rfl⟩
  have v5 : zI (zwI h4 a0 7 (nI (lm L))) a0 7 = nI (lm L) := by rw [zI_wI, if_pos rfl, if_pos rfl]
  generalize hh5 : zwI h4 a0 7 (nI (lm L)) = h5 at f5 v5
  have F25 : zfr (fun b k => b = a0 + 10 ∨ b = a0 + 11 ∨ (b = a0 ∧ (k = 6 ∨ k = 7))) h1 h5 := (((f2.mo (fun b k e => by omega)).tr (f3.mo (fun b k e => by omega))).tr (f4.mo (fun b k e => by omega))).tr (f5.mo (fun b k e => by omega))
  have j5 : ∀ b k, (a1 ≤ b ∧ b ≤ a1 + 11) → zI h5 b k = zI h b k := fun b k e => by rw [F25.i (by omega)]; exact i1 b k e
  obtain ⟨h6, e6, v6, f6⟩ := k_c34 (a0 := a0) (a1 := a1) (m := lm L) hd o4 (lm L) 0 zfu h5 (by omega) (zq_fu (by omega)) v5 (fun i hi => ⟨lg L i, (o5 i hi).2.2, by rw [j5 _ _ (by omega)]; exact (w5 i hi).2.2⟩)
  have key : s_X2_copyFrom a0 a1 h = some h6 := by
    rw [s_X2_copyFrom, e1, ob_e, i1 a1 6 (by omega), w2, show nI (ln L) * 38 = nI (ln L * 38) from pk_mul _ 38, show (0 : Int32) = nI 0 from rfl, show (3 : Int32) = nI 3 from rfl, zcq_e (by omega) (by omega) (by omega) (by omega), hh2, f2.i (by omega), i1 a1 6 (by omega), w2, zlt_e, hh3, zcq_e (by omega) (by omega) (by omega) (by omega), hh4, f4.i (by omega), f3.i (by omega), f2.i (by omega), i1 a1 7 (by omega), w4, zlt_e, hh5]
    exact e6
  have G : zfr (fun b k => (b = a0 ∧ (k = 6 ∨ k = 7)) ∨ (a0 + 7 ≤ b ∧ b ≤ a0 + 11)) h1 h6 := (F25.mo (fun b k e => by omega)).tr (f6.mo (fun b k e => by omega))
  refine ⟨h6, key, ⟨s1.fr G (fun b k e1 e2 => by omega), ?_, fun i hi => ?_, ?_, fun i hi => ?_, fun i hi => ?_⟩, (f1.mo (fun b k e => by omega)).tr (G.mo (fun b k e => by omega))⟩
  · rw [f6.i (by omega), f5.i (by omega), f4.i (by omega)]; exact v3
  · have hk := (o3 i hi).1.2.2.2.2.2
    have hb : ∀ j, j < ln L * 38 → zI h6 (a0 + 11) j = zI h (a1 + 11) j := fun j hj => by rw [f6.i (by omega), f5.i (by omega), f4.i (by omega), f3.i (by omega)]; exact v2 j hj
    have hi2 : 38 * i + 38 ≤ ln L * 38 := by omega
    obtain ⟨c1, c2, c3⟩ := w3 i hi
    refine ⟨fun r hr => ?_, fun j j1 j2 => ?_, fun j hj => ⟨?_, ?_⟩⟩
    · rw [hb _ (by omega)]; exact c1 r hr
    · rw [hb _ (by omega)]; exact c2 j j1 j2
    · rw [hb _ (by omega)]; exact (c3 j hj).1
    · rw [hb _ (by omega)]; exact (c3 j hj).2
  · rw [f6.i (by omega)]; exact v5
  · obtain ⟨x1, x2, x3⟩ := v6 i (by omega) hi
    rw [x1, x2, x3, j5 _ _ (by omega), j5 _ _ (by omega), j5 _ _ (by omega)]
    exact w5 i hi
  · rw [f6.i (by omega), f5.i (by omega), v4 i hi]; exact w6 i hi
theorem k_ct {a0 a1 m : Nat} (hd : a0 ≠ a1) (hm : m < 30000) : ∀ k j n h, j + k = m → k < n → ∃ h1, s_X11_copyTo_L2 a0 m a1 m n (nI j) h = some h1 ∧ (∀ i, j ≤ i → i < m → zI h1 a0 i = zI h a1 i) ∧ zfr (fun b i => b = a0 ∧ j ≤ i) h h1 := by
  intro k
  induction k with
  | zero =>
    intro j n h e hn
    obtain ⟨n, rfl, -⟩ := zq_suc hn
    rw [s_X11_copyTo_L2, if_pos (show Int32.ofNat m ≤ nI j from nI_le (a := m) (by omega) (by omega))]
    exact ⟨h, rfl, fun i i1 i2 => by omega, zfr.rf _ h⟩
  | succ k ih =>
    intro j n h e hn
    obtain ⟨n, rfl, hn2⟩ := zq_suc hn
    rw [s_X11_copyTo_L2, if_neg (show ¬ Int32.ofNat m ≤ nI j from nI_ge (b := m) (by omega) (by omega)), zq_ix (by omega) (by omega), zq_ix (by omega) (by omega), zlt_e, show nI j + 1 = nI (j + 1) from nI_1 j]
    have f0 : zfr (fun b i => b = a0 ∧ i = j) h (zwI h a0 j (zI h a1 j)) := zfr.wI _ _ _ ⟨rfl, rfl⟩
    have v0 : zI (zwI h a0 j (zI h a1 j)) a0 j = zI h a1 j := by rw [zI_wI, if_pos rfl, if_pos rfl]
    generalize zwI h a0 j (zI h a1 j) = h2 at f0 v0 ⊢
    obtain ⟨h3, e3, v3, f3⟩ := ih (j + 1) n h2 (by omega) (by omega)
    refine ⟨h3, e3, fun i i1 i2 => ?_, (f0.mo (fun b i e => by omega)).tr (f3.mo (fun b i e => by omega))⟩
    by_cases z : i = j
    · rw [z, f3.i (by omega)]; exact v0
    · rw [v3 i (by omega) i2, f0.i (by omega)]
theorem k_cto {a0 a1 : Nat} (m : Nat) (hd : a0 ≠ a1) (hm : m < 30000) (h : zH) : ∃ h1, s_X11_copyTo a0 m a1 m h = some h1 ∧ (∀ i, i < m → zI h1 a0 i = zI h a1 i) ∧ zfr (fun b _ => b = a0) h h1 := by
  obtain ⟨h1, e1, v1, f1⟩ := k_ct (a0 := a0) (a1 := a1) hd hm m 0 zfu h (by omega) (zq_fu (by omega))
  exact ⟨h1, by rw [s_X11_copyTo]; exact e1, fun i hi => v1 i (by omega) hi, f1.mo (fun b i e => by omega)⟩
theorem k_i36 {m : Nat} (hm : m ≤ 8) : ∀ k j n h, j + k = 8 → k < n → (∀ i, i < m → ∃ g, g ≤ 1 ∧ zI h 79 i = nI g) → ∃ h1, s_X11_image_L36 n (nI j) h = ((s_X11_copyTo 88 3 62 3 h1).bind fun h2 => some h2) ∧ (∀ i, j ≤ i → i < m → zI h1 89 i = zI h 79 i) ∧ zfr (fun b i => b = 89 ∧ j ≤ i) h h1 := by
  intro k
  induction k with
  | zero =>
    intro j n h e hn hg
    obtain ⟨n, rfl, -⟩ := zq_suc hn
    rw [s_X11_image_L36, if_pos (show (8 : Int32) ≤ nI j from nI_le (a := 8) (by omega) (by omega))]
    exact ⟨h, rfl, fun i i1 i2 => by omega, zfr.rf _ h⟩
  | succ k ih =>
    intro j n h e hn hg
    obtain ⟨n, rfl, hn2⟩ := zq_suc hn
    rw [s_X11_image_L36, if_neg (show ¬ (8 : Int32) ≤ nI j from nI_ge (b := 8) (by omega) (by omega)), zq_ix (by omega) (by omega), zq_ix (by omega) (by omega), zlt_e, show nI j + 1 = nI (j + 1) from nI_1 j]
    have f0 : zfr (fun b i => b = 89 ∧ i = j) h (zwI h 89 j (zI h 79 j &&& 1)) := zfr.wI _ _ _ ⟨rfl, rfl⟩
    have v0 : j < m → zI (zwI h 89 j (zI h 79 j &&& 1)) 89 j = zI h 79 j := fun hj => by
      obtain ⟨g, g1, eg⟩ := hg j hj
      rw [zI_wI, if_pos rfl, if_pos rfl, eg, k_g1 g1]
    generalize zwI h 89 j (zI h 79 j &&& 1) = h2 at f0 v0 ⊢
    obtain ⟨h3, e3, v3, f3⟩ := ih (j + 1) n h2 (by omega) (by omega) (fun i hi => by rw [f0.i (by omega)]; exact hg i hi)
    refine ⟨h3, e3, fun i i1 i2 => ?_, (f0.mo (fun b i e => by omega)).tr (f3.mo (fun b i e => by omega))⟩
    by_cases z : i = j
    · rw [z, f3.i (by omega)]; exact v0 (by omega)
    · rw [v3 i (by omega) i2, f0.i (by omega)]
theorem k_r38 {m : Nat} (hm : m ≤ 8) : ∀ k j n h, j + k = 8 → k < n → (∀ i, i < m → ∃ g, g ≤ 1 ∧ zI h 89 i = nI g) → ∃ h1, s_X11_restore_L38 n (nI j) h = ((s_X11_copyTo 62 3 88 3 h1).bind fun h2 => some ((1 : Int32), h2)) ∧ (∀ i, j ≤ i → i < m → zI h1 79 i = zI h 89 i) ∧ zfr (fun b i => b = 79 ∧ j ≤ i) h h1 := by
  intro k
  induction k with
  | zero =>
    intro j n h e hn hg
    obtain ⟨n, rfl, -⟩ := zq_suc hn
    rw [s_X11_restore_L38, if_pos (show (8 : Int32) ≤ nI j from nI_le (a := 8) (by omega) (by omega))]
    exact ⟨h, rfl, fun i i1 i2 => by omega, zfr.rf _ h⟩
  | succ k ih =>
    intro j n h e hn hg
    obtain ⟨n, rfl, hn2⟩ := zq_suc hn
    rw [s_X11_restore_L38, if_neg (show ¬ (8 : Int32) ≤ nI j from nI_ge (b := 8) (by omega) (by omega)), zq_ix (by omega) (by omega), zq_ix (by omega) (by omega), zlt_e, show nI j + 1 = nI (j + 1) from nI_1 j]
    have f0 : zfr (fun b i => b = 79 ∧ i = j) h (zwI h 79 j (zI h 89 j &&& 1)) := zfr.wI _ _ _ ⟨rfl, rfl⟩
    have v0 : j < m → zI (zwI h 79 j (zI h 89 j &&& 1)) 79 j = zI h 89 j := fun hj => by
      obtain ⟨g, g1, eg⟩ := hg j hj
      rw [zI_wI, if_pos rfl, if_pos rfl, eg, k_g1 g1]
    generalize zwI h 79 j (zI h 89 j &&& 1) = h2 at f0 v0 ⊢
    obtain ⟨h3, e3, v3, f3⟩ := ih (j + 1) n h2 (by omega) (by omega) (fun i hi => by rw [f0.i (by omega)]; exact hg i hi)
    refine ⟨h3, e3, fun i i1 i2 => ?_, (f0.mo (fun b i e => by omega)).tr (f3.mo (fun b i e => by omega))⟩
    by_cases z : i = j
    · rw [z, f3.i (by omega)]; exact v0 (by omega)
    · rw [v3 i (by omega) i2, f0.i (by omega)]
end IM
