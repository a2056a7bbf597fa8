/-! ===== a state is unpacked, in the reference ===== -/
/-- the reference's state cells -/
def zAs : Nat → Nat → Prop := fun c j => (c = 64 ∧ j < 12) ∨ (c = 65 ∧ j < 2) ∨ (c = 66 ∧ j < 9) ∨ (c = 67 ∧ j < 9) ∨ (c = 52 ∧ 29 ≤ j ∧ j ≤ 34)
section UP
variable {h : zH} {b n o : Nat}
theorem k_unpM_2 (hb : b ≠ 64 ∧ b ≠ 65 ∧ b ≠ 66 ∧ b ≠ 67 ∧ b ≠ 52) (hn : o + 38 ≤ n) (hn2 : n < 30000) : ∀ k m h, k ≤ 12 → k < m → ∃ h', s_X11_unpack_L73 b n m (nI o) (nI (12 - k)) h = some h' ∧ (∀ r, 12 - k ≤ r → r < 12 → zI h' 64 r = zI h b (o + (24 + r))) ∧ zI h' 65 0 = zI h b (o + 36) ∧ zI h' 65 1 = zI h b (o + 37) ∧ zfr (fun c j => (c = 64 ∧ 12 - k ≤ j ∧ j < 12) ∨ (c = 65 ∧ j < 2)) h h' := by
  intro k
  induction k with
  | zero =>
    intro m h _ hm
    obtain ⟨m, rfl, -⟩ := zq_suc hm
    have e1 : nI o + 38 - 2 = nI (o + 36) := by
      rw [show nI o + 38 = nI (o + 38) from nI_add o 38]
      exact zq_sub (b := 2) (by omega)
    have e2 : nI o + 38 - 1 = nI (o + 37) := by
      rw [show nI o + 38 = nI (o + 38) from nI_add o 38]
      exact zq_sub (b := 1) (by omega)
    rw [s_X11_unpack_L73, if_pos (show (12 : Int32) ≤ nI (12 - 0) by decide), e1, e2, zq_ix (by omega) (by omega)]
    simp only [zlt_e]
    rw [zq_ix (by omega) (by omega)]
    refine ⟨_, rfl, fun r h1 h2 => by omega, ?_, ?_, (zfr.wI 65 0 _ (by omega)).w 65 1 _ (by omega)⟩
    · rw [zI_wI, if_pos rfl, if_neg (by omega), zI_wI, if_pos rfl, if_pos rfl]
    · rw [zI_wI, if_pos rfl, if_pos rfl, zI_wI, if_neg (by omega)]
  | succ k ih =>
    intro m h hk hm
    obtain ⟨m, rfl, hm2⟩ := zq_suc hm
    have e1 : ¬ (12 : Int32) ≤ nI (12 - (k + 1)) := nI_ge (b := 12) (by omega) (by omega)
    have e2 : nI o + 6 + 18 + nI (12 - (k + 1)) = nI (o + (24 + (12 - (k + 1)))) := by
      rw [show nI o + 6 = nI (o + 6) from nI_add o 6, show nI (o + 6) + 18 = nI (o + 6 + 18) from nI_add _ 18, nI_add]
      congr 1
      omega
    have e3 : nI (12 - (k + 1)) + 1 = nI (12 - k) := by
      rw [show nI (12 - (k + 1)) + 1 = nI (12 - (k + 1) + 1) from nI_1 _]
      congr 1
      omega
    rw [s_X11_unpack_L73, if_neg e1, e2, e3, zq_ix (by omega) (by omega), zq_ix (by omega) (by omega)]
    simp only [zlt_e]
    generalize e9 : zwI h 64 (12 - (k + 1)) (zI h b (o + (24 + (12 - (k + 1))))) = h9
    have fr1 : zfr (fun c j => (c = 64 ∧ 12 - (k + 1) ≤ j ∧ j < 12) ∨ (c = 65 ∧ j < 2)) h h9 := by
      rw [← e9]
      exact zfr.wI 64 _ _ (by omega)
    obtain ⟨h', r1, r2, r3, r4, r5⟩ := ih m h9 (by omega) (by omega)
    refine ⟨h', r1, fun r h1 h2 => ?_, ?_, ?_, fr1.tr (r5.mo (fun c j e => by omega))⟩
    · rcases Nat.lt_or_ge r (12 - k) with q | q
      · have e : r = 12 - (k + 1) := by omega
        subst e
        rw [r5.i (by omega), ← e9, zI_wI, if_pos rfl, if_pos rfl]
      · rw [r2 r q h2, fr1.i (by omega)]
    · rw [r3, fr1.i (by omega)]
    · rw [r4, fr1.i (by omega)]
theorem k_unpM_1 (hb : b ≠ 64 ∧ b ≠ 65 ∧ b ≠ 66 ∧ b ≠ 67 ∧ b ≠ 52) (hn : o + 38 ≤ n) (hn2 : n < 30000) : ∀ k m h, k ≤ 9 → k < m → ∃ h', s_X11_unpack_L42 b n m (nI o) (nI (9 - k)) h = some h' ∧ (∀ i, 9 - k ≤ i → i < 9 → zI h' 66 i = zI h b (o + (6 + i)) ∧ zI h' 67 i = zI h b (o + (15 + i))) ∧ (∀ r, r < 12 → zI h' 64 r = zI h b (o + (24 + r))) ∧ zI h' 65 0 = zI h b (o + 36) ∧ zI h' 65 1 = zI h b (o + 37) ∧ zfr (fun c j => (c = 64 ∧ j < 12) ∨ (c = 65 ∧ j < 2) ∨ (c = 66 ∧ 9 - k ≤ j ∧ j < 9) ∨ (c = 67 ∧ 9 - k ≤ j ∧ j < 9)) h h' := by
  intro k
  induction k with
  | zero =>
    intro m h _ hm
    obtain ⟨m, rfl, -⟩ := zq_suc hm
    rw [s_X11_unpack_L42, if_pos (show (9 : Int32) ≤ nI (9 - 0) by decide)]
    obtain ⟨h', r1, r2, r3, r4, r5⟩ := k_unpM_2 hb hn hn2 12 zfu h (by omega) (zq_fu (by omega))
    exact ⟨h', r1, fun i h1 h2 => by omega, fun r hr => r2 r (by omega) hr, r3, r4, r5.mo (fun c j e => by omega)⟩
  | succ k ih =>
    intro m h hk hm
    obtain ⟨m, rfl, hm2⟩ := zq_suc hm
    have e1 : ¬ (9 : Int32) ≤ nI (9 - (k + 1)) := nI_ge (b := 9) (by omega) (by omega)
    have e2 : nI o + 6 + nI (9 - (k + 1)) = nI (o + (6 + (9 - (k + 1)))) := by
      rw [show nI o + 6 = nI (o + 6) from nI_add o 6, nI_add]
      congr 1
      omega
    have e2b : nI o + 6 + 9 + nI (9 - (k + 1)) = nI (o + (15 + (9 - (k + 1)))) := by
      rw [show nI o + 6 = nI (o + 6) from nI_add o 6, show nI (o + 6) + 9 = nI (o + 6 + 9) from nI_add _ 9, nI_add]
      congr 1
      omega
    have e3 : nI (9 - (k + 1)) + 1 = nI (9 - k) := by
      rw [show nI (9 - (k + 1)) + 1 = nI (9 - (k + 1) + 1) from nI_1 _]
      congr 1
      omega
    rw [s_X11_unpack_L42, if_neg e1, e2, e2b, e3, zq_ix (by omega) (by omega), zq_ix (by omega) (by omega)]
    simp only [zlt_e]
    rw [zq_ix (by omega) (by omega), zq_ix (by omega) (by omega)]
    generalize e9 : zwI (zwI h 66 (9 - (k + 1)) (zI h b (o + (6 + (9 - (k + 1)))))) 67 (9 - (k + 1)) (zI (zwI h 66 (9 - (k + 1)) (zI h b (o + (6 + (9 - (k + 1)))))) b (o + (15 + (9 - (k + 1))))) = h9
    have fr1 : zfr (fun c j => (c = 64 ∧ j < 12) ∨ (c = 65 ∧ j < 2) ∨ (c = 66 ∧ 9 - (k + 1) ≤ j ∧ j < 9) ∨ (c = 67 ∧ 9 - (k + 1) ≤ j ∧ j < 9)) h h9 := by
      rw [← e9]
      exact (zfr.wI 66 _ _ (by omega)).w 67 _ _ (by omega)
    have g6 : zI h9 66 (9 - (k + 1)) = zI h b (o + (6 + (9 - (k + 1)))) := by
      rw [← e9, zI_wI, if_neg (by omega), zI_wI, if_pos rfl, if_pos rfl]
    have g7 : zI h9 67 (9 - (k + 1)) = zI h b (o + (15 + (9 - (k + 1)))) := by
      rw [← e9, zI_wI, if_pos rfl, if_pos rfl, zI_wI, if_neg (by omega)]
    obtain ⟨h', r1, r2, r3, r4, r5, r6⟩ := ih m h9 (by omega) (by omega)
    refine ⟨h', r1, fun i h1 h2 => ?_, fun r hr => ?_, ?_, ?_, fr1.tr (r6.mo (fun c j e => by omega))⟩
    · rcases Nat.lt_or_ge i (9 - k) with q | q
      · have e : i = 9 - (k + 1) := by omega
        subst e
        rw [r6.i (by omega), r6.i (by omega)]
        exact ⟨g6, g7⟩
      · have := r2 i q h2
        rw [fr1.i (by omega), fr1.i (by omega)] at this
        exact this
    · rw [r3 r hr, fr1.i (by omega)]
    · rw [r4, fr1.i (by omega)]
    · rw [r5, fr1.i (by omega)]
theorem k_unpM (hb : b ≠ 64 ∧ b ≠ 65 ∧ b ≠ 66 ∧ b ≠ 67 ∧ b ≠ 52) (hn : o + 38 ≤ n) (hn2 : n < 30000) : ∃ h', s_X11_unpack b n (nI o) h = some h' ∧ (∀ j, j < 38 → zMr h' j = zI h b (o + j)) ∧ zfr zAs h h' := by
  rw [s_X11_unpack]
  rw [show nI o + 1 = nI (o + 1) from nI_1 o, show nI o + 2 = nI (o + 2) from nI_add o 2, show nI o + 3 = nI (o + 3) from nI_add o 3, show nI o + 4 = nI (o + 4) from nI_add o 4, show nI o + 5 = nI (o + 5) from nI_add o 5]
  simp (disch := omega) only [zq_ix, zlt_e]
  generalize e0 : zwI h 52 29 (zI h b o) = h0
  have p0 : ∀ j, zI h0 b j = zI h b j := fun j => by rw [← e0, zI_wI, if_neg (by omega)]
  generalize e1 : zwI h0 52 30 (zI h0 b (o + 1)) = h1
  have p1 : ∀ j, zI h1 b j = zI h b j := fun j => by rw [← e1, zI_wI, if_neg (by omega), p0]
  generalize e2 : zwI h1 52 31 (zI h1 b (o + 2)) = h2
  have p2 : ∀ j, zI h2 b j = zI h b j := fun j => by rw [← e2, zI_wI, if_neg (by omega), p1]
  generalize e3 : zwI h2 52 32 (zI h2 b (o + 3)) = h3
  have p3 : ∀ j, zI h3 b j = zI h b j := fun j => by rw [← e3, zI_wI, if_neg (by omega), p2]
  generalize e4 : zwI h3 52 33 (zI h3 b (o + 4)) = h4
  have p4 : ∀ j, zI h4 b j = zI h b j := fun j => by rw [← e4, zI_wI, if_neg (by omega), p3]
  generalize e5 : zwI h4 52 34 (zI h4 b (o + 5)) = h5
  have p5 : ∀ j, zI h5 b j = zI h b j := fun j => by rw [← e5, zI_wI, if_neg (by omega), p4]
  have fr : zfr zAs h h5 := by
    rw [← e5, ← e4, ← e3, ← e2, ← e1, ← e0]
    exact (((((zfr.wI 52 29 _ (by unfold zAs; omega)).w 52 30 _ (by unfold zAs; omega)).w 52 31 _ (by unfold zAs; omega)).w 52 32 _ (by unfold zAs; omega)).w 52 33 _ (by unfold zAs; omega)).w 52 34 _ (by unfold zAs; omega)
  have v0 : zI h5 52 29 = zI h b o := by rw [← e5, zI_wI, if_pos rfl, if_neg (by omega), ← e4, zI_wI, if_pos rfl, if_neg (by omega), ← e3, zI_wI, if_pos rfl, if_neg (by omega), ← e2, zI_wI, if_pos rfl, if_neg (by omega), ← e1, zI_wI, if_pos rfl, if_neg (by omega), ← e0, zI_wI, if_pos rfl, if_pos rfl]
  have v1 : zI h5 52 30 = zI h b (o + 1) := by rw [← e5, zI_wI, if_pos rfl, if_neg (by omega), ← e4, zI_wI, if_pos rfl, if_neg (by omega), ← e3, zI_wI, if_pos rfl, if_neg (by omega), ← e2, zI_wI, if_pos rfl, if_neg (by omega), ← e1, zI_wI, if_pos rfl, if_pos rfl, p0]
  have v2 : zI h5 52 31 = zI h b (o + 2) := by rw [← e5, zI_wI, if_pos rfl, if_neg (by omega), ← e4, zI_wI, if_pos rfl, if_neg (by omega), ← e3, zI_wI, if_pos rfl, if_neg (by omega), ← e2, zI_wI, if_pos rfl, if_pos rfl, p1]
  have v3 : zI h5 52 32 = zI h b (o + 3) := by rw [← e5, zI_wI, if_pos rfl, if_neg (by omega), ← e4, zI_wI, if_pos rfl, if_neg (by omega), ← e3, zI_wI, if_pos rfl, if_pos rfl, p2]
  have v4 : zI h5 52 33 = zI h b (o + 4) := by rw [← e5, zI_wI, if_pos rfl, if_neg (by omega), ← e4, zI_wI, if_pos rfl, if_pos rfl, p3]
  have v5 : zI h5 52 34 = zI h b (o + 5) := by rw [← e5, zI_wI, if_pos rfl, if_pos rfl, p4]
  obtain ⟨h', r1, r2, r3, r4, r5, r6⟩ := k_unpM_1 hb hn hn2 9 zfu h5 (by omega) (zq_fu (by omega))
  refine ⟨h', r1, fun j hj => ?_, fr.tr (r6.mo (fun c j e => by unfold zAs; omega))⟩
  unfold zMr qMc
  by_cases q0 : j = 0
  · subst q0; rw [if_pos rfl, r6.i (by omega)]; exact v0
  by_cases q1 : j = 1
  · subst q1; rw [if_neg q0, if_pos rfl, r6.i (by omega)]; exact v1
  by_cases q2 : j = 2
  · subst q2; rw [if_neg q0, if_neg q1, if_pos rfl, r6.i (by omega)]; exact v2
  by_cases q3 : j = 3
  · subst q3; rw [if_neg q0, if_neg q1, if_neg q2, if_pos rfl, r6.i (by omega)]; exact v3
  by_cases q4 : j = 4
  · subst q4; rw [if_neg q0, if_neg q1, if_neg q2, if_neg q3, if_pos rfl, r6.i (by omega)]; exact v4
  by_cases q5 : j = 5
  · subst q5; rw [if_neg q0, if_neg q1, if_neg q2, if_neg q3, if_neg q4, if_pos rfl, r6.i (by omega)]; exact v5
  rw [if_neg q0, if_neg q1, if_neg q2, if_neg q3, if_neg q4, if_neg q5]
  by_cases q6 : j < 15
  · rw [if_pos q6]
    show zI h' 66 (j - 6) = _
    rw [(r2 (j - 6) (by omega) (by omega)).1, p5, show 6 + (j - 6) = j by omega]
  by_cases q7 : j < 24
  · rw [if_neg q6, if_pos q7]
    show zI h' 67 (j - 15) = _
    rw [(r2 (j - 15) (by omega) (by omega)).2, p5, show 15 + (j - 15) = j by omega]
  by_cases q8 : j < 36
  · rw [if_neg q6, if_neg q7, if_pos q8]
    show zI h' 64 (j - 24) = _
    rw [r3 (j - 24) (by omega), p5, show 24 + (j - 24) = j by omega]
  rw [if_neg q6, if_neg q7, if_neg q8]
  have e : j = 36 ∨ j = 37 := by omega
  rcases e with e | e <;> subst e
  · show zI h' 65 0 = _
    rw [r4, p5]
  · show zI h' 65 1 = _
    rw [r5, p5]
end UP
