/-! ===== a state is copied, packed, unpacked ===== -/
/-- a state in a row, as the class packs it -/
def zAC (h : zH) (b o R : Nat) (S : Nat → Nat) : Prop := (∀ r, r < R → zI h b (o + r) = nI (S r)) ∧ (∀ j, 30 ≤ j → j ≤ 37 → zI h b (o + j) = nI (S j)) ∧ ∀ i, i < S 37 → zI h b (o + (12 + i)) = nI (S (12 + i)) ∧ zI h b (o + (21 + i)) = nI (S (21 + i))
/-- the reference's own cells, in the order in which it packs them -/
def qMc (j : Nat) : Nat × Nat := if j = 0 then (52, 29) else if j = 1 then (52, 30) else if j = 2 then (52, 31) else if j = 3 then (52, 32) else if j = 4 then (52, 33) else if j = 5 then (52, 34) else if j < 15 then (66, j - 6) else if j < 24 then (67, j - 15) else if j < 36 then (64, j - 24) else (65, j - 36)
def zMr (h : zH) (j : Nat) : Int32 := zI h (qMc j).1 (qMc j).2
/-- a state in a row, as the reference packs it -/
def zAM (h : zH) (b o R : Nat) (S : Nat → Nat) : Prop := (∀ r, r < R → zI h b (o + (24 + r)) = nI (S r)) ∧ (zI h b (o + 36) = nI (S 30) ∧ zI h b (o + 37) = nI (S 31) ∧ zI h b (o + 1) = nI (S 32) ∧ zI h b (o + 2) = nI (S 33) ∧ zI h b (o + 3) = nI (S 34) ∧ zI h b o = nI (S 35) ∧ zI h b (o + 4) = nI (S 36) ∧ zI h b (o + 5) = nI (S 37)) ∧ ∀ i, i < S 37 → zI h b (o + (6 + i)) = nI (S (12 + i)) ∧ zI h b (o + (15 + i)) = nI (S (21 + i))
theorem zAM.of {h h1 : zH} {b o R : Nat} {S : Nat → Nat} (hR : R ≤ 12) (hk : S 37 ≤ 9) (s : zSM h R S) (e : ∀ j, j < 38 → zI h1 b (o + j) = zMr h j) : zAM h1 b o R S := by
  obtain ⟨s0, s1, s2, s3, s4, s5, s6, s7, s8, s9⟩ := s
  refine ⟨fun r hr => ?_, ⟨?_, ?_, ?_, ?_, ?_, ?_, ?_, ?_⟩, fun i hi => ⟨?_, ?_⟩⟩
  · rw [e (24 + r) (by omega), zMr, qMc]
    rw [if_neg (by omega), if_neg (by omega), if_neg (by omega), if_neg (by omega), if_neg (by omega), if_neg (by omega), if_neg (by omega), if_neg (by omega), if_pos (by omega)]
    show zI h 64 (24 + r - 24) = _
    rw [show 24 + r - 24 = r by omega]; exact s0 r hr
  · rw [e 36 (by omega)]; exact s1
  · rw [e 37 (by omega)]; exact s2
  · rw [e 1 (by omega)]; exact s3
  · rw [e 2 (by omega)]; exact s4
  · rw [e 3 (by omega)]; exact s5
  · have := e 0 (by omega); rw [Nat.add_zero] at this; rw [this]; exact s6
  · rw [e 4 (by omega)]; exact s7
  · rw [e 5 (by omega)]; exact s8
  · rw [e (6 + i) (by omega), zMr, qMc]
    rw [if_neg (by omega), if_neg (by omega), if_neg (by omega), if_neg (by omega), if_neg (by omega), if_neg (by omega), if_pos (by omega)]
    show zI h 66 (6 + i - 6) = _
    rw [show 6 + i - 6 = i by omega]; exact (s9 i hi).1
  · rw [e (15 + i) (by omega), zMr, qMc]
    rw [if_neg (by omega), if_neg (by omega), if_neg (by omega), if_neg (by omega), if_neg (by omega), if_neg (by omega), if_neg (by omega), if_pos (by omega)]
    show zI h 67 (15 + i - 15) = _
    rw [show 15 + i - 15 = i by omega]; exact (s9 i hi).2
theorem zSM.of {h h1 : zH} {b o R : Nat} {S : Nat → Nat} (hR : R ≤ 12) (hk : S 37 ≤ 9) (s : zAM h b o R S) (e : ∀ j, j < 38 → zMr h1 j = zI h b (o + j)) : zSM h1 R S := by
  obtain ⟨s0, ⟨s1, s2, s3, s4, s5, s6, s7, s8⟩, s9⟩ := s
  refine ⟨fun r hr => ?_, ?_, ?_, ?_, ?_, ?_, ?_, ?_, ?_, fun i hi => ⟨?_, ?_⟩⟩
  · have := e (24 + r) (by omega)
    rw [zMr, qMc, if_neg (by omega), if_neg (by omega), if_neg (by omega), if_neg (by omega), if_neg (by omega), if_neg (by omega), if_neg (by omega), if_neg (by omega), if_pos (by omega)] at this
    have e2 : zI h1 64 (24 + r - 24) = zI h b (o + (24 + r)) := this
    rw [show 24 + r - 24 = r by omega] at e2
    rw [e2]; exact s0 r hr
  · exact (e 36 (by omega)).trans s1
  · exact (e 37 (by omega)).trans s2
  · exact (e 1 (by omega)).trans s3
  · exact (e 2 (by omega)).trans s4
  · exact (e 3 (by omega)).trans s5
  · have := e 0 (by omega); rw [Nat.add_zero] at this; exact this.trans s6
  · exact (e 4 (by omega)).trans s7
  · exact (e 5 (by omega)).trans s8
  · have := e (6 + i) (by omega)
    rw [zMr, qMc, if_neg (by omega), if_neg (by omega), if_neg (by omega), if_neg (by omega), if_neg (by omega), if_neg (by omega), if_pos (by omega)] at this
    have e2 : zI h1 66 (6 + i - 6) = zI h b (o + (6 + i)) := this
    rw [show 6 + i - 6 = i by omega] at e2
    rw [e2]; exact (s9 i hi).1
  · have := e (15 + i) (by omega)
    rw [zMr, qMc, if_neg (by omega), if_neg (by omega), if_neg (by omega), if_neg (by omega), if_neg (by omega), if_neg (by omega), if_neg (by omega), if_pos (by omega)] at this
    have e2 : zI h1 67 (15 + i - 15) = zI h b (o + (15 + i)) := this
    rw [show 15 + i - 15 = i by omega] at e2
    rw [e2]; exact (s9 i hi).2
section PK
variable {h : zH} {b n o : Nat}
/-- rows 24 and on, then the skills -/
theorem k_packM_2 (hb : b ≠ 64 ∧ b ≠ 65 ∧ b ≠ 66 ∧ b ≠ 67 ∧ b ≠ 52) (hn : o + 38 ≤ n) (hn2 : n < 30000) : ∀ k m h, k ≤ 12 → k < m → ∃ h', s_X11_pack_L73 b n m (nI o) (nI (12 - k)) h = some h' ∧ (∀ j, 36 - k ≤ j → j < 38 → zI h' b (o + j) = zMr h j) ∧ zfr (fun c j => c = b ∧ o + 36 - k ≤ j ∧ j < o + 38) h h' := by
  intro k
  induction k with
  | zero =>
    intro m h _ hm
    obtain ⟨m, rfl, -⟩ := zq_suc hm
    have e1 : nI o + 38 - 2 = nI (o + 36) := by
      rw [show nI o + 38 = nI (o + 38) from nI_add o 38]
      exact zq_sub (b := 2) (by omega)
    have e2 : nI o + 38 - 1 = nI (o + 37) := by
      rw [show nI o + 38 = nI (o + 38) from nI_add o 38]
      exact zq_sub (b := 1) (by omega)
    rw [s_X11_pack_L73, if_pos (show (12 : Int32) ≤ nI (12 - 0) by decide), e1, e2, zq_ix (by omega) (by omega)]
    simp only [zlt_e]
    rw [zq_ix (by omega) (by omega)]
    refine ⟨_, rfl, fun j h1 h2 => ?_, (zfr.wI b (o + 36) _ ⟨rfl, by omega, by omega⟩).w b (o + 37) _ ⟨rfl, by omega, by omega⟩⟩
    have e : j = 36 ∨ j = 37 := by omega
    rcases e with e | e <;> subst e
    · rw [zI_wI, if_pos rfl, if_neg (by omega), zI_wI, if_pos rfl, if_pos rfl]; rfl
    · rw [zI_wI, if_pos rfl, if_pos rfl, zI_wI, if_neg (by omega)]; rfl
  | succ k ih =>
    intro m h hk hm
    obtain ⟨m, rfl, hm2⟩ := zq_suc hm
    have e1 : ¬ (12 : Int32) ≤ nI (12 - (k + 1)) := nI_ge (b := 12) (by omega) (by omega)
    have e2 : nI o + 6 + 18 + nI (12 - (k + 1)) = nI (o + (36 - (k + 1))) := by
      rw [show nI o + 6 = nI (o + 6) from nI_add o 6, show nI (o + 6) + 18 = nI (o + 6 + 18) from nI_add _ 18, nI_add]
      congr 1
      omega
    have e3 : nI (12 - (k + 1)) + 1 = nI (12 - k) := by
      rw [show nI (12 - (k + 1)) + 1 = nI (12 - (k + 1) + 1) from nI_1 _]
      congr 1
      omega
    rw [s_X11_pack_L73, if_neg e1, e2, e3, zq_ix (by omega) (by omega), zq_ix (by omega) (by omega)]
    simp only [zlt_e]
    obtain ⟨h', r1, r2, r3⟩ := ih m (zwI h b (o + (36 - (k + 1))) (zI h 64 (12 - (k + 1)))) (by omega) (by omega)
    have fr1 : zfr (fun c j => c = b ∧ o + 36 - (k + 1) ≤ j ∧ j < o + 38) h (zwI h b (o + (36 - (k + 1))) (zI h 64 (12 - (k + 1)))) := zfr.wI b _ _ ⟨rfl, by omega, by omega⟩
    have mr : ∀ j, zMr (zwI h b (o + (36 - (k + 1))) (zI h 64 (12 - (k + 1)))) j = zMr h j := by
      intro j
      unfold zMr
      rw [zI_wI, if_neg]
      unfold qMc
      repeat' split
      all_goals (intro e; dsimp only at e; omega)
    refine ⟨h', r1, fun j h1 h2 => ?_, fr1.tr (r3.mo (fun c j e => ⟨e.1, by omega, e.2.2⟩))⟩
    rcases Nat.lt_or_ge j (36 - k) with q | q
    · have e : j = 36 - (k + 1) := by omega
      subst e
      rw [r3.i (by omega), zI_wI, if_pos rfl, if_pos rfl, zMr, qMc]
      rw [if_neg (by omega), if_neg (by omega), if_neg (by omega), if_neg (by omega), if_neg (by omega), if_neg (by omega), if_neg (by omega), if_neg (by omega), if_pos (by omega)]
      show _ = zI h 64 (36 - (k + 1) - 24)
      congr 1
      omega
    · rw [r2 j q h2, mr]
theorem k_packM_1 (hb : b ≠ 64 ∧ b ≠ 65 ∧ b ≠ 66 ∧ b ≠ 67 ∧ b ≠ 52) (hn : o + 38 ≤ n) (hn2 : n < 30000) : ∀ k m h, k ≤ 9 → k < m → ∃ h', s_X11_pack_L42 b n m (nI o) (nI (9 - k)) h = some h' ∧ (∀ j, (15 - k ≤ j ∧ j < 15) ∨ (24 - k ≤ j ∧ j < 38) → zI h' b (o + j) = zMr h j) ∧ zfr (fun c j => c = b ∧ ((o + 15 - k ≤ j ∧ j < o + 15) ∨ (o + 24 - k ≤ j ∧ j < o + 38))) h h' := by
  intro k
  induction k with
  | zero =>
    intro m h _ hm
    obtain ⟨m, rfl, -⟩ := zq_suc hm
    rw [s_X11_pack_L42, if_pos (show (9 : Int32) ≤ nI (9 - 0) by decide)]
    obtain ⟨h', r1, r2, r3⟩ := k_packM_2 hb hn hn2 12 zfu h (by omega) (zq_fu (by omega))
    exact ⟨h', r1, fun j hj => r2 j (by omega) (by omega), r3.mo (fun c j e => ⟨e.1, by omega⟩)⟩
  | succ k ih =>
    intro m h hk hm
    obtain ⟨m, rfl, hm2⟩ := zq_suc hm
    have e1 : ¬ (9 : Int32) ≤ nI (9 - (k + 1)) := nI_ge (b := 9) (by omega) (by omega)
    have e2 : nI o + 6 + nI (9 - (k + 1)) = nI (o + (15 - (k + 1))) := by
      rw [show nI o + 6 = nI (o + 6) from nI_add o 6, nI_add]
      congr 1
      omega
    have e2b : nI o + 6 + 9 + nI (9 - (k + 1)) = nI (o + (24 - (k + 1))) := by
      rw [show nI o + 6 = nI (o + 6) from nI_add o 6, show nI (o + 6) + 9 = nI (o + 6 + 9) from nI_add _ 9, nI_add]
      congr 1
      omega
    have e3 : nI (9 - (k + 1)) + 1 = nI (9 - k) := by
      rw [show nI (9 - (k + 1)) + 1 = nI (9 - (k + 1) + 1) from nI_1 _]
      congr 1
      omega
    rw [s_X11_pack_L42, if_neg e1, e2, e2b, e3, zq_ix (by omega) (by omega), zq_ix (by omega) (by omega)]
    simp only [zlt_e]
    rw [zq_ix (by omega) (by omega), zq_ix (by omega) (by omega)]
    generalize e9 : zwI (zwI h b (o + (15 - (k + 1))) (zI h 66 (9 - (k + 1)))) b (o + (24 - (k + 1))) (zI (zwI h b (o + (15 - (k + 1))) (zI h 66 (9 - (k + 1)))) 67 (9 - (k + 1))) = h9
    obtain ⟨h', r1, r2, r3⟩ := ih m h9 (by omega) (by omega)
    have fr1 : zfr (fun c j => c = b ∧ ((o + 15 - (k + 1) ≤ j ∧ j < o + 15) ∨ (o + 24 - (k + 1) ≤ j ∧ j < o + 38))) h h9 := by
      rw [← e9]
      exact (zfr.wI b _ _ ⟨rfl, by omega⟩).w b _ _ ⟨rfl, by omega⟩
    have mr : ∀ j, zMr h9 j = zMr h j := by
      intro j
      unfold zMr
      rw [fr1.i]
      unfold qMc
      repeat' split
      all_goals (intro e; dsimp only at e; omega)
    have g6 : zI h9 b (o + (15 - (k + 1))) = zI h 66 (9 - (k + 1)) := by
      rw [← e9, zI_wI, if_pos rfl, if_neg (by omega), zI_wI, if_pos rfl, if_pos rfl]
    have g7 : zI h9 b (o + (24 - (k + 1))) = zI h 67 (9 - (k + 1)) := by
      rw [← e9, zI_wI, if_pos rfl, if_pos rfl, zI_wI, if_neg (by omega)]
    refine ⟨h', r1, fun j hj => ?_, fr1.tr (r3.mo (fun c j e => ⟨e.1, by omega⟩))⟩
    by_cases q : j = 15 - (k + 1)
    · subst q
      rw [r3.i (by omega), g6, zMr, qMc]
      rw [if_neg (by omega), if_neg (by omega), if_neg (by omega), if_neg (by omega), if_neg (by omega), if_neg (by omega), if_pos (by omega)]
      show _ = zI h 66 (15 - (k + 1) - 6)
      congr 1
      omega
    · by_cases q2 : j = 24 - (k + 1)
      · subst q2
        rw [r3.i (by omega), g7, zMr, qMc]
        rw [if_neg (by omega), if_neg (by omega), if_neg (by omega), if_neg (by omega), if_neg (by omega), if_neg (by omega), if_neg (by omega), if_pos (by omega)]
        show _ = zI h 67 (24 - (k + 1) - 15)
        congr 1
        omega
      · rw [r2 j (by omega), mr]
theorem k_packM (hb : b ≠ 64 ∧ b ≠ 65 ∧ b ≠ 66 ∧ b ≠ 67 ∧ b ≠ 52) (hn : o + 38 ≤ n) (hn2 : n < 30000) : ∃ h', s_X11_pack b n (nI o) h = some h' ∧ (∀ j, j < 38 → zI h' b (o + j) = zMr h j) ∧ zfr (fun c j => c = b ∧ o ≤ j ∧ j < o + 38) h h' := by
  rw [s_X11_pack]
  rw [show nI o + 1 = nI (o + 1) from nI_1 o, show nI o + 2 = nI (o + 2) from nI_add o 2, show nI o + 3 = nI (o + 3) from nI_add o 3, show nI o + 4 = nI (o + 4) from nI_add o 4, show nI o + 5 = nI (o + 5) from nI_add o 5]
  simp (disch := omega) only [zq_ix, zlt_e]
  generalize e0 : zwI h b o (zI h 52 29) = h0
  have p0 : ∀ j, zI h0 52 j = zI h 52 j := fun j => by rw [← e0, zI_wI, if_neg (by omega)]
  generalize e1 : zwI h0 b (o + 1) (zI h0 52 30) = h1
  have p1 : ∀ j, zI h1 52 j = zI h 52 j := fun j => by rw [← e1, zI_wI, if_neg (by omega), p0]
  generalize e2 : zwI h1 b (o + 2) (zI h1 52 31) = h2
  have p2 : ∀ j, zI h2 52 j = zI h 52 j := fun j => by rw [← e2, zI_wI, if_neg (by omega), p1]
  generalize e3 : zwI h2 b (o + 3) (zI h2 52 32) = h3
  have p3 : ∀ j, zI h3 52 j = zI h 52 j := fun j => by rw [← e3, zI_wI, if_neg (by omega), p2]
  generalize e4 : zwI h3 b (o + 4) (zI h3 52 33) = h4
  have p4 : ∀ j, zI h4 52 j = zI h 52 j := fun j => by rw [← e4, zI_wI, if_neg (by omega), p3]
  generalize e5 : zwI h4 b (o + 5) (zI h4 52 34) = h5
  have fr : zfr (fun c j => c = b ∧ o ≤ j ∧ j < o + 6) h h5 := by
    rw [← e5, ← e4, ← e3, ← e2, ← e1, ← e0]
    exact (((((zfr.wI b o _ (by omega)).w b (o + 1) _ (by omega)).w b (o + 2) _ (by omega)).w b (o + 3) _ (by omega)).w b (o + 4) _ (by omega)).w b (o + 5) _ (by omega)
  have v0 : zI h5 b o = zI h 52 29 := by rw [← e5, zI_wI, if_pos rfl, if_neg (by omega), ← e4, zI_wI, if_pos rfl, if_neg (by omega), ← e3, zI_wI, if_pos rfl, if_neg (by omega), ← e2, zI_wI, if_pos rfl, if_neg (by omega), ← e1, zI_wI, if_pos rfl, if_neg (by omega), ← e0, zI_wI, if_pos rfl, if_pos rfl]
  have v1 : zI h5 b (o + 1) = zI h 52 30 := by rw [← e5, zI_wI, if_pos rfl, if_neg (by omega), ← e4, zI_wI, if_pos rfl, if_neg (by omega), ← e3, zI_wI, if_pos rfl, if_neg (by omega), ← e2, zI_wI, if_pos rfl, if_neg (by omega), ← e1, zI_wI, if_pos rfl, if_pos rfl, p0]
  have v2 : zI h5 b (o + 2) = zI h 52 31 := by rw [← e5, zI_wI, if_pos rfl, if_neg (by omega), ← e4, zI_wI, if_pos rfl, if_neg (by omega), ← e3, zI_wI, if_pos rfl, if_neg (by omega), ← e2, zI_wI, if_pos rfl, if_pos rfl, p1]
  have v3 : zI h5 b (o + 3) = zI h 52 32 := by rw [← e5, zI_wI, if_pos rfl, if_neg (by omega), ← e4, zI_wI, if_pos rfl, if_neg (by omega), ← e3, zI_wI, if_pos rfl, if_pos rfl, p2]
  have v4 : zI h5 b (o + 4) = zI h 52 33 := by rw [← e5, zI_wI, if_pos rfl, if_neg (by omega), ← e4, zI_wI, if_pos rfl, if_pos rfl, p3]
  have v5 : zI h5 b (o + 5) = zI h 52 34 := by rw [← e5, zI_wI, if_pos rfl, if_pos rfl, p4]
  obtain ⟨h', r1, r2, r3⟩ := k_packM_1 hb hn hn2 9 zfu h5 (by omega) (zq_fu (by omega))
  refine ⟨h', r1, fun j hj => ?_, (fr.mo (fun c j e => ⟨e.1, by omega, by omega⟩)).tr (r3.mo (fun c j e => ⟨e.1, by omega, by omega⟩))⟩
  rcases Nat.lt_or_ge j 6 with q | q
  · rw [r3.i (by omega)]
    have e : j = 0 ∨ j = 1 ∨ j = 2 ∨ j = 3 ∨ j = 4 ∨ j = 5 := by omega
    rcases e with e | e | e | e | e | e <;> subst e
    · exact v0
    · exact v1
    · exact v2
    · exact v3
    · exact v4
    · exact v5
  · rw [r2 j (by omega)]
    unfold zMr
    rw [fr.i]
    unfold qMc
    repeat' split
    all_goals (intro e; dsimp only at e; omega)
end PK
