/-! ===== a state is copied, packed, unpacked, in the class ===== -/
theorem zcq_e {α : Type} {a la b lb sp dp n : Nat} {h : zH} {K : zH → Option α} (h1 : sp + n ≤ la) (h2 : dp + n ≤ lb) (hl : la < 2 ^ 31) (hl2 : lb < 2 ^ 31) : zcq a la (nI sp) b lb (nI dp) (nI n) h K = K (zwA h b (va_cpy (zI h a) (zI h b) sp dp n)) := by
  unfold zcq
  rw [nI_clamp (by omega), nI_clamp (by omega), nI_clamp (by omega), decide_eq_false (nI_pos (n := sp) (by omega)), decide_eq_false (nI_pos (n := dp) (by omega)), decide_eq_false (nI_pos (n := n) (by omega)), decide_eq_true h1, decide_eq_true h2]
  rfl
/-- a row behind a copy -/
theorem zI_cpy (h : zH) (a b sp dp n c j : Nat) : zI (zwA h b (va_cpy (zI h a) (zI h b) sp dp n)) c j = if c = b ∧ dp ≤ j ∧ j < dp + n then zI h a (sp + (j - dp)) else zI h c j := by
  rw [zI_wA]
  by_cases q : c = b
  · subst q
    rw [if_pos rfl]
    by_cases q2 : dp ≤ j ∧ j < dp + n
    · rw [if_pos ⟨rfl, q2⟩, pk_cpy_in q2.1 q2.2]
    · rw [if_neg (fun n => q2 n.2), pk_cpy_out (by omega)]
  · rw [if_neg q, if_neg (fun n => q n.1)]
theorem zfr.cpy {A : Nat → Nat → Prop} {h h1 : zH} (f : zfr A h h1) (a b sp dp n : Nat) (q : ∀ j, dp ≤ j → j < dp + n → A b j) : zfr A h (zwA h1 b (va_cpy (zI h1 a) (zI h1 b) sp dp n)) := by
  refine f.tr ⟨rfl, rfl, rfl, rfl, rfl, rfl, fun c j w => ?_⟩
  rw [zI_cpy, if_neg]
  intro e
  exact w (by rw [e.1]; exact q j e.2.1 e.2.2)
section CP
variable {h : zH} {a0 a1 R : Nat} {S : Nat → Nat}
theorem k_copy (hd : a0 + 5 < a1 ∨ a1 + 5 < a0) (hR : R ≤ 12) (hk : S 37 ≤ 9) (s : zSC h a1 R S) : ∃ h', s_X8_copyFrom a0 a1 h = some h' ∧ zSC h' a0 R S ∧ zfr (fun b _ => a0 ≤ b ∧ b ≤ a0 + 5) h h' := by
  obtain ⟨s0, s1, s2, s3, s4, s5, s6, s7, s8, s9⟩ := s
  rw [s_X8_copyFrom]
  simp only [zq_0, zq_2, zq_9, zq_12]
  rw [zcq_e (by omega) (by omega) (by omega) (by omega), zcq_e (by omega) (by omega) (by omega) (by omega), zcq_e (by omega) (by omega) (by omega) (by omega), zcq_e (by omega) (by omega) (by omega) (by omega), zcq_e (by omega) (by omega) (by omega) (by omega)]
  simp only [zlt_e]
  generalize e1 : zwA h (a0 + 1) (va_cpy (zI h (a1 + 1)) (zI h (a0 + 1)) 0 0 12) = h1
  have f1 : zfr (fun b _ => b = a0 + 1) h h1 := by rw [← e1]; exact (zfr.rf _ h).cpy _ _ _ _ _ (fun _ _ _ => rfl)
  generalize e2 : zwA h1 (a0 + 2) (va_cpy (zI h1 (a1 + 2)) (zI h1 (a0 + 2)) 0 0 2) = h2
  have f2 : zfr (fun b _ => b = a0 + 2) h1 h2 := by rw [← e2]; exact (zfr.rf _ h1).cpy _ _ _ _ _ (fun _ _ _ => rfl)
  generalize e3 : zwA h2 (a0 + 3) (va_cpy (zI h2 (a1 + 3)) (zI h2 (a0 + 3)) 0 0 2) = h3
  have f3 : zfr (fun b _ => b = a0 + 3) h2 h3 := by rw [← e3]; exact (zfr.rf _ h2).cpy _ _ _ _ _ (fun _ _ _ => rfl)
  generalize e4 : zwA h3 (a0 + 4) (va_cpy (zI h3 (a1 + 4)) (zI h3 (a0 + 4)) 0 0 9) = h4
  have f4 : zfr (fun b _ => b = a0 + 4) h3 h4 := by rw [← e4]; exact (zfr.rf _ h3).cpy _ _ _ _ _ (fun _ _ _ => rfl)
  generalize e5 : zwA h4 (a0 + 5) (va_cpy (zI h4 (a1 + 5)) (zI h4 (a0 + 5)) 0 0 9) = h5
  have f5 : zfr (fun b _ => b = a0 + 5) h4 h5 := by rw [← e5]; exact (zfr.rf _ h4).cpy _ _ _ _ _ (fun _ _ _ => rfl)
  generalize e6 : zwI h5 a0 5 (zI h5 a1 5) = h6
  have f6 : zfr (fun b k => b = a0 ∧ k = 5) h5 h6 := by rw [← e6]; exact zfr.wI _ _ _ ⟨rfl, rfl⟩
  generalize e7 : zwI h6 a0 6 (zI h6 a1 6) = h7
  have f7 : zfr (fun b k => b = a0 ∧ k = 6) h6 h7 := by rw [← e7]; exact zfr.wI _ _ _ ⟨rfl, rfl⟩
  generalize e8 : zwI h7 a0 7 (zI h7 a1 7) = h8
  have f8 : zfr (fun b k => b = a0 ∧ k = 7) h7 h8 := by rw [← e8]; exact zfr.wI _ _ _ ⟨rfl, rfl⟩
  generalize e9 : zwI h8 a0 8 (zI h8 a1 8) = h9
  have f9 : zfr (fun b k => b = a0 ∧ k = 8) h8 h9 := by rw [← e9]; exact zfr.wI _ _ _ ⟨rfl, rfl⟩
  have g : ∀ b k, (b < a0 ∨ a0 + 5 < b) → zI h9 b k = zI h b k := fun b k q => by
    rw [f9.i (by omega), f8.i (by omega), f7.i (by omega), f6.i (by omega), f5.i (by omega), f4.i (by omega), f3.i (by omega), f2.i (by omega), f1.i (by omega)]
  refine ⟨h9, rfl, ⟨fun r hr => ?_, ?_, ?_, ?_, ?_, ?_, ?_, ?_, ?_, fun i hi => ⟨?_, ?_⟩⟩, ?_⟩
  · rw [f9.i (by omega), f8.i (by omega), f7.i (by omega), f6.i (by omega), f5.i (by omega), f4.i (by omega), f3.i (by omega), f2.i (by omega), ← e1, zI_cpy, if_pos (by omega), show 0 + (r - 0) = r by omega]
    exact s0 r hr
  · rw [f9.i (by omega), f8.i (by omega), f7.i (by omega), f6.i (by omega), f5.i (by omega), f4.i (by omega), f3.i (by omega), ← e2, zI_cpy, if_pos (by omega), f1.i (by omega)]
    exact s1
  · rw [f9.i (by omega), f8.i (by omega), f7.i (by omega), f6.i (by omega), f5.i (by omega), f4.i (by omega), f3.i (by omega), ← e2, zI_cpy, if_pos (by omega), f1.i (by omega)]
    exact s2
  · rw [f9.i (by omega), f8.i (by omega), f7.i (by omega), f6.i (by omega), f5.i (by omega), f4.i (by omega), ← e3, zI_cpy, if_pos (by omega), f2.i (by omega), f1.i (by omega)]
    exact s3
  · rw [f9.i (by omega), f8.i (by omega), f7.i (by omega), f6.i (by omega), f5.i (by omega), f4.i (by omega), ← e3, zI_cpy, if_pos (by omega), f2.i (by omega), f1.i (by omega)]
    exact s4
  · rw [f9.i (by omega), f8.i (by omega), f7.i (by omega), ← e6, zI_wI, if_pos rfl, if_pos rfl, f5.i (by omega), f4.i (by omega), f3.i (by omega), f2.i (by omega), f1.i (by omega)]
    exact s5
  · rw [f9.i (by omega), f8.i (by omega), ← e7, zI_wI, if_pos rfl, if_pos rfl, f6.i (by omega), f5.i (by omega), f4.i (by omega), f3.i (by omega), f2.i (by omega), f1.i (by omega)]
    exact s6
  · rw [f9.i (by omega), ← e8, zI_wI, if_pos rfl, if_pos rfl, f7.i (by omega), f6.i (by omega), f5.i (by omega), f4.i (by omega), f3.i (by omega), f2.i (by omega), f1.i (by omega)]
    exact s7
  · rw [← e9, zI_wI, if_pos rfl, if_pos rfl, f8.i (by omega), f7.i (by omega), f6.i (by omega), f5.i (by omega), f4.i (by omega), f3.i (by omega), f2.i (by omega), f1.i (by omega)]
    exact s8
  · rw [f9.i (by omega), f8.i (by omega), f7.i (by omega), f6.i (by omega), f5.i (by omega), ← e4, zI_cpy, if_pos (by omega), f3.i (by omega), f2.i (by omega), f1.i (by omega), show 0 + (i - 0) = i by omega]
    exact (s9 i hi).1
  · rw [f9.i (by omega), f8.i (by omega), f7.i (by omega), f6.i (by omega), ← e5, zI_cpy, if_pos (by omega), f4.i (by omega), f3.i (by omega), f2.i (by omega), f1.i (by omega), show 0 + (i - 0) = i by omega]
    exact (s9 i hi).2
  · exact ((((((((f1.mo (fun b k e => by omega)).tr (f2.mo (fun b k e => by omega))).tr (f3.mo (fun b k e => by omega))).tr (f4.mo (fun b k e => by omega))).tr (f5.mo (fun b k e => by omega))).tr (f6.mo (fun b k e => by omega))).tr (f7.mo (fun b k e => by omega))).tr (f8.mo (fun b k e => by omega))).tr (f9.mo (fun b k e => by omega))
theorem k_pack {b n o : Nat} (hd : b < a0 ∨ a0 + 5 < b) (hR : R ≤ 12) (hk : S 37 ≤ 9) (hn : o + 38 ≤ n) (hn2 : n < 30000) (s : zSC h a0 R S) : ∃ h', s_X8_pack a0 b n (nI o) h = some h' ∧ zAC h' b o R S ∧ zfr (fun c j => c = b ∧ o ≤ j ∧ j < o + 38) h h' := by
  obtain ⟨s0, s1, s2, s3, s4, s5, s6, s7, s8, s9⟩ := s
  rw [s_X8_pack]
  simp only [zq_0, zq_2, zq_4, zq_5, zq_6, zq_7, zq_9, zq_12, zq_18, nI_add]
  rw [zcq_e (by omega) (by omega) (by omega) (by omega), zcq_e (by omega) (by omega) (by omega) (by omega), zcq_e (by omega) (by omega) (by omega) (by omega), zcq_e (by omega) (by omega) (by omega) (by omega), zcq_e (by omega) (by omega) (by omega) (by omega)]
  simp (disch := omega) only [zlt_e, zq_ix]
  generalize e1 : zwA h b (va_cpy (zI h (a0 + 1)) (zI h b) 0 o 12) = h1
  have f1 : zfr (fun c j => c = b ∧ o ≤ j ∧ j < o + 12) h h1 := by rw [← e1]; exact (zfr.rf _ h).cpy _ _ _ _ _ (fun _ _ _ => ⟨rfl, by omega, by omega⟩)
  generalize e2 : zwA h1 b (va_cpy (zI h1 (a0 + 4)) (zI h1 b) 0 (o + 12) 9) = h2
  have f2 : zfr (fun c j => c = b ∧ o + 12 ≤ j ∧ j < o + 21) h1 h2 := by rw [← e2]; exact (zfr.rf _ h1).cpy _ _ _ _ _ (fun _ _ _ => ⟨rfl, by omega, by omega⟩)
  generalize e3 : zwA h2 b (va_cpy (zI h2 (a0 + 5)) (zI h2 b) 0 (o + 12 + 9) 9) = h3
  have f3 : zfr (fun c j => c = b ∧ o + 21 ≤ j ∧ j < o + 30) h2 h3 := by rw [← e3]; exact (zfr.rf _ h2).cpy _ _ _ _ _ (fun _ _ _ => ⟨rfl, by omega, by omega⟩)
  generalize e4 : zwA h3 b (va_cpy (zI h3 (a0 + 2)) (zI h3 b) 0 (o + 12 + 18) 2) = h4
  have f4 : zfr (fun c j => c = b ∧ o + 30 ≤ j ∧ j < o + 32) h3 h4 := by rw [← e4]; exact (zfr.rf _ h3).cpy _ _ _ _ _ (fun _ _ _ => ⟨rfl, by omega, by omega⟩)
  generalize e5 : zwA h4 b (va_cpy (zI h4 (a0 + 3)) (zI h4 b) 0 (o + 12 + 18 + 2) 2) = h5
  have f5 : zfr (fun c j => c = b ∧ o + 32 ≤ j ∧ j < o + 34) h4 h5 := by rw [← e5]; exact (zfr.rf _ h4).cpy _ _ _ _ _ (fun _ _ _ => ⟨rfl, by omega, by omega⟩)
  generalize e6 : zwI h5 b (o + 12 + 18 + 4) (zI h5 a0 5) = h6
  have f6 : zfr (fun c j => c = b ∧ j = o + 34) h5 h6 := by rw [← e6]; exact zfr.wI _ _ _ ⟨rfl, by omega⟩
  generalize e7 : zwI h6 b (o + 12 + 18 + 5) (zI h6 a0 6) = h7
  have f7 : zfr (fun c j => c = b ∧ j = o + 35) h6 h7 := by rw [← e7]; exact zfr.wI _ _ _ ⟨rfl, by omega⟩
  generalize e8 : zwI h7 b (o + 12 + 18 + 6) (zI h7 a0 7) = h8
  have f8 : zfr (fun c j => c = b ∧ j = o + 36) h7 h8 := by rw [← e8]; exact zfr.wI _ _ _ ⟨rfl, by omega⟩
  generalize e9 : zwI h8 b (o + 12 + 18 + 7) (zI h8 a0 8) = h9
  have f9 : zfr (fun c j => c = b ∧ j = o + 37) h8 h9 := by rw [← e9]; exact zfr.wI _ _ _ ⟨rfl, by omega⟩
  refine ⟨h9, rfl, ⟨fun r hr => ?_, fun j j1 j2 => ?_, fun i hi => ⟨?_, ?_⟩⟩, ?_⟩
  · rw [f9.i (by omega), f8.i (by omega), f7.i (by omega), f6.i (by omega), f5.i (by omega), f4.i (by omega), f3.i (by omega), f2.i (by omega), ← e1, zI_cpy, if_pos (by omega), show 0 + (o + r - o) = r by omega]
    exact s0 r hr
  · have e : j = 30 ∨ j = 31 ∨ j = 32 ∨ j = 33 ∨ j = 34 ∨ j = 35 ∨ j = 36 ∨ j = 37 := by omega
    rcases e with e | e | e | e | e | e | e | e <;> subst e
    · rw [f9.i (by omega), f8.i (by omega), f7.i (by omega), f6.i (by omega), f5.i (by omega), ← e4, zI_cpy, if_pos (by omega), show 0 + (o + 30 - (o + 12 + 18)) = 0 by omega, f3.i (by omega), f2.i (by omega), f1.i (by omega)]
      exact s1
    · rw [f9.i (by omega), f8.i (by omega), f7.i (by omega), f6.i (by omega), f5.i (by omega), ← e4, zI_cpy, if_pos (by omega), show 0 + (o + 31 - (o + 12 + 18)) = 1 by omega, f3.i (by omega), f2.i (by omega), f1.i (by omega)]
      exact s2
    · rw [f9.i (by omega), f8.i (by omega), f7.i (by omega), f6.i (by omega), ← e5, zI_cpy, if_pos (by omega), show 0 + (o + 32 - (o + 12 + 18 + 2)) = 0 by omega, f4.i (by omega), f3.i (by omega), f2.i (by omega), f1.i (by omega)]
      exact s3
    · rw [f9.i (by omega), f8.i (by omega), f7.i (by omega), f6.i (by omega), ← e5, zI_cpy, if_pos (by omega), show 0 + (o + 33 - (o + 12 + 18 + 2)) = 1 by omega, f4.i (by omega), f3.i (by omega), f2.i (by omega), f1.i (by omega)]
      exact s4
    · rw [f9.i (by omega), f8.i (by omega), f7.i (by omega), ← e6, zI_wI, if_pos rfl, if_pos (by omega), f5.i (by omega), f4.i (by omega), f3.i (by omega), f2.i (by omega), f1.i (by omega)]
      exact s5
    · rw [f9.i (by omega), f8.i (by omega), ← e7, zI_wI, if_pos rfl, if_pos (by omega), f6.i (by omega), f5.i (by omega), f4.i (by omega), f3.i (by omega), f2.i (by omega), f1.i (by omega)]
      exact s6
    · rw [f9.i (by omega), ← e8, zI_wI, if_pos rfl, if_pos (by omega), f7.i (by omega), f6.i (by omega), f5.i (by omega), f4.i (by omega), f3.i (by omega), f2.i (by omega), f1.i (by omega)]
      exact s7
    · rw [← e9, zI_wI, if_pos rfl, if_pos (by omega), f8.i (by omega), f7.i (by omega), f6.i (by omega), f5.i (by omega), f4.i (by omega), f3.i (by omega), f2.i (by omega), f1.i (by omega)]
      exact s8
  · rw [f9.i (by omega), f8.i (by omega), f7.i (by omega), f6.i (by omega), f5.i (by omega), f4.i (by omega), f3.i (by omega), ← e2, zI_cpy, if_pos (by omega), show 0 + (o + (12 + i) - (o + 12)) = i by omega, f1.i (by omega)]
    exact (s9 i hi).1
  · rw [f9.i (by omega), f8.i (by omega), f7.i (by omega), f6.i (by omega), f5.i (by omega), f4.i (by omega), ← e3, zI_cpy, if_pos (by omega), show 0 + (o + (21 + i) - (o + 12 + 9)) = i by omega, f2.i (by omega), f1.i (by omega)]
    exact (s9 i hi).2
  · exact ((((((((f1.mo (fun b k e => by omega)).tr (f2.mo (fun b k e => by omega))).tr (f3.mo (fun b k e => by omega))).tr (f4.mo (fun b k e => by omega))).tr (f5.mo (fun b k e => by omega))).tr (f6.mo (fun b k e => by omega))).tr (f7.mo (fun b k e => by omega))).tr (f8.mo (fun b k e => by omega))).tr (f9.mo (fun b k e => by omega))
theorem k_unpack {b n o : Nat} (hd : b < a0 ∨ a0 + 5 < b) (hR : R ≤ 12) (hk : S 37 ≤ 9) (hn : o + 38 ≤ n) (hn2 : n < 30000) (s : zAC h b o R S) : ∃ h', s_X8_unpack a0 b n (nI o) h = some h' ∧ zSC h' a0 R S ∧ zfr (fun c _ => a0 ≤ c ∧ c ≤ a0 + 5) h h' := by
  obtain ⟨s0, s1, s9⟩ := s
  rw [s_X8_unpack]
  simp only [zq_0, zq_2, zq_4, zq_5, zq_6, zq_7, zq_9, zq_12, zq_18, nI_add]
  rw [zcq_e (by omega) (by omega) (by omega) (by omega), zcq_e (by omega) (by omega) (by omega) (by omega), zcq_e (by omega) (by omega) (by omega) (by omega), zcq_e (by omega) (by omega) (by omega) (by omega), zcq_e (by omega) (by omega) (by omega) (by omega)]
  simp (disch := omega) only [zlt_e, zq_ix]
  generalize e1 : zwA h (a0 + 1) (va_cpy (zI h b) (zI h (a0 + 1)) o 0 12) = h1
  have f1 : zfr (fun c _ => c = a0 + 1) h h1 := by rw [← e1]; exact (zfr.rf _ h).cpy _ _ _ _ _ (fun _ _ _ => rfl)
  generalize e2 : zwA h1 (a0 + 4) (va_cpy (zI h1 b) (zI h1 (a0 + 4)) (o + 12) 0 9) = h2
  have f2 : zfr (fun c _ => c = a0 + 4) h1 h2 := by rw [← e2]; exact (zfr.rf _ h1).cpy _ _ _ _ _ (fun _ _ _ => rfl)
  generalize e3 : zwA h2 (a0 + 5) (va_cpy (zI h2 b) (zI h2 (a0 + 5)) (o + 12 + 9) 0 9) = h3
  have f3 : zfr (fun c _ => c = a0 + 5) h2 h3 := by rw [← e3]; exact (zfr.rf _ h2).cpy _ _ _ _ _ (fun _ _ _ => rfl)
  generalize e4 : zwA h3 (a0 + 2) (va_cpy (zI h3 b) (zI h3 (a0 + 2)) (o + 12 + 18) 0 2) = h4
  have f4 : zfr (fun c _ => c = a0 + 2) h3 h4 := by rw [← e4]; exact (zfr.rf _ h3).cpy _ _ _ _ _ (fun _ _ _ => rfl)
  generalize e5 : zwA h4 (a0 + 3) (va_cpy (zI h4 b) (zI h4 (a0 + 3)) (o + 12 + 18 + 2) 0 2) = h5
  have f5 : zfr (fun c _ => c = a0 + 3) h4 h5 := by rw [← e5]; exact (zfr.rf _ h4).cpy _ _ _ _ _ (fun _ _ _ => rfl)
  generalize e6 : zwI h5 a0 5 (zI h5 b (o + 12 + 18 + 4)) = h6
  have f6 : zfr (fun c j => c = a0 ∧ j = 5) h5 h6 := by rw [← e6]; exact zfr.wI _ _ _ ⟨rfl, rfl⟩
  generalize e7 : zwI h6 a0 6 (zI h6 b (o + 12 + 18 + 5)) = h7
  have f7 : zfr (fun c j => c = a0 ∧ j = 6) h6 h7 := by rw [← e7]; exact zfr.wI _ _ _ ⟨rfl, rfl⟩
  generalize e8 : zwI h7 a0 7 (zI h7 b (o + 12 + 18 + 6)) = h8
  have f8 : zfr (fun c j => c = a0 ∧ j = 7) h7 h8 := by rw [← e8]; exact zfr.wI _ _ _ ⟨rfl, rfl⟩
  generalize e9 : zwI h8 a0 8 (zI h8 b (o + 12 + 18 + 7)) = h9
  have f9 : zfr (fun c j => c = a0 ∧ j = 8) h8 h9 := by rw [← e9]; exact zfr.wI _ _ _ ⟨rfl, rfl⟩
  refine ⟨h9, rfl, ⟨fun r hr => ?_, ?_, ?_, ?_, ?_, ?_, ?_, ?_, ?_, fun i hi => ⟨?_, ?_⟩⟩, ?_⟩
  · rw [f9.i (by omega), f8.i (by omega), f7.i (by omega), f6.i (by omega), f5.i (by omega), f4.i (by omega), f3.i (by omega), f2.i (by omega), ← e1, zI_cpy, if_pos (by omega), show o + (r - 0) = o + r by omega]
    exact s0 r hr
  · rw [f9.i (by omega), f8.i (by omega), f7.i (by omega), f6.i (by omega), f5.i (by omega), ← e4, zI_cpy, if_pos (by omega), show o + 12 + 18 + (0 - 0) = o + 30 by omega, f3.i (by omega), f2.i (by omega), f1.i (by omega)]
    exact s1 30 (by omega) (by omega)
  · rw [f9.i (by omega), f8.i (by omega), f7.i (by omega), f6.i (by omega), f5.i (by omega), ← e4, zI_cpy, if_pos (by omega), show o + 12 + 18 + (1 - 0) = o + 31 by omega, f3.i (by omega), f2.i (by omega), f1.i (by omega)]
    exact s1 31 (by omega) (by omega)
  · rw [f9.i (by omega), f8.i (by omega), f7.i (by omega), f6.i (by omega), ← e5, zI_cpy, if_pos (by omega), show o + 12 + 18 + 2 + (0 - 0) = o + 32 by omega, f4.i (by omega), f3.i (by omega), f2.i (by omega), f1.i (by omega)]
    exact s1 32 (by omega) (by omega)
  · rw [f9.i (by omega), f8.i (by omega), f7.i (by omega), f6.i (by omega), ← e5, zI_cpy, if_pos (by omega), show o + 12 + 18 + 2 + (1 - 0) = o + 33 by omega, f4.i (by omega), f3.i (by omega), f2.i (by omega), f1.i (by omega)]
    exact s1 33 (by omega) (by omega)
  · rw [f9.i (by omega), f8.i (by omega), f7.i (by omega), ← e6, zI_wI, if_pos rfl, if_pos rfl, show o + 12 + 18 + 4 = o + 34 by omega, f5.i (by omega), f4.i (by omega), f3.i (by omega), f2.i (by omega), f1.i (by omega)]
    exact s1 34 (by omega) (by omega)
  · rw [f9.i (by omega), f8.i (by omega), ← e7, zI_wI, if_pos rfl, if_pos rfl, show o + 12 + 18 + 5 = o + 35 by omega, f6.i (by omega), f5.i (by omega), f4.i (by omega), f3.i (by omega), f2.i (by omega), f1.i (by omega)]
    exact s1 35 (by omega) (by omega)
  · rw [f9.i (by omega), ← e8, zI_wI, if_pos rfl, if_pos rfl, show o + 12 + 18 + 6 = o + 36 by omega, f7.i (by omega), f6.i (by omega), f5.i (by omega), f4.i (by omega), f3.i (by omega), f2.i (by omega), f1.i (by omega)]
    exact s1 36 (by omega) (by omega)
  · rw [← e9, zI_wI, if_pos rfl, if_pos rfl, show o + 12 + 18 + 7 = o + 37 by omega, f8.i (by omega), f7.i (by omega), f6.i (by omega), f5.i (by omega), f4.i (by omega), f3.i (by omega), f2.i (by omega), f1.i (by omega)]
    exact s1 37 (by omega) (by omega)
  · rw [f9.i (by omega), f8.i (by omega), f7.i (by omega), f6.i (by omega), f5.i (by omega), f4.i (by omega), f3.i (by omega), ← e2, zI_cpy, if_pos (by omega), show o + 12 + (i - 0) = o + (12 + i) by omega, f1.i (by omega)]
    exact (s9 i hi).1
  · rw [f9.i (by omega), f8.i (by omega), f7.i (by omega), f6.i (by omega), f5.i (by omega), f4.i (by omega), ← e3, zI_cpy, if_pos (by omega), show o + 12 + 9 + (i - 0) = o + (21 + i) by omega, f2.i (by omega), f1.i (by omega)]
    exact (s9 i hi).2
  · exact ((((((((f1.mo (fun b k e => by omega)).tr (f2.mo (fun b k e => by omega))).tr (f3.mo (fun b k e => by omega))).tr (f4.mo (fun b k e => by omega))).tr (f5.mo (fun b k e => by omega))).tr (f6.mo (fun b k e => by omega))).tr (f7.mo (fun b k e => by omega))).tr (f8.mo (fun b k e => by omega))).tr (f9.mo (fun b k e => by omega))
end CP
