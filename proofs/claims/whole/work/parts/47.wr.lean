/-! ===== a state behind one write ===== -/
theorem zSC_str {h : zH} {a R : Nat} {S : Nat → Nat} (hR : R ≤ 12) (hk : S 37 ≤ 9) (w : zSC h a R S) {r : Nat} (hr : r < 12) (v : Nat) : zSC (zwI h (a + 1) r (nI v)) a R (zu S r v) := by
  obtain ⟨w0, w1, w2, w3, w4, w5, w6, w7, w8, w9⟩ := w
  refine ⟨fun q hq => ?_, ?_, ?_, ?_, ?_, ?_, ?_, ?_, ?_, fun i hi => ⟨?_, ?_⟩⟩
  · by_cases e : q = r
    · subst e; rw [zI_wI, if_pos rfl, if_pos rfl, zu_eq]
    · rw [zI_wI, if_pos rfl, if_neg e, zu_ne _ _ e]; exact w0 q hq
  · rw [zI_wI, if_neg (by omega), zu_ne _ _ (by omega)]; exact w1
  · rw [zI_wI, if_neg (by omega), zu_ne _ _ (by omega)]; exact w2
  · rw [zI_wI, if_neg (by omega), zu_ne _ _ (by omega)]; exact w3
  · rw [zI_wI, if_neg (by omega), zu_ne _ _ (by omega)]; exact w4
  · rw [zI_wI, if_neg (by omega), zu_ne _ _ (by omega)]; exact w5
  · rw [zI_wI, if_neg (by omega), zu_ne _ _ (by omega)]; exact w6
  · rw [zI_wI, if_neg (by omega), zu_ne _ _ (by omega)]; exact w7
  · rw [zI_wI, if_neg (by omega), zu_ne _ _ (by omega)]; exact w8
  · rw [zu_ne _ _ (show 37 ≠ r by omega)] at hi; rw [zI_wI, if_neg (by omega), zu_ne _ _ (by omega)]; exact (w9 i hi).1
  · rw [zu_ne _ _ (show 37 ≠ r by omega)] at hi; rw [zI_wI, if_neg (by omega), zu_ne _ _ (by omega)]; exact (w9 i hi).2
theorem zSC_sk0 {h : zH} {a R : Nat} {S : Nat → Nat} (hR : R ≤ 12) (hk : S 37 ≤ 9) (w : zSC h a R S) (v : Nat) : zSC (zwI h (a + 2) 0 (nI v)) a R (zu S 30 v) := by
  obtain ⟨w0, w1, w2, w3, w4, w5, w6, w7, w8, w9⟩ := w
  refine ⟨fun q hq => ?_, ?_, ?_, ?_, ?_, ?_, ?_, ?_, ?_, fun i hi => ⟨?_, ?_⟩⟩
  · rw [zI_wI, if_neg (by omega), zu_ne _ _ (by omega)]; exact w0 q hq
  · rw [zI_wI, if_pos rfl, if_pos rfl, zu_eq]
  · rw [zI_wI, if_pos rfl, if_neg (by omega), zu_ne _ _ (by omega)]; exact w2
  · rw [zI_wI, if_neg (by omega), zu_ne _ _ (by omega)]; exact w3
  · rw [zI_wI, if_neg (by omega), zu_ne _ _ (by omega)]; exact w4
  · rw [zI_wI, if_neg (by omega), zu_ne _ _ (by omega)]; exact w5
  · rw [zI_wI, if_neg (by omega), zu_ne _ _ (by omega)]; exact w6
  · rw [zI_wI, if_neg (by omega), zu_ne _ _ (by omega)]; exact w7
  · rw [zI_wI, if_neg (by omega), zu_ne _ _ (by omega)]; exact w8
  · rw [zu_ne _ _ (show 37 ≠ 30 by omega)] at hi; rw [zI_wI, if_neg (by omega), zu_ne _ _ (by omega)]; exact (w9 i hi).1
  · rw [zu_ne _ _ (show 37 ≠ 30 by omega)] at hi; rw [zI_wI, if_neg (by omega), zu_ne _ _ (by omega)]; exact (w9 i hi).2
theorem zSC_sk1 {h : zH} {a R : Nat} {S : Nat → Nat} (hR : R ≤ 12) (hk : S 37 ≤ 9) (w : zSC h a R S) (v : Nat) : zSC (zwI h (a + 2) 1 (nI v)) a R (zu S 31 v) := by
  obtain ⟨w0, w1, w2, w3, w4, w5, w6, w7, w8, w9⟩ := w
  refine ⟨fun q hq => ?_, ?_, ?_, ?_, ?_, ?_, ?_, ?_, ?_, fun i hi => ⟨?_, ?_⟩⟩
  · rw [zI_wI, if_neg (by omega), zu_ne _ _ (by omega)]; exact w0 q hq
  · rw [zI_wI, if_pos rfl, if_neg (by omega), zu_ne _ _ (by omega)]; exact w1
  · rw [zI_wI, if_pos rfl, if_pos rfl, zu_eq]
  · rw [zI_wI, if_neg (by omega), zu_ne _ _ (by omega)]; exact w3
  · rw [zI_wI, if_neg (by omega), zu_ne _ _ (by omega)]; exact w4
  · rw [zI_wI, if_neg (by omega), zu_ne _ _ (by omega)]; exact w5
  · rw [zI_wI, if_neg (by omega), zu_ne _ _ (by omega)]; exact w6
  · rw [zI_wI, if_neg (by omega), zu_ne _ _ (by omega)]; exact w7
  · rw [zI_wI, if_neg (by omega), zu_ne _ _ (by omega)]; exact w8
  · rw [zu_ne _ _ (show 37 ≠ 31 by omega)] at hi; rw [zI_wI, if_neg (by omega), zu_ne _ _ (by omega)]; exact (w9 i hi).1
  · rw [zu_ne _ _ (show 37 ≠ 31 by omega)] at hi; rw [zI_wI, if_neg (by omega), zu_ne _ _ (by omega)]; exact (w9 i hi).2
theorem zSC_pa0 {h : zH} {a R : Nat} {S : Nat → Nat} (hR : R ≤ 12) (hk : S 37 ≤ 9) (w : zSC h a R S) (v : Nat) : zSC (zwI h (a + 3) 0 (nI v)) a R (zu S 32 v) := by
  obtain ⟨w0, w1, w2, w3, w4, w5, w6, w7, w8, w9⟩ := w
  refine ⟨fun q hq => ?_, ?_, ?_, ?_, ?_, ?_, ?_, ?_, ?_, fun i hi => ⟨?_, ?_⟩⟩
  · rw [zI_wI, if_neg (by omega), zu_ne _ _ (by omega)]; exact w0 q hq
  · rw [zI_wI, if_neg (by omega), zu_ne _ _ (by omega)]; exact w1
  · rw [zI_wI, if_neg (by omega), zu_ne _ _ (by omega)]; exact w2
  · rw [zI_wI, if_pos rfl, if_pos rfl, zu_eq]
  · rw [zI_wI, if_pos rfl, if_neg (by omega), zu_ne _ _ (by omega)]; exact w4
  · rw [zI_wI, if_neg (by omega), zu_ne _ _ (by omega)]; exact w5
  · rw [zI_wI, if_neg (by omega), zu_ne _ _ (by omega)]; exact w6
  · rw [zI_wI, if_neg (by omega), zu_ne _ _ (by omega)]; exact w7
  · rw [zI_wI, if_neg (by omega), zu_ne _ _ (by omega)]; exact w8
  · rw [zu_ne _ _ (show 37 ≠ 32 by omega)] at hi; rw [zI_wI, if_neg (by omega), zu_ne _ _ (by omega)]; exact (w9 i hi).1
  · rw [zu_ne _ _ (show 37 ≠ 32 by omega)] at hi; rw [zI_wI, if_neg (by omega), zu_ne _ _ (by omega)]; exact (w9 i hi).2
theorem zSC_pa1 {h : zH} {a R : Nat} {S : Nat → Nat} (hR : R ≤ 12) (hk : S 37 ≤ 9) (w : zSC h a R S) (v : Nat) : zSC (zwI h (a + 3) 1 (nI v)) a R (zu S 33 v) := by
  obtain ⟨w0, w1, w2, w3, w4, w5, w6, w7, w8, w9⟩ := w
  refine ⟨fun q hq => ?_, ?_, ?_, ?_, ?_, ?_, ?_, ?_, ?_, fun i hi => ⟨?_, ?_⟩⟩
  · rw [zI_wI, if_neg (by omega), zu_ne _ _ (by omega)]; exact w0 q hq
  · rw [zI_wI, if_neg (by omega), zu_ne _ _ (by omega)]; exact w1
  · rw [zI_wI, if_neg (by omega), zu_ne _ _ (by omega)]; exact w2
  · rw [zI_wI, if_pos rfl, if_neg (by omega), zu_ne _ _ (by omega)]; exact w3
  · rw [zI_wI, if_pos rfl, if_pos rfl, zu_eq]
  · rw [zI_wI, if_neg (by omega), zu_ne _ _ (by omega)]; exact w5
  · rw [zI_wI, if_neg (by omega), zu_ne _ _ (by omega)]; exact w6
  · rw [zI_wI, if_neg (by omega), zu_ne _ _ (by omega)]; exact w7
  · rw [zI_wI, if_neg (by omega), zu_ne _ _ (by omega)]; exact w8
  · rw [zu_ne _ _ (show 37 ≠ 33 by omega)] at hi; rw [zI_wI, if_neg (by omega), zu_ne _ _ (by omega)]; exact (w9 i hi).1
  · rw [zu_ne _ _ (show 37 ≠ 33 by omega)] at hi; rw [zI_wI, if_neg (by omega), zu_ne _ _ (by omega)]; exact (w9 i hi).2
theorem zSC_gap {h : zH} {a R : Nat} {S : Nat → Nat} (hR : R ≤ 12) (hk : S 37 ≤ 9) (w : zSC h a R S) (v : Nat) : zSC (zwI h a 5 (nI v)) a R (zu S 34 v) := by
  obtain ⟨w0, w1, w2, w3, w4, w5, w6, w7, w8, w9⟩ := w
  refine ⟨fun q hq => ?_, ?_, ?_, ?_, ?_, ?_, ?_, ?_, ?_, fun i hi => ⟨?_, ?_⟩⟩
  · rw [zI_wI, if_neg (by omega), zu_ne _ _ (by omega)]; exact w0 q hq
  · rw [zI_wI, if_neg (by omega), zu_ne _ _ (by omega)]; exact w1
  · rw [zI_wI, if_neg (by omega), zu_ne _ _ (by omega)]; exact w2
  · rw [zI_wI, if_neg (by omega), zu_ne _ _ (by omega)]; exact w3
  · rw [zI_wI, if_neg (by omega), zu_ne _ _ (by omega)]; exact w4
  · rw [zI_wI, if_pos rfl, if_pos rfl, zu_eq]
  · rw [zI_wI, if_pos rfl, if_neg (by omega), zu_ne _ _ (by omega)]; exact w6
  · rw [zI_wI, if_pos rfl, if_neg (by omega), zu_ne _ _ (by omega)]; exact w7
  · rw [zI_wI, if_pos rfl, if_neg (by omega), zu_ne _ _ (by omega)]; exact w8
  · rw [zu_ne _ _ (show 37 ≠ 34 by omega)] at hi; rw [zI_wI, if_neg (by omega), zu_ne _ _ (by omega)]; exact (w9 i hi).1
  · rw [zu_ne _ _ (show 37 ≠ 34 by omega)] at hi; rw [zI_wI, if_neg (by omega), zu_ne _ _ (by omega)]; exact (w9 i hi).2
theorem zSC_day {h : zH} {a R : Nat} {S : Nat → Nat} (hR : R ≤ 12) (hk : S 37 ≤ 9) (w : zSC h a R S) (v : Nat) : zSC (zwI h a 6 (nI v)) a R (zu S 35 v) := by
  obtain ⟨w0, w1, w2, w3, w4, w5, w6, w7, w8, w9⟩ := w
  refine ⟨fun q hq => ?_, ?_, ?_, ?_, ?_, ?_, ?_, ?_, ?_, fun i hi => ⟨?_, ?_⟩⟩
  · rw [zI_wI, if_neg (by omega), zu_ne _ _ (by omega)]; exact w0 q hq
  · rw [zI_wI, if_neg (by omega), zu_ne _ _ (by omega)]; exact w1
  · rw [zI_wI, if_neg (by omega), zu_ne _ _ (by omega)]; exact w2
  · rw [zI_wI, if_neg (by omega), zu_ne _ _ (by omega)]; exact w3
  · rw [zI_wI, if_neg (by omega), zu_ne _ _ (by omega)]; exact w4
  · rw [zI_wI, if_pos rfl, if_neg (by omega), zu_ne _ _ (by omega)]; exact w5
  · rw [zI_wI, if_pos rfl, if_pos rfl, zu_eq]
  · rw [zI_wI, if_pos rfl, if_neg (by omega), zu_ne _ _ (by omega)]; exact w7
  · rw [zI_wI, if_pos rfl, if_neg (by omega), zu_ne _ _ (by omega)]; exact w8
  · rw [zu_ne _ _ (show 37 ≠ 35 by omega)] at hi; rw [zI_wI, if_neg (by omega), zu_ne _ _ (by omega)]; exact (w9 i hi).1
  · rw [zu_ne _ _ (show 37 ≠ 35 by omega)] at hi; rw [zI_wI, if_neg (by omega), zu_ne _ _ (by omega)]; exact (w9 i hi).2
theorem zSC_sai {h : zH} {a R : Nat} {S : Nat → Nat} (hR : R ≤ 12) (hk : S 37 ≤ 9) (w : zSC h a R S) (v : Nat) : zSC (zwI h a 7 (nI v)) a R (zu S 36 v) := by
  obtain ⟨w0, w1, w2, w3, w4, w5, w6, w7, w8, w9⟩ := w
  refine ⟨fun q hq => ?_, ?_, ?_, ?_, ?_, ?_, ?_, ?_, ?_, fun i hi => ⟨?_, ?_⟩⟩
  · rw [zI_wI, if_neg (by omega), zu_ne _ _ (by omega)]; exact w0 q hq
  · rw [zI_wI, if_neg (by omega), zu_ne _ _ (by omega)]; exact w1
  · rw [zI_wI, if_neg (by omega), zu_ne _ _ (by omega)]; exact w2
  · rw [zI_wI, if_neg (by omega), zu_ne _ _ (by omega)]; exact w3
  · rw [zI_wI, if_neg (by omega), zu_ne _ _ (by omega)]; exact w4
  · rw [zI_wI, if_pos rfl, if_neg (by omega), zu_ne _ _ (by omega)]; exact w5
  · rw [zI_wI, if_pos rfl, if_neg (by omega), zu_ne _ _ (by omega)]; exact w6
  · rw [zI_wI, if_pos rfl, if_pos rfl, zu_eq]
  · rw [zI_wI, if_pos rfl, if_neg (by omega), zu_ne _ _ (by omega)]; exact w8
  · rw [zu_ne _ _ (show 37 ≠ 36 by omega)] at hi; rw [zI_wI, if_neg (by omega), zu_ne _ _ (by omega)]; exact (w9 i hi).1
  · rw [zu_ne _ _ (show 37 ≠ 36 by omega)] at hi; rw [zI_wI, if_neg (by omega), zu_ne _ _ (by omega)]; exact (w9 i hi).2
theorem zSM_str {h : zH} {R : Nat} {S : Nat → Nat} (hR : R ≤ 12) (hk : S 37 ≤ 9) (w : zSM h R S) {r : Nat} (hr : r < 12) (v : Nat) : zSM (zwI h 64 r (nI v)) R (zu S r v) := by
  obtain ⟨w0, w1, w2, w3, w4, w5, w6, w7, w8, w9⟩ := w
  refine ⟨fun q hq => ?_, ?_, ?_, ?_, ?_, ?_, ?_, ?_, ?_, fun i hi => ⟨?_, ?_⟩⟩
  · by_cases e : q = r
    · subst e; rw [zI_wI, if_pos rfl, if_pos rfl, zu_eq]
    · rw [zI_wI, if_pos rfl, if_neg e, zu_ne _ _ e]; exact w0 q hq
  · rw [zI_wI, if_neg (by omega), zu_ne _ _ (by omega)]; exact w1
  · rw [zI_wI, if_neg (by omega), zu_ne _ _ (by omega)]; exact w2
  · rw [zI_wI, if_neg (by omega), zu_ne _ _ (by omega)]; exact w3
  · rw [zI_wI, if_neg (by omega), zu_ne _ _ (by omega)]; exact w4
  · rw [zI_wI, if_neg (by omega), zu_ne _ _ (by omega)]; exact w5
  · rw [zI_wI, if_neg (by omega), zu_ne _ _ (by omega)]; exact w6
  · rw [zI_wI, if_neg (by omega), zu_ne _ _ (by omega)]; exact w7
  · rw [zI_wI, if_neg (by omega), zu_ne _ _ (by omega)]; exact w8
  · rw [zu_ne _ _ (show 37 ≠ r by omega)] at hi; rw [zI_wI, if_neg (by omega), zu_ne _ _ (by omega)]; exact (w9 i hi).1
  · rw [zu_ne _ _ (show 37 ≠ r by omega)] at hi; rw [zI_wI, if_neg (by omega), zu_ne _ _ (by omega)]; exact (w9 i hi).2
theorem zSM_sk0 {h : zH} {R : Nat} {S : Nat → Nat} (hR : R ≤ 12) (hk : S 37 ≤ 9) (w : zSM h R S) (v : Nat) : zSM (zwI h 65 0 (nI v)) R (zu S 30 v) := by
  obtain ⟨w0, w1, w2, w3, w4, w5, w6, w7, w8, w9⟩ := w
  refine ⟨fun q hq => ?_, ?_, ?_, ?_, ?_, ?_, ?_, ?_, ?_, fun i hi => ⟨?_, ?_⟩⟩
  · rw [zI_wI, if_neg (by omega), zu_ne _ _ (by omega)]; exact w0 q hq
  · rw [zI_wI, if_pos rfl, if_pos rfl, zu_eq]
  · rw [zI_wI, if_pos rfl, if_neg (by omega), zu_ne _ _ (by omega)]; exact w2
  · rw [zI_wI, if_neg (by omega), zu_ne _ _ (by omega)]; exact w3
  · rw [zI_wI, if_neg (by omega), zu_ne _ _ (by omega)]; exact w4
  · rw [zI_wI, if_neg (by omega), zu_ne _ _ (by omega)]; exact w5
  · rw [zI_wI, if_neg (by omega), zu_ne _ _ (by omega)]; exact w6
  · rw [zI_wI, if_neg (by omega), zu_ne _ _ (by omega)]; exact w7
  · rw [zI_wI, if_neg (by omega), zu_ne _ _ (by omega)]; exact w8
  · rw [zu_ne _ _ (show 37 ≠ 30 by omega)] at hi; rw [zI_wI, if_neg (by omega), zu_ne _ _ (by omega)]; exact (w9 i hi).1
  · rw [zu_ne _ _ (show 37 ≠ 30 by omega)] at hi; rw [zI_wI, if_neg (by omega), zu_ne _ _ (by omega)]; exact (w9 i hi).2
theorem zSM_sk1 {h : zH} {R : Nat} {S : Nat → Nat} (hR : R ≤ 12) (hk : S 37 ≤ 9) (w : zSM h R S) (v : Nat) : zSM (zwI h 65 1 (nI v)) R (zu S 31 v) := by
  obtain ⟨w0, w1, w2, w3, w4, w5, w6, w7, w8, w9⟩ := w
  refine ⟨fun q hq => ?_, ?_, ?_, ?_, ?_, ?_, ?_, ?_, ?_, fun i hi => ⟨?_, ?_⟩⟩
  · rw [zI_wI, if_neg (by omega), zu_ne _ _ (by omega)]; exact w0 q hq
  · rw [zI_wI, if_pos rfl, if_neg (by omega), zu_ne _ _ (by omega)]; exact w1
  · rw [zI_wI, if_pos rfl, if_pos rfl, zu_eq]
  · rw [zI_wI, if_neg (by omega), zu_ne _ _ (by omega)]; exact w3
  · rw [zI_wI, if_neg (by omega), zu_ne _ _ (by omega)]; exact w4
  · rw [zI_wI, if_neg (by omega), zu_ne _ _ (by omega)]; exact w5
  · rw [zI_wI, if_neg (by omega), zu_ne _ _ (by omega)]; exact w6
  · rw [zI_wI, if_neg (by omega), zu_ne _ _ (by omega)]; exact w7
  · rw [zI_wI, if_neg (by omega), zu_ne _ _ (by omega)]; exact w8
  · rw [zu_ne _ _ (show 37 ≠ 31 by omega)] at hi; rw [zI_wI, if_neg (by omega), zu_ne _ _ (by omega)]; exact (w9 i hi).1
  · rw [zu_ne _ _ (show 37 ≠ 31 by omega)] at hi; rw [zI_wI, if_neg (by omega), zu_ne _ _ (by omega)]; exact (w9 i hi).2
theorem zSM_pa0 {h : zH} {R : Nat} {S : Nat → Nat} (hR : R ≤ 12) (hk : S 37 ≤ 9) (w : zSM h R S) (v : Nat) : zSM (zwI h 52 30 (nI v)) R (zu S 32 v) := by
  obtain ⟨w0, w1, w2, w3, w4, w5, w6, w7, w8, w9⟩ := w
  refine ⟨fun q hq => ?_, ?_, ?_, ?_, ?_, ?_, ?_, ?_, ?_, fun i hi => ⟨?_, ?_⟩⟩
  · rw [zI_wI, if_neg (by omega), zu_ne _ _ (by omega)]; exact w0 q hq
  · rw [zI_wI, if_neg (by omega), zu_ne _ _ (by omega)]; exact w1
  · rw [zI_wI, if_neg (by omega), zu_ne _ _ (by omega)]; exact w2
  · rw [zI_wI, if_pos rfl, if_pos rfl, zu_eq]
  · rw [zI_wI, if_pos rfl, if_neg (by omega), zu_ne _ _ (by omega)]; exact w4
  · rw [zI_wI, if_pos rfl, if_neg (by omega), zu_ne _ _ (by omega)]; exact w5
  · rw [zI_wI, if_pos rfl, if_neg (by omega), zu_ne _ _ (by omega)]; exact w6
  · rw [zI_wI, if_pos rfl, if_neg (by omega), zu_ne _ _ (by omega)]; exact w7
  · rw [zI_wI, if_pos rfl, if_neg (by omega), zu_ne _ _ (by omega)]; exact w8
  · rw [zu_ne _ _ (show 37 ≠ 32 by omega)] at hi; rw [zI_wI, if_neg (by omega), zu_ne _ _ (by omega)]; exact (w9 i hi).1
  · rw [zu_ne _ _ (show 37 ≠ 32 by omega)] at hi; rw [zI_wI, if_neg (by omega), zu_ne _ _ (by omega)]; exact (w9 i hi).2
theorem zSM_pa1 {h : zH} {R : Nat} {S : Nat → Nat} (hR : R ≤ 12) (hk : S 37 ≤ 9) (w : zSM h R S) (v : Nat) : zSM (zwI h 52 31 (nI v)) R (zu S 33 v) := by
  obtain ⟨w0, w1, w2, w3, w4, w5, w6, w7, w8, w9⟩ := w
  refine ⟨fun q hq => ?_, ?_, ?_, ?_, ?_, ?_, ?_, ?_, ?_, fun i hi => ⟨?_, ?_⟩⟩
  · rw [zI_wI, if_neg (by omega), zu_ne _ _ (by omega)]; exact w0 q hq
  · rw [zI_wI, if_neg (by omega), zu_ne _ _ (by omega)]; exact w1
  · rw [zI_wI, if_neg (by omega), zu_ne _ _ (by omega)]; exact w2
  · rw [zI_wI, if_pos rfl, if_neg (by omega), zu_ne _ _ (by omega)]; exact w3
  · rw [zI_wI, if_pos rfl, if_pos rfl, zu_eq]
  · rw [zI_wI, if_pos rfl, if_neg (by omega), zu_ne _ _ (by omega)]; exact w5
  · rw [zI_wI, if_pos rfl, if_neg (by omega), zu_ne _ _ (by omega)]; exact w6
  · rw [zI_wI, if_pos rfl, if_neg (by omega), zu_ne _ _ (by omega)]; exact w7
  · rw [zI_wI, if_pos rfl, if_neg (by omega), zu_ne _ _ (by omega)]; exact w8
  · rw [zu_ne _ _ (show 37 ≠ 33 by omega)] at hi; rw [zI_wI, if_neg (by omega), zu_ne _ _ (by omega)]; exact (w9 i hi).1
  · rw [zu_ne _ _ (show 37 ≠ 33 by omega)] at hi; rw [zI_wI, if_neg (by omega), zu_ne _ _ (by omega)]; exact (w9 i hi).2
theorem zSM_gap {h : zH} {R : Nat} {S : Nat → Nat} (hR : R ≤ 12) (hk : S 37 ≤ 9) (w : zSM h R S) (v : Nat) : zSM (zwI h 52 32 (nI v)) R (zu S 34 v) := by
  obtain ⟨w0, w1, w2, w3, w4, w5, w6, w7, w8, w9⟩ := w
  refine ⟨fun q hq => ?_, ?_, ?_, ?_, ?_, ?_, ?_, ?_, ?_, fun i hi => ⟨?_, ?_⟩⟩
  · rw [zI_wI, if_neg (by omega), zu_ne _ _ (by omega)]; exact w0 q hq
  · rw [zI_wI, if_neg (by omega), zu_ne _ _ (by omega)]; exact w1
  · rw [zI_wI, if_neg (by omega), zu_ne _ _ (by omega)]; exact w2
  · rw [zI_wI, if_pos rfl, if_neg (by omega), zu_ne _ _ (by omega)]; exact w3
  · rw [zI_wI, if_pos rfl, if_neg (by omega), zu_ne _ _ (by omega)]; exact w4
  · rw [zI_wI, if_pos rfl, if_pos rfl, zu_eq]
  · rw [zI_wI, if_pos rfl, if_neg (by omega), zu_ne _ _ (by omega)]; exact w6
  · rw [zI_wI, if_pos rfl, if_neg (by omega), zu_ne _ _ (by omega)]; exact w7
  · rw [zI_wI, if_pos rfl, if_neg (by omega), zu_ne _ _ (by omega)]; exact w8
  · rw [zu_ne _ _ (show 37 ≠ 34 by omega)] at hi; rw [zI_wI, if_neg (by omega), zu_ne _ _ (by omega)]; exact (w9 i hi).1
  · rw [zu_ne _ _ (show 37 ≠ 34 by omega)] at hi; rw [zI_wI, if_neg (by omega), zu_ne _ _ (by omega)]; exact (w9 i hi).2
theorem zSM_day {h : zH} {R : Nat} {S : Nat → Nat} (hR : R ≤ 12) (hk : S 37 ≤ 9) (w : zSM h R S) (v : Nat) : zSM (zwI h 52 29 (nI v)) R (zu S 35 v) := by
  obtain ⟨w0, w1, w2, w3, w4, w5, w6, w7, w8, w9⟩ := w
  refine ⟨fun q hq => ?_, ?_, ?_, ?_, ?_, ?_, ?_, ?_, ?_, fun i hi => ⟨?_, ?_⟩⟩
  · rw [zI_wI, if_neg (by omega), zu_ne _ _ (by omega)]; exact w0 q hq
  · rw [zI_wI, if_neg (by omega), zu_ne _ _ (by omega)]; exact w1
  · rw [zI_wI, if_neg (by omega), zu_ne _ _ (by omega)]; exact w2
  · rw [zI_wI, if_pos rfl, if_neg (by omega), zu_ne _ _ (by omega)]; exact w3
  · rw [zI_wI, if_pos rfl, if_neg (by omega), zu_ne _ _ (by omega)]; exact w4
  · rw [zI_wI, if_pos rfl, if_neg (by omega), zu_ne _ _ (by omega)]; exact w5
  · rw [zI_wI, if_pos rfl, if_pos rfl, zu_eq]
  · rw [zI_wI, if_pos rfl, if_neg (by omega), zu_ne _ _ (by omega)]; exact w7
  · rw [zI_wI, if_pos rfl, if_neg (by omega), zu_ne _ _ (by omega)]; exact w8
  · rw [zu_ne _ _ (show 37 ≠ 35 by omega)] at hi; rw [zI_wI, if_neg (by omega), zu_ne _ _ (by omega)]; exact (w9 i hi).1
  · rw [zu_ne _ _ (show 37 ≠ 35 by omega)] at hi; rw [zI_wI, if_neg (by omega), zu_ne _ _ (by omega)]; exact (w9 i hi).2
theorem zSM_sai {h : zH} {R : Nat} {S : Nat → Nat} (hR : R ≤ 12) (hk : S 37 ≤ 9) (w : zSM h R S) (v : Nat) : zSM (zwI h 52 33 (nI v)) R (zu S 36 v) := by
  obtain ⟨w0, w1, w2, w3, w4, w5, w6, w7, w8, w9⟩ := w
  refine ⟨fun q hq => ?_, ?_, ?_, ?_, ?_, ?_, ?_, ?_, ?_, fun i hi => ⟨?_, ?_⟩⟩
  · rw [zI_wI, if_neg (by omega), zu_ne _ _ (by omega)]; exact w0 q hq
  · rw [zI_wI, if_neg (by omega), zu_ne _ _ (by omega)]; exact w1
  · rw [zI_wI, if_neg (by omega), zu_ne _ _ (by omega)]; exact w2
  · rw [zI_wI, if_pos rfl, if_neg (by omega), zu_ne _ _ (by omega)]; exact w3
  · rw [zI_wI, if_pos rfl, if_neg (by omega), zu_ne _ _ (by omega)]; exact w4
  · rw [zI_wI, if_pos rfl, if_neg (by omega), zu_ne _ _ (by omega)]; exact w5
  · rw [zI_wI, if_pos rfl, if_neg (by omega), zu_ne _ _ (by omega)]; exact w6
  · rw [zI_wI, if_pos rfl, if_pos rfl, zu_eq]
  · rw [zI_wI, if_pos rfl, if_neg (by omega), zu_ne _ _ (by omega)]; exact w8
  · rw [zu_ne _ _ (show 37 ≠ 36 by omega)] at hi; rw [zI_wI, if_neg (by omega), zu_ne _ _ (by omega)]; exact (w9 i hi).1
  · rw [zu_ne _ _ (show 37 ≠ 36 by omega)] at hi; rw [zI_wI, if_neg (by omega), zu_ne _ _ (by omega)]; exact (w9 i hi).2
