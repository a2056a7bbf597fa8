/-! ===== what a plan and a state are ===== -/
/-- a plan: how many ribs, verses; jaws as bits; throws; ROTS, WEAVES as code (none: empty). An entry of a code: below 10000 a number, 10000 and on a value, 20000 and on an operation -/
abbrev zPl : Type := Nat × Nat × Nat × (Nat → Nat) × List Nat × List Nat
def pR (P : zPl) : Nat := P.1
def pV (P : zPl) : Nat := P.2.1
def pJ (P : zPl) : Nat := P.2.2.1
def pT (P : zPl) : Nat → Nat := P.2.2.2.1
def pC (P : zPl) : List Nat := P.2.2.2.2.1
def pD (P : zPl) : List Nat := P.2.2.2.2.2
/-- a code that leaves one value, never too many -/
def qDp : List Nat → Nat → Bool
  | [], d => d == 1
  | c :: C, d => if c < 10000 then decide (d < 50) && qDp C (d + 1) else if c < 20000 then decide (c < 10005) && decide (d < 50) && qDp C (d + 1) else if c = 20003 then decide (1 ≤ d) && qDp C d else decide (c < 20010) && decide (20000 < c) && decide (2 ≤ d) && qDp C (d - 1)
def qOk (C : List Nat) : Prop := C = [] ∨ (qDp C 0 = true ∧ C.length ≤ 700)
def pOk (P : zPl) : Prop := pR P ≤ 12 ∧ pV P ≤ 8 ∧ pJ P < 4096 ∧ (∀ v, v < pV P → pT P v < 4096) ∧ qOk (pC P) ∧ qOk (pD P)
/-- an entry as the reference has it: values of ROTS, of WEAVES stand in another order there -/
def qEp (o : Nat) : Int32 := match o with
  | 1 => -27
  | 2 => -26
  | 3 => -28
  | 4 => -24
  | 5 => -25
  | 6 => -20
  | 7 => -21
  | 8 => -22
  | _ => -23
def qPr (v : Nat) : Nat := match v with
  | 0 => 0
  | 1 => 1
  | 2 => 4
  | 3 => 2
  | _ => 3
def qPw (v : Nat) : Nat := match v with
  | 0 => 1
  | 1 => 2
  | 2 => 4
  | 3 => 0
  | _ => 3
def qEn (p : Nat → Nat) (c : Nat) : Int32 := if c < 10000 then nI c else if c < 20000 then (-1 : Int32) - nI (p (c - 10000)) else qEp (c - 20000)
/-- a rule in the class: told or not; its code lies from a place on -/
def zRu (h : zH) (p r : Nat) (C : List Nat) : Prop := zI h r 0 = nI (if C = [] then 0 else 1) ∧ (C ≠ [] → ∃ f, f + C.length ≤ 700 ∧ zI h r 1 = nI f ∧ zI h r 2 = nI (f + C.length) ∧ ∀ i, i < C.length → zI h (p + 4) (f + i) = nI (C.getD i 0))
def zPC (h : zH) (p : Nat) (P : zPl) : Prop := zI h p 6 = nI (pR P) ∧ zI h p 7 = nI (pJ P) ∧ zI h p 8 = nI (pV P) ∧ (∀ v, v < pV P → zI h (p + 2) v = nI (pT P v)) ∧ zRu h p (p + 5) (pC P) ∧ zRu h p (p + 6) (pD P)
def zPM (h : zH) (P : zPl) : Prop := zI h 56 0 = nI (pR P) ∧ zI h 56 1 = nI (pV P) ∧ (∀ r, r < pR P → zI h 57 r = nI ((pJ P).testBit r).toNat) ∧ (∀ v, v < pV P → zI h 59 v = nI (pT P v)) ∧ zI h 56 4 = nI (pC P).length ∧ (∀ i, i < (pC P).length → zI h 60 i = qEn qPr ((pC P).getD i 0)) ∧ zI h 56 5 = nI (pD P).length ∧ (∀ i, i < (pD P).length → zI h 61 i = qEn qPw ((pD P).getD i 0))
/-- a state is a row of numbers: 0 to 11 STRENGTH, 12 to 20 GAPS of kept sails, 21 to 29 their DAYS, 30, 31 SKILL, 32, 33 past, 34 gaps, 35 day, 36 sails, 37 kept -/
def zSC (h : zH) (a : Nat) (R : Nat) (S : Nat → Nat) : Prop := (∀ r, r < R → zI h (a + 1) r = nI (S r)) ∧ zI h (a + 2) 0 = nI (S 30) ∧ zI h (a + 2) 1 = nI (S 31) ∧ zI h (a + 3) 0 = nI (S 32) ∧ zI h (a + 3) 1 = nI (S 33) ∧ zI h a 5 = nI (S 34) ∧ zI h a 6 = nI (S 35) ∧ zI h a 7 = nI (S 36) ∧ zI h a 8 = nI (S 37) ∧ ∀ i, i < S 37 → zI h (a + 4) i = nI (S (12 + i)) ∧ zI h (a + 5) i = nI (S (21 + i))
def zSM (h : zH) (R : Nat) (S : Nat → Nat) : Prop := (∀ r, r < R → zI h 64 r = nI (S r)) ∧ zI h 65 0 = nI (S 30) ∧ zI h 65 1 = nI (S 31) ∧ zI h 52 30 = nI (S 32) ∧ zI h 52 31 = nI (S 33) ∧ zI h 52 32 = nI (S 34) ∧ zI h 52 29 = nI (S 35) ∧ zI h 52 33 = nI (S 36) ∧ zI h 52 34 = nI (S 37) ∧ ∀ i, i < S 37 → zI h 66 i = nI (S (12 + i)) ∧ zI h 67 i = nI (S (21 + i))
def sOk (R : Nat) (S : Nat → Nat) : Prop := (∀ r, r < R → S r ≤ 99) ∧ S 30 ≤ 9 ∧ S 31 ≤ 9 ∧ S 32 + S 33 ≤ R ∧ S 34 < 2 ^ R ∧ S 37 ≤ 9
section REP
variable {A : Nat → Nat → Prop} {h h1 : zH} {p r a R : Nat} {P : zPl} {S : Nat → Nat} {C : List Nat}
theorem zRu.fr (w : zRu h p r C) (f : zfr A h h1) (q : ∀ k, ¬ A r k ∧ ¬ A (p + 4) k) : zRu h1 p r C := by
  obtain ⟨w1, w2⟩ := w
  refine ⟨by rw [f.i (q 0).1]; exact w1, fun n => ?_⟩
  obtain ⟨g, g1, g2, g3, g4⟩ := w2 n
  exact ⟨g, g1, by rw [f.i (q 1).1]; exact g2, by rw [f.i (q 2).1]; exact g3, fun i hi => by rw [f.i (q _).2]; exact g4 i hi⟩
theorem zPC.fr (w : zPC h p P) (f : zfr A h h1) (q : ∀ b k, p ≤ b → b ≤ p + 6 → ¬ A b k) : zPC h1 p P := by
  obtain ⟨w1, w2, w3, w4, w5, w6⟩ := w
  refine ⟨?_, ?_, ?_, fun v hv => ?_, w5.fr f (fun k => ⟨q _ k (by omega) (by omega), q _ k (by omega) (by omega)⟩), w6.fr f (fun k => ⟨q _ k (by omega) (by omega), q _ k (by omega) (by omega)⟩)⟩
  · rw [f.i (q _ _ (by omega) (by omega))]; exact w1
  · rw [f.i (q _ _ (by omega) (by omega))]; exact w2
  · rw [f.i (q _ _ (by omega) (by omega))]; exact w3
  · rw [f.i (q _ _ (by omega) (by omega))]; exact w4 v hv
theorem zPM.fr (w : zPM h P) (f : zfr A h h1) (q : ∀ b k, b = 56 ∨ b = 57 ∨ b = 59 ∨ b = 60 ∨ b = 61 → ¬ A b k) : zPM h1 P := by
  obtain ⟨w1, w2, w3, w4, w5, w6, w7, w8⟩ := w
  refine ⟨?_, ?_, fun r hr => ?_, fun v hv => ?_, ?_, fun i hi => ?_, ?_, fun i hi => ?_⟩
  · rw [f.i (q _ _ (by omega))]; exact w1
  · rw [f.i (q _ _ (by omega))]; exact w2
  · rw [f.i (q _ _ (by omega))]; exact w3 r hr
  · rw [f.i (q _ _ (by omega))]; exact w4 v hv
  · rw [f.i (q _ _ (by omega))]; exact w5
  · rw [f.i (q _ _ (by omega))]; exact w6 i hi
  · rw [f.i (q _ _ (by omega))]; exact w7
  · rw [f.i (q _ _ (by omega))]; exact w8 i hi
theorem zSC.fr (w : zSC h a R S) (f : zfr A h h1) (q : ∀ b k, a ≤ b → b ≤ a + 5 → ¬ A b k) : zSC h1 a R S := by
  obtain ⟨w0, w1, w2, w3, w4, w5, w6, w7, w8, w9⟩ := w
  refine ⟨fun r hr => ?_, ?_, ?_, ?_, ?_, ?_, ?_, ?_, ?_, fun i hi => ⟨?_, ?_⟩⟩
  · rw [f.i (q _ _ (by omega) (by omega))]; exact w0 r hr
  · rw [f.i (q _ _ (by omega) (by omega))]; exact w1
  · rw [f.i (q _ _ (by omega) (by omega))]; exact w2
  · rw [f.i (q _ _ (by omega) (by omega))]; exact w3
  · rw [f.i (q _ _ (by omega) (by omega))]; exact w4
  · rw [f.i (q _ _ (by omega) (by omega))]; exact w5
  · rw [f.i (q _ _ (by omega) (by omega))]; exact w6
  · rw [f.i (q _ _ (by omega) (by omega))]; exact w7
  · rw [f.i (q _ _ (by omega) (by omega))]; exact w8
  · rw [f.i (q _ _ (by omega) (by omega))]; exact (w9 i hi).1
  · rw [f.i (q _ _ (by omega) (by omega))]; exact (w9 i hi).2
theorem zSM.fr (w : zSM h R S) (f : zfr A h h1) (q : ∀ b k, b = 64 ∨ b = 65 ∨ b = 66 ∨ b = 67 ∨ (b = 52 ∧ 29 ≤ k ∧ k ≤ 34) → ¬ A b k) : zSM h1 R S := by
  obtain ⟨w0, w1, w2, w3, w4, w5, w6, w7, w8, w9⟩ := w
  refine ⟨fun r hr => ?_, ?_, ?_, ?_, ?_, ?_, ?_, ?_, ?_, fun i hi => ⟨?_, ?_⟩⟩
  · rw [f.i (q _ _ (by omega))]; exact w0 r hr
  · rw [f.i (q _ _ (by omega))]; exact w1
  · rw [f.i (q _ _ (by omega))]; exact w2
  · rw [f.i (q _ _ (by omega))]; exact w3
  · rw [f.i (q _ _ (by omega))]; exact w4
  · rw [f.i (q _ _ (by omega))]; exact w5
  · rw [f.i (q _ _ (by omega))]; exact w6
  · rw [f.i (q _ _ (by omega))]; exact w7
  · rw [f.i (q _ _ (by omega))]; exact w8
  · rw [f.i (q _ _ (by omega))]; exact (w9 i hi).1
  · rw [f.i (q _ _ (by omega))]; exact (w9 i hi).2
end REP
