/-! ===== what holds between two calls ===== -/
/-- a ledger: the state; how many acts are kept, the states ahead of them; what is seen: how many, ribs, days, gone; status -/
abbrev zLg : Type := (Nat → Nat) × Nat × (Nat → Nat → Nat) × Nat × (Nat → Nat) × (Nat → Nat) × (Nat → Nat) × (Nat → Int32)
def lS (L : zLg) : Nat → Nat := L.1
def ln (L : zLg) : Nat := L.2.1
def lA (L : zLg) : Nat → Nat → Nat := L.2.2.1
def lm (L : zLg) : Nat := L.2.2.2.1
def lr (L : zLg) : Nat → Nat := L.2.2.2.2.1
def ld (L : zLg) : Nat → Nat := L.2.2.2.2.2.1
def lg (L : zLg) : Nat → Nat := L.2.2.2.2.2.2.1
def lt (L : zLg) : Nat → Int32 := L.2.2.2.2.2.2.2
def sOk2 (R : Nat) (S : Nat → Nat) : Prop := sOk R S ∧ S 35 ≤ 999 ∧ S 36 ≤ S 35
def lOk (R : Nat) (L : zLg) : Prop := sOk2 R (lS L) ∧ ln L ≤ 40 ∧ (∀ i, i < ln L → sOk2 R (lA L i)) ∧ lm L ≤ 8 ∧ ∀ i, i < lm L → lr L i < R ∧ ld L i ≤ 20 ∧ lg L i ≤ 1
def zLC (h : zH) (a R : Nat) (L : zLg) : Prop := zSC h (a + 1) R (lS L) ∧ zI h a 6 = nI (ln L) ∧ (∀ i, i < ln L → zAC h (a + 11) (38 * i) R (lA L i)) ∧ zI h a 7 = nI (lm L) ∧ (∀ i, i < lm L → zI h (a + 7) i = nI (lr L i) ∧ zI h (a + 8) i = nI (ld L i) ∧ zI h (a + 9) i = nI (lg L i)) ∧ ∀ i, i < 3 → zI h (a + 10) i = lt L i
def zLM (h : zH) (R : Nat) (L : zLg) : Prop := zSM h R (lS L) ∧ zI h 52 35 = nI (ln L) ∧ (∀ i, i < ln L → zAM h 68 (38 * i) R (lA L i)) ∧ zI h 52 36 = nI (lm L) ∧ (∀ i, i < lm L → zI h 76 i = nI (lr L i) ∧ zI h 77 i = nI (ld L i) ∧ zI h 79 i = nI (lg L i)) ∧ ∀ i, i < 3 → zI h 62 i = lt L i
def zLI (h : zH) (R : Nat) (L : zLg) : Prop := zAM h 84 0 R (lS L) ∧ zI h 52 60 = nI (ln L) ∧ (∀ i, i < ln L → zAM h 85 (38 * i) R (lA L i)) ∧ zI h 52 61 = nI (lm L) ∧ (∀ i, i < lm L → zI h 86 i = nI (lr L i) ∧ zI h 87 i = nI (ld L i) ∧ zI h 89 i = nI (lg L i)) ∧ ∀ i, i < 3 → zI h 88 i = lt L i
/-- days from now on -/
def qIt (P : zPl) (S : Nat → Nat) : Nat → (Nat → Nat)
  | 0 => S
  | d + 1 => qDay P (qIt P S d)
/-- how many sails are done in the first d of them -/
def qNs (P : zPl) (S : Nat → Nat) (d : Nat) : Nat := fb_ct (fun t => qDone P (qIt P S t)) d
/-- behind how many days a rib is gone, of the first n -/
def qGa (P : zPl) (S : Nat → Nat) (r n : Nat) : Int32 := if fa_first (fun t => decide (qIt P S t r = 0)) n < n then nI (fa_first (fun t => decide (qIt P S t r = 0)) n) else nM
/-- sails done within d days lie in three rows -/
def qSr (h : zH) (b0 b1 b2 : Nat) (P : zPl) (S : Nat → Nat) (d : Nat) : Prop := ∀ t, t < d → qDone P (qIt P S t) = true → zI h b0 (qNs P S t) = nI (t + 1) ∧ zI h b1 (qNs P S t) = nI (qDg P (qIt P S t)) ∧ zI h b2 (qNs P S t) = nI (qDw P (qIt P S t))
/-- the forecast stands -/
def qFc (h : zH) (P : zPl) (S : Nat → Nat) : Prop := zI h 39 4 = nI (qNs P S 60) ∧ qSr h 40 41 42 P S 60 ∧ ∀ r, r < pR P → zI h 43 r = qGa P S r 61
/-- all that was seen would be so -/
def qAs (P : zPl) (L : zLg) (S : Nat → Nat) : Bool := decide (∀ i, i < lm L → (qIt P S (ld L i) (lr L i) = 0 ↔ lg L i = 1))
/-- the q-th couple of a rib and a strength: 99 strengths a rib -/
def qSb (S : Nat → Nat) (q : Nat) : Nat → Nat := zu S (q / 99) (q % 99 + 1)
def qFt (P : zPl) (L : zLg) (q : Nat) : Bool := decide (q % 99 + 1 ≠ lS L (q / 99)) && qAs P L (qSb (lS L) q)
def qFn (P : zPl) (L : zLg) (n : Nat) : Nat := fb_ct (qFt P L) n
def qF1 (P : zPl) (L : zLg) (n : Nat) : Int32 := if fa_first (qFt P L) n < n then nI (100 * (fa_first (qFt P L) n / 99) + (fa_first (qFt P L) n % 99 + 1)) else nM
/-- how many unlike sets are gone behind d days, by the first n couples that fit -/
def qUs (P : zPl) (L : zLg) (d : Nat) (n : Nat) (s : Nat) : Bool := decide (∃ q, q < n ∧ qFt P L q = true ∧ qGo (qIt P (qSb (lS L) q) d) (pR P) = s)
def qUn (P : zPl) (L : zLg) (d : Nat) : Nat := fb_ct (qUs P L d (99 * pR P)) 4096
/-- the best day of the first n: day, how many -/
def qLk (P : zPl) (L : zLg) : Nat → Int32 × Nat
  | 0 => (nM, 0)
  | d + 1 => if (qLk P L d).2 < qUn P L (d + 1) then (nI (d + 1), qUn P L (d + 1)) else qLk P L d
def zCa (h : zH) (P : zPl) (L : zLg) : Prop := (zI h 39 5 = nI 0 ∨ (zI h 39 5 = nI 1 ∧ qFc h P (lS L))) ∧ (zI h 47 4 = nI 0 ∨ (zI h 47 4 = nI 1 ∧ zI h 47 5 = nI (qFn P L (99 * pR P)) ∧ zI h 47 6 = qF1 P L (99 * pR P) ∧ zI h 47 7 = nI (qAs P L (lS L)).toNat)) ∧ (zI h 47 8 = nI 0 ∨ (zI h 47 8 = nI 1 ∧ zI h 47 9 = (qLk P L 20).1 ∧ zI h 47 10 = nI (qLk P L 20).2))
/-- the image, if there is one -/
def zIm (h : zH) (R : Nat) (b : Nat) : Prop := b ≤ 1 ∧ zI h 0 8 = nI b ∧ zI h 52 59 = nI b ∧ (b = 1 → ∃ L, lOk R L ∧ zLC h 91 R L ∧ zLI h R L)
def zTa (h : zH) (t : Nat) : Prop := t ≤ 700 ∧ zI h 0 1 = nI t ∧ zI h 52 13 = nI t ∧ ∀ i, i < t → ∃ b, b < 256 ∧ zI h 63 i = nI b ∧ zI h 1 i = (nI b).toInt8.toInt32
def zAk (h : zH) (c : Nat) : Prop := ∃ A, A ≤ 20 * c ∧ zI h 52 56 = nI A ∧ ∀ k, k < 4096 → ∃ m, m ≤ A ∧ zI h 82 k = nI m
/-- all that holds between two calls, behind c of them; pp: where the plan lies -/
def zRel (c : Nat) (h : zH) (pp : Nat) (P : zPl) (L : zLg) : Prop := (pp = 2 ∨ pp = 9) ∧ pOk P ∧ lOk (pR P) L ∧ zPC h pp P ∧ zPM h P ∧ zLC h 18 (pR P) L ∧ zLM h (pR P) L ∧ zCa h P L ∧ (∃ b, zIm h (pR P) b) ∧ (∃ t, zTa h t) ∧ zI h 0 2 = zI h 52 22 ∧ zAk h c
/-- two heaps of the same ints, but some -/
def zSm (A : Nat → Nat → Prop) (h h' : zH) : Prop := ∀ a k, ¬ A a k → zI h' a k = zI h a k
theorem zfr.sm {A : Nat → Nat → Prop} {h h' : zH} (f : zfr A h h') : zSm A h h' := f.2.2.2.2.2.2
/-- cells that nobody reads between two calls -/
def zScr : Nat → Nat → Prop := fun b k => (30 ≤ b ∧ b ≤ 38) ∨ (44 ≤ b ∧ b ≤ 46) ∨ b = 48 ∨ b = 50 ∨ b = 51 ∨ (b = 52 ∧ (k = 4 ∨ (39 ≤ k ∧ k ≤ 41) ∨ k = 46 ∨ k = 54 ∨ k = 58)) ∨ (69 ≤ b ∧ b ≤ 75) ∨ b = 78 ∨ b = 80 ∨ b = 81 ∨ b = 83
section RF
variable {A : Nat → Nat → Prop} {h h1 : zH} {R : Nat} {L : zLg} {P : zPl} {a b o c pp : Nat} {S : Nat → Nat}
theorem zSm.fr (f : zSm A h h1) : ∃ h2, zfr A h h2 ∧ zI h2 = zI h1 := ⟨(zK h, zI h1, zR h, zL h, zX h, zc h, zs h), ⟨rfl, rfl, rfl, rfl, rfl, rfl, f⟩, rfl⟩
theorem zPC.co (e : zI h1 = zI h) (w : zPC h pp P) : zPC h1 pp P := by
  unfold zPC zRu at w ⊢
  rw [e]; exact w
theorem zPM.co (e : zI h1 = zI h) (w : zPM h P) : zPM h1 P := by
  unfold zPM at w ⊢
  rw [e]; exact w
theorem zAC.sm (f : zSm A h h1) (q : ∀ j, o ≤ j → j < o + 38 → ¬ A b j) (hR : R ≤ 12) (hk : S 37 ≤ 9) (w : zAC h b o R S) : zAC h1 b o R S := by
  obtain ⟨w0, w1, w2⟩ := w
  refine ⟨fun r hr => ?_, fun j j1 j2 => ?_, fun i hi => ⟨?_, ?_⟩⟩
  · rw [f _ _ (q _ (by omega) (by omega))]; exact w0 r hr
  · rw [f _ _ (q _ (by omega) (by omega))]; exact w1 j j1 j2
  · rw [f _ _ (q _ (by omega) (by omega))]; exact (w2 i hi).1
  · rw [f _ _ (q _ (by omega) (by omega))]; exact (w2 i hi).2
theorem zAM.sm (f : zSm A h h1) (q : ∀ j, o ≤ j → j < o + 38 → ¬ A b j) (hR : R ≤ 12) (hk : S 37 ≤ 9) (w : zAM h b o R S) : zAM h1 b o R S := by
  obtain ⟨w0, ⟨w1, w2, w3, w4, w5, w6, w7, w8⟩, w9⟩ := w
  refine ⟨fun r hr => ?_, ⟨?_, ?_, ?_, ?_, ?_, ?_, ?_, ?_⟩, fun i hi => ⟨?_, ?_⟩⟩
  · rw [f _ _ (q _ (by omega) (by omega))]; exact w0 r hr
  · rw [f _ _ (q _ (by omega) (by omega))]; exact w1
  · rw [f _ _ (q _ (by omega) (by omega))]; exact w2
  · rw [f _ _ (q _ (by omega) (by omega))]; exact w3
  · rw [f _ _ (q _ (by omega) (by omega))]; exact w4
  · rw [f _ _ (q _ (by omega) (by omega))]; exact w5
  · rw [f _ _ (q _ (by omega) (by omega))]; exact w6
  · rw [f _ _ (q _ (by omega) (by omega))]; exact w7
  · rw [f _ _ (q _ (by omega) (by omega))]; exact w8
  · rw [f _ _ (q _ (by omega) (by omega))]; exact (w9 i hi).1
  · rw [f _ _ (q _ (by omega) (by omega))]; exact (w9 i hi).2
theorem zSC.sm (f : zSm A h h1) (q : ∀ b k, a ≤ b → b ≤ a + 5 → ¬ A b k) (w : zSC h a R S) : zSC h1 a R S := by
  obtain ⟨h2, f2, e⟩ := f.fr
  have := w.fr f2 q
  unfold zSC at this ⊢
  rw [e] at this; exact this
theorem zSM.sm (f : zSm A h h1) (q : ∀ b k, b = 64 ∨ b = 65 ∨ b = 66 ∨ b = 67 ∨ (b = 52 ∧ 29 ≤ k ∧ k ≤ 34) → ¬ A b k) (w : zSM h R S) : zSM h1 R S := by
  obtain ⟨h2, f2, e⟩ := f.fr
  have := w.fr f2 q
  unfold zSM at this ⊢
  rw [e] at this; exact this
theorem zPC.sm (f : zSm A h h1) (q : ∀ b k, pp ≤ b → b ≤ pp + 6 → ¬ A b k) (w : zPC h pp P) : zPC h1 pp P := by
  obtain ⟨h2, f2, e⟩ := f.fr
  exact zPC.co e.symm (w.fr f2 q)
theorem zPM.sm (f : zSm A h h1) (q : ∀ b k, b = 56 ∨ b = 57 ∨ b = 59 ∨ b = 60 ∨ b = 61 → ¬ A b k) (w : zPM h P) : zPM h1 P := by
  obtain ⟨h2, f2, e⟩ := f.fr
  exact zPM.co e.symm (w.fr f2 q)
theorem zLC.sm (f : zSm A h h1) (q : ∀ b k, a ≤ b → b ≤ a + 11 → ¬ A b k) (hR : R ≤ 12) (hL : lOk R L) (w : zLC h a R L) : zLC h1 a R L := by
  obtain ⟨w1, w2, w3, w4, w5, w6⟩ := w
  refine ⟨w1.sm f (fun b k e1 e2 => q b k (by omega) (by omega)), ?_, fun i hi => (w3 i hi).sm f (fun j _ _ => q _ _ (by omega) (by omega)) hR (hL.2.2.1 i hi).1.2.2.2.2.2, ?_, fun i hi => ⟨?_, ?_, ?_⟩, fun i hi => ?_⟩
  · rw [f _ _ (q _ _ (by omega) (by omega))]; exact w2
  · rw [f _ _ (q _ _ (by omega) (by omega))]; exact w4
  · rw [f _ _ (q _ _ (by omega) (by omega))]; exact (w5 i hi).1
  · rw [f _ _ (q _ _ (by omega) (by omega))]; exact (w5 i hi).2.1
  · rw [f _ _ (q _ _ (by omega) (by omega))]; exact (w5 i hi).2.2
  · rw [f _ _ (q _ _ (by omega) (by omega))]; exact w6 i hi
theorem zLM.sm (f : zSm A h h1) (q : ∀ b k, b = 62 ∨ (64 ≤ b ∧ b ≤ 68) ∨ b = 76 ∨ b = 77 ∨ b = 79 ∨ (b = 52 ∧ 29 ≤ k ∧ k ≤ 36) → ¬ A b k) (hR : R ≤ 12) (hL : lOk R L) (w : zLM h R L) : zLM h1 R L := by
  obtain ⟨w1, w2, w3, w4, w5, w6⟩ := w
  refine ⟨w1.sm f (fun b k e => q b k (by omega)), ?_, fun i hi => (w3 i hi).sm f (fun j _ _ => q _ _ (by omega)) hR (hL.2.2.1 i hi).1.2.2.2.2.2, ?_, fun i hi => ⟨?_, ?_, ?_⟩, fun i hi => ?_⟩
  · rw [f _ _ (q _ _ (by omega))]; exact w2
  · rw [f _ _ (q _ _ (by omega))]; exact w4
  · rw [f _ _ (q _ _ (by omega))]; exact (w5 i hi).1
  · rw [f _ _ (q _ _ (by omega))]; exact (w5 i hi).2.1
  · rw [f _ _ (q _ _ (by omega))]; exact (w5 i hi).2.2
  · rw [f _ _ (q _ _ (by omega))]; exact w6 i hi
theorem zLI.sm (f : zSm A h h1) (q : ∀ b k, (84 ≤ b ∧ b ≤ 89) ∨ (b = 52 ∧ 60 ≤ k ∧ k ≤ 61) → ¬ A b k) (hR : R ≤ 12) (hL : lOk R L) (w : zLI h R L) : zLI h1 R L := by
  obtain ⟨w1, w2, w3, w4, w5, w6⟩ := w
  refine ⟨w1.sm f (fun j _ _ => q _ _ (by omega)) hR hL.1.1.2.2.2.2.2, ?_, fun i hi => (w3 i hi).sm f (fun j _ _ => q _ _ (by omega)) hR (hL.2.2.1 i hi).1.2.2.2.2.2, ?_, fun i hi => ⟨?_, ?_, ?_⟩, fun i hi => ?_⟩
  · rw [f _ _ (q _ _ (by omega))]; exact w2
  · rw [f _ _ (q _ _ (by omega))]; exact w4
  · rw [f _ _ (q _ _ (by omega))]; exact (w5 i hi).1
  · rw [f _ _ (q _ _ (by omega))]; exact (w5 i hi).2.1
  · rw [f _ _ (q _ _ (by omega))]; exact (w5 i hi).2.2
  · rw [f _ _ (q _ _ (by omega))]; exact w6 i hi
theorem qFc.sm (f : zSm A h h1) (q : ∀ b k, (39 ≤ b ∧ b ≤ 43) → ¬ A b k) (w : qFc h P S) : qFc h1 P S := by
  obtain ⟨w1, w2, w3⟩ := w
  refine ⟨?_, fun t ht e => ?_, fun r hr => ?_⟩
  · rw [f _ _ (q _ _ (by omega))]; exact w1
  · rw [f _ _ (q _ _ (by omega)), f _ _ (q _ _ (by omega)), f _ _ (q _ _ (by omega))]; exact w2 t ht e
  · rw [f _ _ (q _ _ (by omega))]; exact w3 r hr
theorem zCa.sm (f : zSm A h h1) (q : ∀ b k, (39 ≤ b ∧ b ≤ 43) ∨ b = 47 → ¬ A b k) (w : zCa h P L) : zCa h1 P L := by
  obtain ⟨w1, w2, w3⟩ := w
  unfold zCa
  rw [f 39 5 (q _ _ (by omega)), f 47 4 (q _ _ (by omega)), f 47 5 (q _ _ (by omega)), f 47 6 (q _ _ (by omega)), f 47 7 (q _ _ (by omega)), f 47 8 (q _ _ (by omega)), f 47 9 (q _ _ (by omega)), f 47 10 (q _ _ (by omega))]
  refine ⟨?_, w2, w3⟩
  rcases w1 with w1 | w1
  · exact Or.inl w1
  · exact Or.inr ⟨w1.1, w1.2.sm f (fun b k e => q b k (by omega))⟩
theorem zIm.sm (f : zSm A h h1) (q : ∀ b k, (84 ≤ b ∧ b ≤ 89) ∨ (91 ≤ b ∧ b ≤ 102) ∨ (b = 0 ∧ k = 8) ∨ (b = 52 ∧ 59 ≤ k ∧ k ≤ 61) → ¬ A b k) (hR : R ≤ 12) (w : zIm h R b) : zIm h1 R b := by
  obtain ⟨w0, w1, w2, w3⟩ := w
  refine ⟨w0, ?_, ?_, fun e => ?_⟩
  · rw [f _ _ (q _ _ (by omega))]; exact w1
  · rw [f _ _ (q _ _ (by omega))]; exact w2
  · obtain ⟨L, l1, l2, l3⟩ := w3 e
    exact ⟨L, l1, l2.sm f (fun b k e1 e2 => q b k (by omega)) hR l1, l3.sm f (fun b k e => q b k (by omega)) hR l1⟩
theorem zTa.sm (f : zSm A h h1) (q : ∀ b k, (b = 0 ∧ k = 1) ∨ b = 1 ∨ b = 63 ∨ (b = 52 ∧ k = 13) → ¬ A b k) {t : Nat} (w : zTa h t) : zTa h1 t := by
  obtain ⟨w0, w1, w2, w3⟩ := w
  refine ⟨w0, ?_, ?_, fun i hi => ?_⟩
  · rw [f _ _ (q _ _ (by omega))]; exact w1
  · rw [f _ _ (q _ _ (by omega))]; exact w2
  · rw [f _ _ (q _ _ (by omega)), f _ _ (q _ _ (by omega))]; exact w3 i hi
theorem zAk.sm (f : zSm A h h1) (q : ∀ b k, b = 82 ∨ (b = 52 ∧ k = 56) → ¬ A b k) (w : zAk h c) : zAk h1 c := by
  obtain ⟨m, w0, w1, w2⟩ := w
  refine ⟨m, w0, ?_, fun k hk => ?_⟩
  · rw [f _ _ (q _ _ (by omega))]; exact w1
  · rw [f _ _ (q _ _ (by omega))]; exact w2 k hk
theorem zAk.le {d : Nat} (e : c ≤ d) (w : zAk h c) : zAk h d := by
  obtain ⟨m, w0, w1, w2⟩ := w
  exact ⟨m, by omega, w1, w2⟩
/-- cells that are read between two calls don't change -/
theorem zRel.sm (f : zSm zScr h h1) (w : zRel c h pp P L) : zRel c h1 pp P L := by
  obtain ⟨w0, w1, w2, w3, w4, w5, w6, w7, ⟨b, w8⟩, ⟨t, w9⟩, w10, w11⟩ := w
  have hR := w1.1
  refine ⟨w0, w1, w2, w3.sm f ?_, w4.sm f ?_, w5.sm f ?_ hR w2, w6.sm f ?_ hR w2, w7.sm f ?_, ⟨b, w8.sm f ?_ hR⟩, ⟨t, w9.sm f ?_⟩, ?_, w11.sm f ?_⟩
  · intro b k e1 e2; unfold zScr; omega
  · intro b k e; unfold zScr; omega
  · intro b k e1 e2; unfold zScr; omega
  · intro b k e; unfold zScr; omega
  · intro b k e; unfold zScr; omega
  · intro b k e; unfold zScr; omega
  · intro b k e; unfold zScr; omega
  · rw [f _ _ (by unfold zScr; omega), f _ _ (by unfold zScr; omega)]; exact w10
  · intro b k e; unfold zScr; omega
theorem zRel.up (w : zRel c h pp P L) : zRel (c + 1) h pp P L := by
  obtain ⟨w0, w1, w2, w3, w4, w5, w6, w7, w8, w9, w10, w11⟩ := w
  exact ⟨w0, w1, w2, w3, w4, w5, w6, w7, w8, w9, w10, w11.le (by omega)⟩
theorem zRel.co (e : zI h1 = zI h) (w : zRel c h pp P L) : zRel c h1 pp P L := w.sm (fun a k _ => by rw [e])
end RF
