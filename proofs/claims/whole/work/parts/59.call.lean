/-! ===== a call of the class, then the reference's ===== -/
def zHa (X : Option ((Int32 ⊕ Nat) × zH)) : Option (Int32 × zH) := zbx X (fun v3 h2 => zix (0 : Int32) 1 fun i5 => zlt (zwL h2 90 i5 v3.toInt64) fun h4 => some ((0 : Int32), h4)) (fun x h1 => if x = 1 then (some ((1 : Int32), h1)) else none)
def zHb (X : Option ((Int32 ⊕ Nat) × zH)) : Option (Int32 × zH) := zbx X (fun v3 h2 => zix (0 : Int32) 1 fun i5 => zlt (zwL h2 90 i5 v3.toInt64) fun h4 => some ((0 : Int32), h4)) (fun x h1 => if x = 1 then (some ((1 : Int32), h1)) else if x = 0 then (some ((2 : Int32), h1)) else none)
def zHc (X : Option ((Int32 ⊕ Nat) × zH)) : Option (Int32 × zH) := zbx X (fun v3 h2 => zix (0 : Int32) 1 fun i5 => zlt (zwL h2 90 i5 v3.toInt64) fun h4 => some ((0 : Int32), h4)) (fun x h1 => if x = 0 then (some ((1 : Int32), h1)) else none)
/-- nothing else is made but an exception; the script stays -/
def zGd (h h2 : zH) : Prop := zK h2 = zK h ∧ zX h2 = zX h ∧ zc h2 ≤ zc h + 1 ∧ zs h2 ≤ zs h + 6 ∧ zI h2 0 8 = zI h 0 8
/-- both answer alike, and all holds again -/
def zCall (c : Nat) (h : zH) (pp : Nat) (P : zPl) (F : Option (Int32 × zH)) (G : zH → Option (Int32 × zH)) : Prop := ∃ k h1 v h2 L, F = some (k, h1) ∧ G h1 = some (v, h2) ∧ zI h2 52 4 = k ∧ (k = 0 → zL h2 90 0 = v.toInt64) ∧ zRel (c + 1) h2 pp P L ∧ zGd h h2
/-- the same, for a call that can't throw -/
def zCal2 (c : Nat) (h : zH) (pp : Nat) (P : zPl) (F : Option (Int32 × zH)) (G : zH → Option (Int32 × zH)) : Prop := ∃ v h1 h2 L, F = some (v, h1) ∧ G h1 = some (v, h2) ∧ zRel (c + 1) h2 pp P L ∧ zGd h h2
/-- a question put to the reference -/
def zAsk (c pp : Nat) (P : zPl) (L : zLg) (G : zH → Option (Int32 × zH)) (k : Nat) (v : Int32) : Prop := ∀ h, zRel c h pp P L → ∃ h2, G h = some (v, h2) ∧ zI h2 52 4 = nI k ∧ zfr zScr h h2
section CL
variable {c pp : Nat} {h h1 : zH} {P : zPl} {L : zLg} {X : Option ((Int32 ⊕ Nat) × zH)} {G : zH → Option (Int32 × zH)} {v : Int32}
theorem zfr.gd {A : Nat → Nat → Prop} (f : zfr A h h1) (q : ¬ A 0 8) : zGd h h1 := ⟨f.1, f.2.2.2.1, by rw [f.2.2.2.2.1]; omega, by rw [f.2.2.2.2.2.1]; omega, f.i q⟩
theorem zRel.fr (f : zfr zScr h h1) (w : zRel c h pp P L) : zRel c h1 pp P L := w.sm f.sm
theorem zL_in (e : X = some (Sum.inl v, h1)) : zHa X = some (nI 0, zwL h1 90 0 v.toInt64) ∧ zHb X = some (nI 0, zwL h1 90 0 v.toInt64) ∧ zHc X = some (nI 0, zwL h1 90 0 v.toInt64) := by
  subst e
  exact ⟨rfl, rfl, rfl⟩
theorem zCall.of {F : Option (Int32 × zH)} (w : zRel c h pp P L) (f : zfr zScr h h1) (eF : F = some (nI 0, zwL h1 90 0 v.toInt64)) (g : zAsk c pp P L G 0 v) : zCall c h pp P F G := by
  have w1 : zRel c (zwL h1 90 0 v.toInt64) pp P L := (w.fr f).co rfl
  obtain ⟨h2, e2, k2, f2⟩ := g _ w1
  refine ⟨nI 0, _, v, h2, L, eF, e2, k2, fun _ => ?_, (w1.fr f2).up, ?_⟩
  · rw [f2.2.2.1]; rfl
  · obtain ⟨a1, a2, a3, a4, a5, a6, a7⟩ := f
    obtain ⟨b1, b2, b3, b4, b5, b6, b7⟩ := f2
    refine ⟨b1.trans a1, b4.trans a4, ?_, ?_, ?_⟩
    · rw [b5]; show zc h1 ≤ _; rw [a5]; omega
    · rw [b6]; show zs h1 ≤ _; rw [a6]; omega
    · rw [b7 0 8 (by unfold zScr; omega)]; exact a7 0 8 (by unfold zScr; omega)
theorem zCall.one {F : Option (Int32 × zH)} (w : zRel c h pp P L) (f : zfr zScr h h1) (eF : F = some (nI 0, zwL h1 90 0 v.toInt64)) (g : ∃ h2, G (zwL h1 90 0 v.toInt64) = some (v, h2) ∧ zI h2 52 4 = nI 0 ∧ zfr zScr (zwL h1 90 0 v.toInt64) h2) : zCall c h pp P F G := by
  have w1 : zRel c (zwL h1 90 0 v.toInt64) pp P L := (w.fr f).co rfl
  obtain ⟨h2, e2, k2, f2⟩ := g
  refine ⟨nI 0, _, v, h2, L, eF, e2, k2, fun _ => ?_, (w1.fr f2).up, ?_⟩
  · rw [f2.2.2.1]; rfl
  · obtain ⟨a1, a2, a3, a4, a5, a6, a7⟩ := f
    obtain ⟨b1, b2, b3, b4, b5, b6, b7⟩ := f2
    refine ⟨b1.trans a1, b4.trans a4, ?_, ?_, ?_⟩
    · rw [b5]; show zc h1 ≤ _; rw [a5]; omega
    · rw [b6]; show zs h1 ≤ _; rw [a6]; omega
    · rw [b7 0 8 (by unfold zScr; omega)]; exact a7 0 8 (by unfold zScr; omega)
theorem zCal2.one {F : Option (Int32 × zH)} (w : zRel c h pp P L) (eF : F = some (v, h1)) (f : zfr zScr h h1) (g : ∃ h2, G h1 = some (v, h2) ∧ zfr zScr h1 h2) : zCal2 c h pp P F G := by
  have w1 := w.fr f
  obtain ⟨h2, e2, f2⟩ := g
  exact ⟨v, _, h2, L, eF, e2, (w1.fr f2).up, (f.tr f2).gd (by unfold zScr; omega)⟩
theorem zCall.i (w : zRel c h pp P L) (e : X = some (Sum.inl v, h1)) (f : zfr zScr h h1) (g : zAsk c pp P L G 0 v) : zCall c h pp P (zHa X) G := zCall.of w f (zL_in e).1 g
theorem zCall.j (w : zRel c h pp P L) (e : X = some (Sum.inl v, h1)) (f : zfr zScr h h1) (g : zAsk c pp P L G 0 v) : zCall c h pp P (zHb X) G := zCall.of w f (zL_in e).2.1 g
theorem zCall.k (w : zRel c h pp P L) (e : X = some (Sum.inl v, h1)) (f : zfr zScr h h1) (g : zAsk c pp P L G 0 v) : zCall c h pp P (zHc X) G := zCall.of w f (zL_in e).2.2 g
theorem zCall.th {F : Option (Int32 × zH)} {k : Nat} (w : zRel c h pp P L) (eF : F = some (nI k, zth h)) (hk : ¬ nI k = 0) (g : zAsk c pp P L G k v) : zCall c h pp P F G := by
  have w1 : zRel c (zth h) pp P L := w.co rfl
  obtain ⟨h2, e2, k2, f2⟩ := g _ w1
  refine ⟨nI k, _, v, h2, L, eF, e2, k2, fun e => absurd e hk, (w1.fr f2).up, ?_⟩
  obtain ⟨b1, b2, b3, b4, b5, b6, b7⟩ := f2
  refine ⟨b1, b4, ?_, ?_, ?_⟩
  · rw [b5]; exact Nat.le_refl _
  · rw [b6]; exact Nat.le_refl _
  · exact b7 0 8 (by unfold zScr; omega)
theorem zCall.i1 (w : zRel c h pp P L) (e : X = some (Sum.inr 1, zth h)) (g : zAsk c pp P L G 1 v) : zCall c h pp P (zHa X) G := zCall.th (k := 1) w (by rw [e]; rfl) (by decide) g
theorem zCall.j1 (w : zRel c h pp P L) (e : X = some (Sum.inr 1, zth h)) (g : zAsk c pp P L G 1 v) : zCall c h pp P (zHb X) G := zCall.th (k := 1) w (by rw [e]; rfl) (by decide) g
theorem zCall.j0 (w : zRel c h pp P L) (e : X = some (Sum.inr 0, zth h)) (g : zAsk c pp P L G 2 v) : zCall c h pp P (zHb X) G := zCall.th (k := 2) w (by rw [e]; rfl) (by decide) g
theorem zCall.k0 (w : zRel c h pp P L) (e : X = some (Sum.inr 0, zth h)) (g : zAsk c pp P L G 1 v) : zCall c h pp P (zHc X) G := zCall.th (k := 1) w (by rw [e]; rfl) (by decide) g
theorem zCal2.of {F : Option (Int32 × zH)} (w : zRel c h pp P L) (eF : F = some (v, h1)) (f : zfr zScr h h1) (g : zAsk c pp P L G 0 v) : zCal2 c h pp P F G := by
  have w1 := w.fr f
  obtain ⟨h2, e2, k2, f2⟩ := g _ w1
  exact ⟨v, _, h2, L, eF, e2, (w1.fr f2).up, (f.tr f2).gd (by unfold zScr; omega)⟩
/-- the reference begins every call so -/
theorem zAsk.go {K : zH → Option (Int32 × zH)} {k : Nat} (g : ∀ h, zRel c h pp P L → zI h 52 4 = nI 0 → ∃ h2, K h = some (v, h2) ∧ zI h2 52 4 = nI k ∧ zfr zScr h h2) : zAsk c pp P L (fun h => zlt (zwI h 52 4 (0 : Int32)) K) k v := by
  intro h w
  have f : zfr zScr h (zwI h 52 4 (0 : Int32)) := zfr.wI 52 4 _ (by unfold zScr; omega)
  obtain ⟨h2, e2, k2, f2⟩ := g _ (w.fr f) rfl
  exact ⟨h2, e2, k2, f.tr f2⟩
/-- a value, and nothing else -/
theorem zAsk.val {K : zH → Option (Int32 × zH)} (g : ∀ h, zRel c h pp P L → K h = some (v, h)) : zAsk c pp P L (fun h => zlt (zwI h 52 4 (0 : Int32)) K) 0 v := zAsk.go (fun h w e => ⟨h, g h w, e, zfr.rf _ h⟩)
/-- it refuses -/
theorem zAsk.fail {K : zH → Option (Int32 × zH)} {k : Nat} (g : ∀ h, zRel c h pp P L → K h = zbd (s_X11_fail (nI k) h) fun v2 h1 => some (v2, h1)) : zAsk c pp P L (fun h => zlt (zwI h 52 4 (0 : Int32)) K) k (nI 0) := zAsk.go (fun h w e => ⟨zwI h 52 4 (nI k), g h w, rfl, zfr.wI 52 4 _ (by unfold zScr; omega)⟩)
end CL
