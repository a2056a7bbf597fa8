/-! ===== functions for the instructions that may fail or that touch the heap; a row for each ===== -/
def zgI (r : zF) (x y : Nat) (h : zH) : Option Int32 := match Nat.beq r.2.1 x with
  | true => some (zI h r.1 y)
  | false => none
def zgR (r : zF) (x y : Nat) (h : zH) : Option zF := match Nat.beq r.2.1 x with
  | true => zR h r.1 y
  | false => none
def zgO (r : zF) (x y : Nat) (h : zH) : Option (Option zF) := match Nat.beq r.2.1 x with
  | true => match zR h r.1 y with
    | none => some none
    | some q => match q.2.1 with
      | 34 => none
      | _ => some (some q)
  | false => none
def zgV (r : zF) : Option zF := match Nat.beq r.2.1 30 with
  | true => some (r.1, 33, zbl zTX r.1)
  | false => none
def zgC (r : zF) : Option Int32 := match Nat.beq r.2.1 30 with
  | true => some 0
  | false => none
def zpI (r : zF) (x y : Nat) (v : Int32) (h : zH) : Option zH := match Nat.beq r.2.1 x with
  | true => some (zwI h r.1 y v)
  | false => none
def zpB (r : zF) (x y : Nat) (v : Int32) (h : zH) : Option zH := match Nat.beq r.2.1 x && zbool v with
  | true => some (zwI h r.1 y v)
  | false => none
def zpN (r : zF) (x y : Nat) (h : zH) : Option zH := match Nat.beq r.2.1 x with
  | true => some (zwR h r.1 y none)
  | false => none
def zpR (r : zF) (x y : Nat) (b : zF) (h : zH) : Option zH := match Nat.beq r.2.1 x && !(Nat.beq b.2.1 34) with
  | true => some (zwR h r.1 y (some b))
  | false => none
def zaI (r : zF) (j : Int32) (h : zH) : Option Int32 := match r.2.1 with
  | 20 => cond (zin j r.2.2) (some (zI h r.1 j.toNatClampNeg)) none
  | 31 => cond (zin j 10) (some (zrk j.toNatClampNeg)) none
  | 32 => cond (zin j r.2.2) (some (zX h j.toNatClampNeg)) none
  | _ => none
def zaB (r : zF) (j : Int32) (h : zH) : Option Int32 := match r.2.1 with
  | 21 => cond (zin j r.2.2) (some (zI h r.1 j.toNatClampNeg)) none
  | 22 => cond (zin j r.2.2) (some (zI h r.1 j.toNatClampNeg)) none
  | 33 => cond (zin j r.2.2) (some (zby zTX r.1 j.toNatClampNeg)) none
  | _ => none
def zaL (r : zF) (j : Int32) (h : zH) : Option Int64 := match Nat.beq r.2.1 23 && zin j r.2.2 with
  | true => some (zL h r.1 j.toNatClampNeg)
  | false => none
def zaR (r : zF) (j : Int32) (h : zH) : Option zF := match Nat.beq r.2.1 24 && zin j r.2.2 with
  | true => zR h r.1 j.toNatClampNeg
  | false => none
def zsI (r : zF) (j v : Int32) (h : zH) : Option zH := match Nat.beq r.2.1 20 && zin j r.2.2 with
  | true => some (zwI h r.1 j.toNatClampNeg v)
  | false => none
def zsB (r : zF) (j v : Int32) (h : zH) : Option zH := match r.2.1 with
  | 21 => cond (zin j r.2.2) (some (zwI h r.1 j.toNatClampNeg v.toInt8.toInt32)) none
  | 22 => cond (zin j r.2.2) (some (zwI h r.1 j.toNatClampNeg (v &&& 1))) none
  | _ => none
def zsL (r : zF) (j : Int32) (v : Int64) (h : zH) : Option zH := match Nat.beq r.2.1 23 && zin j r.2.2 with
  | true => some (zwL h r.1 j.toNatClampNeg v)
  | false => none
def zsR (r : zF) (j : Int32) (b : zF) (h : zH) : Option zH := match Nat.beq r.2.1 24 && zin j r.2.2 && Nat.beq b.2.1 30 with
  | true => some (zwR h r.1 j.toNatClampNeg (some b))
  | false => none
def zln (r : zF) : Option Int32 := match r.2.1 with
  | 20 => some (Int32.ofNat r.2.2)
  | 23 => some (Int32.ofNat r.2.2)
  | 24 => some (Int32.ofNat r.2.2)
  | 32 => some (Int32.ofNat r.2.2)
  | 33 => some (Int32.ofNat r.2.2)
  | _ => none
def zdv (a b : Int32) : Option Int32 := cond (b == 0) none (some (a / b))
def zre (a b : Int32) : Option Int32 := cond (b == 0) none (some (a - a / b * b))
def zcy (a : zF) (sp : Int32) (b : zF) (dp n : Int32) (h : zH) : Option zH := match Nat.beq a.2.1 20 && Nat.beq b.2.1 20 && (!(decide (sp < 0)) && !(decide (dp < 0)) && !(decide (n < 0)) && decide (sp.toNatClampNeg + n.toNatClampNeg ≤ a.2.2) && decide (dp.toNatClampNeg + n.toNatClampNeg ≤ b.2.2)) with
  | true => some (zwA h b.1 (va_cpy (zI h a.1) (zI h b.1) sp.toNatClampNeg dp.toNatClampNeg n.toNatClampNeg))
  | false => none
def znw (k len n : Nat) (h : zH) : Option (zF × zH) := some (((zK h).length, k, len), zal h k len n)
def zrt (t : Nat) (v : Int32) (h : zH) : Option (Int32 × zH) := cond (zfit t v) (some (v, h)) none
def zPi (q : Int32 × zH) : zO → zH → Prop := fun o h' => o = Sum.inl (some (zi q.1)) ∧ h' = q.2
def zPv (q : zH) : zO → zH → Prop := fun o h' => o = Sum.inl none ∧ h' = q
def zPx (q : (Int32 ⊕ Nat) × zH) : zO → zH → Prop := fun o h' => (match q.1 with
  | Sum.inl v => o = Sum.inl (some (zi v))
  | Sum.inr x => o = Sum.inr x) ∧ h' = q.2
def zPu (q : (Unit ⊕ Nat) × zH) : zO → zH → Prop := fun o h' => (match q.1 with
  | Sum.inl _ => o = Sum.inl none
  | Sum.inr x => o = Sum.inr x) ∧ h' = q.2
/-- how often a loop goes round at most -/
def zfu : Nat := 100000
def zbd {α β : Type} (F : Option (β × zH)) (K : β → zH → Option α) : Option α := match F with
  | some (v, h) => K v h
  | none => none
def zbx {α β : Type} (F : Option ((β ⊕ Nat) × zH)) (K : β → zH → Option α) (X : Nat → zH → Option α) : Option α := match F with
  | some (Sum.inl v, h) => K v h
  | some (Sum.inr x, h) => X x h
  | none => none
section RULES
variable {α β : Type} {d : Nat} {M : zM} {i j j2 : Nat} {ls ls' : zLV} {st st' rest : List zV} {h h' : zH} {Q : zO → zH → Prop} {res : α} {pc len x y z w idx : Nat} {c : Int32 × Int64} {tb : List (Int32 × Nat)}
theorem zbind {f : Option β} {K : β → Option α} (e : f.bind K = some res) : ∃ v, f = some v ∧ K v = some res := by
  cases f with
  | none => cases e
  | some v => exact ⟨v, rfl, e⟩
theorem zstp {ins : Instr} (hc : M.1[i]? = some (pc, ins, len, (x, y, z, w), c, tb)) : zstep zTX M.1 i ls st h = zsem zTX ins x y z w c tb i ls st h := by
  unfold zstep
  rw [hc]
theorem zb_gI {r : zF} {K : Int32 → Option α} (e : (zgI r x y h).bind K = some res) (hc : M.1[i]? = some (pc, .getfield idx, len, (x, y, 0, w), c, tb)) (kk : ∀ v, K v = some res → zwp d M (i + 1) ls (zi v :: st) h Q) : zwp d M i ls (zr r :: st) h Q := by
  obtain ⟨v, e1, e2⟩ := zbind e
  refine zwp.nx ?_ (kk v e2)
  rw [zstp hc]
  obtain ⟨a, k, n⟩ := r
  simp only [zgI] at e1
  simp only [zsem]
  split at e1
  · rename_i q; rw [q]; cases e1; rfl
  · cases e1
theorem zb_gR {r : zF} {K : zF → Option α} (e : (zgR r x y h).bind K = some res) (hc : M.1[i]? = some (pc, .getfield idx, len, (x, y, 1, w), c, tb)) (kk : ∀ v, K v = some res → zwp d M (i + 1) ls (zr v :: st) h Q) : zwp d M i ls (zr r :: st) h Q := by
  obtain ⟨v, e1, e2⟩ := zbind e
  refine zwp.nx ?_ (kk v e2)
  rw [zstp hc]
  obtain ⟨a, k, n⟩ := r
  simp only [zgR] at e1
  simp only [zsem]
  split at e1
  · rename_i q; rw [q]; dsimp only; rw [e1]
  · cases e1
theorem zb_gO {r : zF} {A B : Option α} {K : Option zF → Option α} {jt : Nat} {pc2 len2 y2 z2 w2 : Nat} {off : Int} {c2 : Int32 × Int64} {tb2 : List (Int32 × Nat)} (e : (zgO r x y h).bind K = some res) (hc : M.1[i]? = some (pc, .getfield idx, len, (x, y, 1, w), c, tb)) (hc2 : M.1[i + 1]? = some (pc2, .ifnonnull off, len2, (jt, y2, z2, w2), c2, tb2))
    (k0 : K none = some res → zwp d M (i + 1 + 1) ls st h Q) (k1 : ∀ v, K (some v) = some res → zwp d M jt ls st h Q) : zwp d M i ls (zr r :: st) h Q := by
  obtain ⟨v, e1, e2⟩ := zbind e
  obtain ⟨a, k, n⟩ := r
  simp only [zgO] at e1
  split at e1
  · rename_i q
    have s1 : zstep zTX M.1 i ls (zr (a, k, n) :: st) h = zNx (i + 1) ls (zq (zR h a y) :: st) h := by
      rw [zstp hc]; simp only [zsem]; rw [q]
    refine zwp.nx s1 ?_
    split at e1
    · rename_i q2
      cases e1
      rw [q2]
      refine zwp.nx (j := i + 1 + 1) (ls' := ls) (st' := st) (h' := h) ?_ (k0 e2)
      rw [zstp hc2]; rfl
    · rename_i q2 q3
      split at e1
      · cases e1
      · rename_i q4
        cases e1
        rw [q3]
        refine zwp.nx (j := jt) (ls' := ls) (st' := st) (h' := h) ?_ (k1 _ e2)
        rw [zstp hc2]
        simp only [zsem]
  · cases e1
theorem zb_gV {r : zF} {K : zF → Option α} (e : (zgV r).bind K = some res) (hc : M.1[i]? = some (pc, .getfield idx, len, (30, y, 2, w), c, tb)) (kk : ∀ v, K v = some res → zwp d M (i + 1) ls (zr v :: st) h Q) : zwp d M i ls (zr r :: st) h Q := by
  obtain ⟨v, e1, e2⟩ := zbind e
  refine zwp.nx ?_ (kk v e2)
  rw [zstp hc]
  obtain ⟨a, k, n⟩ := r
  simp only [zgV] at e1
  simp only [zsem]
  split at e1
  · rename_i q; rw [q]; cases e1; rfl
  · cases e1
theorem zb_gC {r : zF} {K : Int32 → Option α} (e : (zgC r).bind K = some res) (hc : M.1[i]? = some (pc, .getfield idx, len, (30, y, 3, w), c, tb)) (kk : ∀ v, K v = some res → zwp d M (i + 1) ls (zi v :: st) h Q) : zwp d M i ls (zr r :: st) h Q := by
  obtain ⟨v, e1, e2⟩ := zbind e
  refine zwp.nx ?_ (kk v e2)
  rw [zstp hc]
  obtain ⟨a, k, n⟩ := r
  simp only [zgC] at e1
  simp only [zsem]
  split at e1
  · rename_i q; rw [q]; cases e1; rfl
  · cases e1
theorem zb_pI {r : zF} {v : Int32} {K : zH → Option α} (e : (zpI r x y v h).bind K = some res) (hc : M.1[i]? = some (pc, .putfield idx, len, (x, y, 0, w), c, tb)) (kk : ∀ h', K h' = some res → zwp d M (i + 1) ls st h' Q) : zwp d M i ls (zi v :: zr r :: st) h Q := by
  obtain ⟨h2, e1, e2⟩ := zbind e
  refine zwp.nx ?_ (kk h2 e2)
  rw [zstp hc]
  obtain ⟨a, k, n⟩ := r
  simp only [zpI] at e1
  simp only [zsem]
  split at e1
  · rename_i q; rw [q]; cases e1; rfl
  · cases e1
theorem zb_pB {r : zF} {v : Int32} {K : zH → Option α} (e : (zpB r x y v h).bind K = some res) (hc : M.1[i]? = some (pc, .putfield idx, len, (x, y, 2, w), c, tb)) (kk : ∀ h', K h' = some res → zwp d M (i + 1) ls st h' Q) : zwp d M i ls (zi v :: zr r :: st) h Q := by
  obtain ⟨h2, e1, e2⟩ := zbind e
  refine zwp.nx ?_ (kk h2 e2)
  rw [zstp hc]
  obtain ⟨a, k, n⟩ := r
  simp only [zpB] at e1
  simp only [zsem]
  split at e1
  · rename_i q
    rw [Bool.and_eq_true] at q
    rw [q.1, q.2]; cases e1; rfl
  · cases e1
theorem zb_pN {r : zF} {K : zH → Option α} (e : (zpN r x y h).bind K = some res) (hc : M.1[i]? = some (pc, .putfield idx, len, (x, y, 1, w), c, tb)) (kk : ∀ h', K h' = some res → zwp d M (i + 1) ls st h' Q) : zwp d M i ls (zn :: zr r :: st) h Q := by
  obtain ⟨h2, e1, e2⟩ := zbind e
  refine zwp.nx ?_ (kk h2 e2)
  rw [zstp hc]
  obtain ⟨a, k, n⟩ := r
  simp only [zpN] at e1
  simp only [zsem]
  split at e1
  · rename_i q; rw [q]; cases e1; rfl
  · cases e1
theorem zb_pR {r b : zF} {K : zH → Option α} (e : (zpR r x y b h).bind K = some res) (hc : M.1[i]? = some (pc, .putfield idx, len, (x, y, 1, w), c, tb)) (kk : ∀ h', K h' = some res → zwp d M (i + 1) ls st h' Q) : zwp d M i ls (zr b :: zr r :: st) h Q := by
  obtain ⟨h2, e1, e2⟩ := zbind e
  refine zwp.nx ?_ (kk h2 e2)
  rw [zstp hc]
  obtain ⟨a, k, n⟩ := r
  obtain ⟨b1, b2, b3⟩ := b
  simp only [zpR] at e1
  simp only [zsem]
  split at e1
  · rename_i q; rw [q]; cases e1; rfl
  · cases e1
theorem zb_aI {r : zF} {v : Int32} {K : Int32 → Option α} (e : (zaI r v h).bind K = some res) (hc : M.1[i]? = some (pc, .iaload, len, (x, y, z, w), c, tb)) (kk : ∀ v, K v = some res → zwp d M (i + 1) ls (zi v :: st) h Q) : zwp d M i ls (zi v :: zr r :: st) h Q := by
  obtain ⟨u, e1, e2⟩ := zbind e
  refine zwp.nx ?_ (kk u e2)
  rw [zstp hc]
  obtain ⟨a, k, n⟩ := r
  simp only [zaI] at e1
  simp only [zsem]
  split at e1
  · obtain ⟨q, e3⟩ := zcond e1; rw [q, e3]; rfl
  · obtain ⟨q, e3⟩ := zcond e1; rw [q, e3]; rfl
  · obtain ⟨q, e3⟩ := zcond e1; rw [q, e3]; rfl
  · cases e1
theorem zb_aB {r : zF} {v : Int32} {K : Int32 → Option α} (e : (zaB r v h).bind K = some res) (hc : M.1[i]? = some (pc, .baload, len, (x, y, z, w), c, tb)) (kk : ∀ v, K v = some res → zwp d M (i + 1) ls (zi v :: st) h Q) : zwp d M i ls (zi v :: zr r :: st) h Q := by
  obtain ⟨u, e1, e2⟩ := zbind e
  refine zwp.nx ?_ (kk u e2)
  rw [zstp hc]
  obtain ⟨a, k, n⟩ := r
  simp only [zaB] at e1
  simp only [zsem]
  split at e1
  · obtain ⟨q, e3⟩ := zcond e1; rw [q, e3]; rfl
  · obtain ⟨q, e3⟩ := zcond e1; rw [q, e3]; rfl
  · obtain ⟨q, e3⟩ := zcond e1; rw [q, e3]; rfl
  · cases e1
theorem zb_aL {r : zF} {v : Int32} {K : Int64 → Option α} (e : (zaL r v h).bind K = some res) (hc : M.1[i]? = some (pc, .laload, len, (x, y, z, w), c, tb)) (kk : ∀ v, K v = some res → zwp d M (i + 1) ls (zl v :: st) h Q) : zwp d M i ls (zi v :: zr r :: st) h Q := by
  obtain ⟨u, e1, e2⟩ := zbind e
  refine zwp.nx ?_ (kk u e2)
  rw [zstp hc]
  obtain ⟨a, k, n⟩ := r
  simp only [zaL] at e1
  split at e1
  · rename_i q
    rw [Bool.and_eq_true] at q
    have q1 := Nat.eq_of_beq_eq_true q.1
    subst q1
    simp only [zsem]
    rw [q.2]; cases e1; rfl
  · cases e1
theorem zb_aR {r : zF} {v : Int32} {K : zF → Option α} (e : (zaR r v h).bind K = some res) (hc : M.1[i]? = some (pc, .aaload, len, (x, y, z, w), c, tb)) (kk : ∀ v, K v = some res → zwp d M (i + 1) ls (zr v :: st) h Q) : zwp d M i ls (zi v :: zr r :: st) h Q := by
  obtain ⟨u, e1, e2⟩ := zbind e
  refine zwp.nx ?_ (kk u e2)
  rw [zstp hc]
  obtain ⟨a, k, n⟩ := r
  simp only [zaR] at e1
  split at e1
  · rename_i q
    rw [Bool.and_eq_true] at q
    have q1 := Nat.eq_of_beq_eq_true q.1
    subst q1
    simp only [zsem]
    rw [q.2, e1]; rfl
  · cases e1
theorem zb_sI {r : zF} {v u : Int32} {K : zH → Option α} (e : (zsI r v u h).bind K = some res) (hc : M.1[i]? = some (pc, .iastore, len, (x, y, z, w), c, tb)) (kk : ∀ h', K h' = some res → zwp d M (i + 1) ls st h' Q) : zwp d M i ls (zi u :: zi v :: zr r :: st) h Q := by
  obtain ⟨h2, e1, e2⟩ := zbind e
  refine zwp.nx ?_ (kk h2 e2)
  rw [zstp hc]
  obtain ⟨a, k, n⟩ := r
  simp only [zsI] at e1
  split at e1
  · rename_i q
    rw [Bool.and_eq_true] at q
    have q1 := Nat.eq_of_beq_eq_true q.1
    subst q1
    simp only [zsem]
    rw [q.2]; cases e1; rfl
  · cases e1
theorem zb_sB {r : zF} {v u : Int32} {K : zH → Option α} (e : (zsB r v u h).bind K = some res) (hc : M.1[i]? = some (pc, .bastore, len, (x, y, z, w), c, tb)) (kk : ∀ h', K h' = some res → zwp d M (i + 1) ls st h' Q) : zwp d M i ls (zi u :: zi v :: zr r :: st) h Q := by
  obtain ⟨h2, e1, e2⟩ := zbind e
  refine zwp.nx ?_ (kk h2 e2)
  rw [zstp hc]
  obtain ⟨a, k, n⟩ := r
  simp only [zsB] at e1
  simp only [zsem]
  split at e1
  · obtain ⟨q, e3⟩ := zcond e1; rw [q, e3]; rfl
  · obtain ⟨q, e3⟩ := zcond e1; rw [q, e3]; rfl
  · cases e1
theorem zb_sL {r : zF} {v : Int32} {u : Int64} {K : zH → Option α} (e : (zsL r v u h).bind K = some res) (hc : M.1[i]? = some (pc, .lastore, len, (x, y, z, w), c, tb)) (kk : ∀ h', K h' = some res → zwp d M (i + 1) ls st h' Q) : zwp d M i ls (zl u :: zi v :: zr r :: st) h Q := by
  obtain ⟨h2, e1, e2⟩ := zbind e
  refine zwp.nx ?_ (kk h2 e2)
  rw [zstp hc]
  obtain ⟨a, k, n⟩ := r
  simp only [zsL] at e1
  split at e1
  · rename_i q
    rw [Bool.and_eq_true] at q
    have q1 := Nat.eq_of_beq_eq_true q.1
    subst q1
    simp only [zsem]
    rw [q.2]; cases e1; rfl
  · cases e1
theorem zb_sR {r b : zF} {v : Int32} {K : zH → Option α} (e : (zsR r v b h).bind K = some res) (hc : M.1[i]? = some (pc, .aastore, len, (x, y, z, w), c, tb)) (kk : ∀ h', K h' = some res → zwp d M (i + 1) ls st h' Q) : zwp d M i ls (zr b :: zi v :: zr r :: st) h Q := by
  obtain ⟨h2, e1, e2⟩ := zbind e
  refine zwp.nx ?_ (kk h2 e2)
  rw [zstp hc]
  obtain ⟨a, k, n⟩ := r
  obtain ⟨b1, b2, b3⟩ := b
  simp only [zsR] at e1
  split at e1
  · rename_i q
    rw [Bool.and_eq_true, Bool.and_eq_true] at q
    have q1 := Nat.eq_of_beq_eq_true q.1.1
    have q2 := Nat.eq_of_beq_eq_true q.2
    subst q1
    subst q2
    simp only [zsem]
    rw [q.1.2]; cases e1; rfl
  · cases e1
theorem zb_ln {r : zF} {K : Int32 → Option α} (e : (zln r).bind K = some res) (hc : M.1[i]? = some (pc, .arraylength, len, (x, y, z, w), c, tb)) (kk : ∀ v, K v = some res → zwp d M (i + 1) ls (zi v :: st) h Q) : zwp d M i ls (zr r :: st) h Q := by
  obtain ⟨u, e1, e2⟩ := zbind e
  refine zwp.nx ?_ (kk u e2)
  rw [zstp hc]
  obtain ⟨a, k, n⟩ := r
  simp only [zln] at e1
  simp only [zsem]
  split at e1 <;> cases e1 <;> rfl
theorem zb_dv {a b : Int32} {K : Int32 → Option α} (e : (zdv a b).bind K = some res) (hc : M.1[i]? = some (pc, .idiv, len, (x, y, z, w), c, tb)) (kk : ∀ v, K v = some res → zwp d M (i + 1) ls (zi v :: st) h Q) : zwp d M i ls (zi b :: zi a :: st) h Q := by
  obtain ⟨u, e1, e2⟩ := zbind e
  refine zwp.nx ?_ (kk u e2)
  rw [zstp hc]
  obtain ⟨q, e3⟩ := zcondN e1
  simp only [zsem]
  rw [q, e3]; rfl
theorem zb_re {a b : Int32} {K : Int32 → Option α} (e : (zre a b).bind K = some res) (hc : M.1[i]? = some (pc, .irem, len, (x, y, z, w), c, tb)) (kk : ∀ v, K v = some res → zwp d M (i + 1) ls (zi v :: st) h Q) : zwp d M i ls (zi b :: zi a :: st) h Q := by
  obtain ⟨u, e1, e2⟩ := zbind e
  refine zwp.nx ?_ (kk u e2)
  rw [zstp hc]
  obtain ⟨q, e3⟩ := zcondN e1
  simp only [zsem]
  rw [q, e3]; rfl
theorem zb_cy {a b : zF} {sp dp n : Int32} {K : zH → Option α} (e : (zcy a sp b dp n h).bind K = some res) (hc : M.1[i]? = some (pc, .invokestatic idx, len, (x, y, 2, w), c, tb)) (hr : Nat.ble (zcats st) 8 = true) (kk : ∀ h', K h' = some res → zwp d M (i + 1) ls st h' Q) : zwp d M i ls (zi n :: zi dp :: zr b :: zi sp :: zr a :: st) h Q := by
  obtain ⟨h2, e1, e2⟩ := zbind e
  refine zwp.nx ?_ (kk h2 e2)
  rw [zstp hc]
  obtain ⟨a1, a2, a3⟩ := a
  obtain ⟨b1, b2, b3⟩ := b
  simp only [zcy] at e1
  split at e1
  · rename_i q
    rw [Bool.and_eq_true, Bool.and_eq_true] at q
    have q1 := Nat.eq_of_beq_eq_true q.1.1
    have q2 := Nat.eq_of_beq_eq_true q.1.2
    subst q1
    subst q2
    simp only [zsem]
    rw [q.2, hr]; cases e1; rfl
  · cases e1
theorem zb_nw {K : zF → zH → Option α} (e : zbd (znw x 0 y h) K = some res) (hc : M.1[i]? = some (pc, .new idx, len, (x, y, 0, w), c, tb)) (kk : ∀ r h', K r h' = some res → zwp d M (i + 1) ls (zr r :: st) h' Q) : zwp d M i ls st h Q := by
  refine zwp.nx ?_ (kk _ _ e)
  rw [zstp hc]
  rfl
theorem zb_na {t : ArrayType} {n : Int32} {K : zF → zH → Option α} (e : zbd (znw x y y h) K = some res) (hc : M.1[i]? = some (pc, .newarray t, len, (x, y, z, w), c, tb)) (hn : (n == c.1) = true) (kk : ∀ r h', K r h' = some res → zwp d M (i + 1) ls (zr r :: st) h' Q) : zwp d M i ls (zi n :: st) h Q := by
  refine zwp.nx ?_ (kk _ _ e)
  rw [zstp hc]
  simp only [zsem]
  rw [hn]; rfl
theorem zb_ns {n : Int32} {K : zF → zH → Option α} (e : zbd (znw 24 y y h) K = some res) (hc : M.1[i]? = some (pc, .anewarray idx, len, (x, y, z, w), c, tb)) (hn : (n == c.1) = true) (kk : ∀ r h', K r h' = some res → zwp d M (i + 1) ls (zr r :: st) h' Q) : zwp d M i ls (zi n :: st) h Q := by
  refine zwp.nx ?_ (kk _ _ e)
  rw [zstp hc]
  simp only [zsem]
  rw [hn]; rfl
theorem zb_in {r : zF} {A : Option α} (e : (match Nat.blt r.2.1 30 with
    | true => A
    | false => none) = some res) (hc : M.1[i]? = some (pc, .invokespecial idx, len, (x, y, 1, w), c, tb)) (hr : Nat.ble (zcats st) 8 = true) (kk : A = some res → zwp d M (i + 1) ls st h Q) : zwp d M i ls (zr r :: st) h Q := by
  obtain ⟨a1, a2, a3⟩ := r
  dsimp only at e
  split at e
  · rename_i q
    refine zwp.nx ?_ (kk e)
    rw [zstp hc]
    simp only [zsem]
    rw [q, hr]; rfl
  · cases e
theorem zb_if {p : Prop} [hp : Decidable p] {A B : Option α} (e : (if p then A else B) = some res) (hs : zstep zTX M.1 i ls st h = cond (decide p) (zNx j ls st' h) (zNx j2 ls st' h)) (kt : A = some res → zwp d M j ls st' h Q) (kf : B = some res → zwp d M j2 ls st' h Q) : zwp d M i ls st h Q := by
  by_cases q : p
  · rw [if_pos q] at e
    rw [decide_eq_true q] at hs
    exact zwp.nx hs (kt e)
  · rw [if_neg q] at e
    rw [decide_eq_false q] at hs
    exact zwp.nx hs (kf e)
theorem zb_sw {a v : Int32} {t : Nat} {A B : Option α} (e : (if a = v then A else B) = some res) (kt : A = some res → zwp d M t ls st h Q) (kf : B = some res → zwp d M (zsw tb j a) ls st h Q) : zwp d M (zsw ((v, t) :: tb) j a) ls st h Q := by
  unfold zsw
  by_cases q : a = v
  · rw [if_pos q] at e ⊢
    exact kt e
  · rw [if_neg q] at e ⊢
    exact kf e
theorem zb_rt {t : Nat} {v : Int32} {res : Int32 × zH} (e : zrt t v h = some res) (hs : zstep zTX M.1 i ls [zi v] h = cond (zfit t v) (zRt (some (zi v))) none) : zwp d M i ls [zi v] h (zPi res) := by
  obtain ⟨q, e2⟩ := zcond e
  subst e2
  exact zwp.ret hs q ⟨rfl, rfl⟩
variable {k : Nat} {as : List zV} {b : Bool}
theorem zb_ci {F : Option (Int32 × zH)} {K : Int32 → zH → Option α} (e : zbd F K = some res) (sp : ∀ q, F = some q → zcl d k as h (zPi q)) (hs : zstep zTX M.1 i ls st h = cond b (zCl k as rest) none) (hb : b = true) (kk : ∀ v h', K v h' = some res → zwp (d + 1) M (i + 1) ls (zi v :: rest) h' Q) : zwp (d + 1) M i ls st h Q := by
  cases F with
  | none => cases e
  | some q =>
    refine zwp.cx hs hb (sp q rfl) (fun v h' q1 => ?_) (fun x h' q1 => ?_)
    · obtain ⟨q2, q3⟩ := q1
      cases q2
      subst q3
      exact kk _ _ e
    · cases q1.1
theorem zb_cv {F : Option zH} {K : zH → Option α} (e : F.bind K = some res) (sp : ∀ q, F = some q → zcl d k as h (zPv q)) (hs : zstep zTX M.1 i ls st h = cond b (zCl k as rest) none) (hb : b = true) (kk : ∀ h', K h' = some res → zwp (d + 1) M (i + 1) ls rest h' Q) : zwp (d + 1) M i ls st h Q := by
  obtain ⟨q, e1, e2⟩ := zbind e
  refine zwp.cx hs hb (sp q e1) (fun v h' q1 => ?_) (fun x h' q1 => ?_)
  · obtain ⟨q2, q3⟩ := q1
    cases q2
    subst q3
    exact kk _ e2
  · cases q1.1
theorem zb_cx {F : Option ((Int32 ⊕ Nat) × zH)} {K : Int32 → zH → Option α} {X : Nat → zH → Option α} (e : zbx F K X = some res) (sp : ∀ q, F = some q → zcl d k as h (zPx q)) (hs : zstep zTX M.1 i ls st h = cond b (zCl k as rest) none) (hb : b = true) (kk : ∀ v h', K v h' = some res → zwp (d + 1) M (i + 1) ls (zi v :: rest) h' Q)
    (kx : ∀ x h', X x h' = some res → match zhnd M.2.2 i x with
      | some q => zwp (d + 1) M q.1 (zkil ls q.2) [] h' Q
      | none => M.2.2 = [] ∧ Q (Sum.inr x) h') : zwp (d + 1) M i ls st h Q := by
  cases F with
  | none => cases e
  | some q =>
    refine zwp.cx hs hb (sp q rfl) (fun v h' q1 => ?_) (fun x h' q1 => ?_)
    · obtain ⟨v2 | x2, h2⟩ := q
      · obtain ⟨q2, q3⟩ := q1
        cases q2
        subst q3
        exact kk _ _ e
      · cases q1.1
    · obtain ⟨v2 | x2, h2⟩ := q
      · cases q1.1
      · obtain ⟨q2, q3⟩ := q1
        cases q2
        subst q3
        exact kx _ _ e
theorem zb_cu {F : Option ((Unit ⊕ Nat) × zH)} {K : Unit → zH → Option α} {X : Nat → zH → Option α} (e : zbx F K X = some res) (sp : ∀ q, F = some q → zcl d k as h (zPu q)) (hs : zstep zTX M.1 i ls st h = cond b (zCl k as rest) none) (hb : b = true) (kk : ∀ h', K () h' = some res → zwp (d + 1) M (i + 1) ls rest h' Q)
    (kx : ∀ x h', X x h' = some res → match zhnd M.2.2 i x with
      | some q => zwp (d + 1) M q.1 (zkil ls q.2) [] h' Q
      | none => M.2.2 = [] ∧ Q (Sum.inr x) h') : zwp (d + 1) M i ls st h Q := by
  cases F with
  | none => cases e
  | some q =>
    refine zwp.cx hs hb (sp q rfl) (fun v h' q1 => ?_) (fun x h' q1 => ?_)
    · obtain ⟨v2 | x2, h2⟩ := q
      · obtain ⟨q2, q3⟩ := q1
        cases q2
        subst q3
        exact kk _ e
      · cases q1.1
    · obtain ⟨v2 | x2, h2⟩ := q
      · cases q1.1
      · obtain ⟨q2, q3⟩ := q1
        cases q2
        subst q3
        exact kx _ _ e
end RULES
