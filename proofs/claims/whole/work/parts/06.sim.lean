/-! ===== the machine of part 02 and the one of the Statement: what it means that a heap of the first is one of the second ===== -/
/-- what is fixed for a whole run of the law: classes and slots; array classes; where texts, their bytes, the reader's row and the script lie; the thing of which nothing is known; where new cells begin; the script -/
abbrev zCx : Type := va_G × (Nat → ClassId) × (Nat → Nat) × (Nat → Nat) × Nat × Nat × Value × Nat × Nat × (Nat → Int32)
def gD (G : zCx) : va_G := G.1
def gA (G : zCx) : Nat → ClassId := G.2.1
def gS (G : zCx) : Nat → Nat := G.2.2.1
def gV (G : zCx) : Nat → Nat := G.2.2.2.1
def gR (G : zCx) : Nat := G.2.2.2.2.1
def gX (G : zCx) : Nat := G.2.2.2.2.2.1
def gO (G : zCx) : Value := G.2.2.2.2.2.2.1
def gB (G : zCx) : Nat := G.2.2.2.2.2.2.2.1
def gL (G : zCx) : Nat := G.2.2.2.2.2.2.2.2.1
def gx (G : zCx) : Nat → Int32 := G.2.2.2.2.2.2.2.2.2
/-- what may be written: cells from the law's own on -/
def zAf (G : zCx) : Nat → Prop := fun q => gB G ≤ q
def zad (G : zCx) (ad : Nat → Nat) (r : zF) : Nat := match r.2.1 with
  | 30 => gS G r.1
  | 33 => gV G r.1
  | 31 => gR G
  | 32 => gX G
  | 34 => 0
  | _ => ad r.1
def zcv (G : zCx) (ad : Nat → Nat) (v : zV) : Value := match v with
  | Sum.inl x => .int x
  | Sum.inr (Sum.inl x) => .long x
  | Sum.inr (Sum.inr none) => .null
  | Sum.inr (Sum.inr (some r)) => match r.2.1 with
    | 34 => gO G
    | _ => .ref (zad G ad r)
/-- a reference that is there -/
def zok (G : zCx) (ks : List (Nat × Nat)) (v : zV) : Prop := match v with
  | Sum.inr (Sum.inr (some r)) => match r.2.1 with
    | 30 => r.1 < 45
    | 33 => r.1 < 45 ∧ r.2.2 = zbl zTX r.1
    | 31 => True
    | 32 => r.2.2 = gL G
    | 34 => True
    | _ => ks[r.1]? = some r.2
  | _ => True
def zty (ci : Nat) : Nat → FieldType := match ci with
  | 0 => tyX0
  | 1 => tyX1
  | 2 => tyX2
  | 3 => tyX3
  | 4 => tyX4
  | 5 => tyX5
  | 6 => tyX6
  | 7 => tyX7
  | 8 => tyX8
  | 9 => tyX9
  | 10 => tyX10
  | 11 => tyX11
  | _ => fun _ => .int
def znf (ci : Nat) : Nat := match ci with
  | 0 => 1
  | 1 => 6
  | 2 => 8
  | 3 => 11
  | 4 => 15
  | 5 => 3
  | 6 => 11
  | 7 => 3
  | 8 => 9
  | 9 => 4
  | 10 => 16
  | 11 => 68
  | _ => 0
def zisr (t : FieldType) : Bool := match t with
  | .object _ => true
  | .array _ => true
  | _ => false
def zfv (G : zCx) (ad : Nat → Nat) (h : zH) (j ci f : Nat) : Value := match zisr (zty ci f) with
  | true => zcv G ad (zq (zR h j f))
  | false => .int (zI h j f)
def zen (G : zCx) (ad : Nat → Nat) (h : zH) (j : Nat) (kl : Nat × Nat) : va_E := match kl.1 with
  | 20 => .inl (gA G 20, kl.2, .inl (zI h j))
  | 21 => .inl (gA G 21, kl.2, .inl (zI h j))
  | 22 => .inl (gA G 22, kl.2, .inl (zI h j))
  | 23 => .inl (gA G 23, kl.2, .inr (.inl (zL h j)))
  | 24 => .inl (gA G 24, kl.2, .inr (.inr (.inr (.inr (fun i => (zR h j i).map (zad G ad))))))
  | ci => .inr (ci, (List.range (znf ci)).map (zfv G ad h j ci))
def zws (G : zCx) (ad : Nat → Nat) (h : zH) : va_W := (List.range (zK h).length).map (fun j => (ad j, zen G ad h j ((zK h).getD j (0, 0))))
def ztys (G : zCx) : List (ClassId × FieldType) := [(gA G 20, .int), (gA G 21, .byte), (gA G 22, .boolean), (gA G 23, .long), (gA G 24, .object "java/lang/String")]
/-- the heap: its cells, apart; its references are there; String[] holds texts alone; the script is the script -/
def zRep (G : zCx) (ad : Nat → Nat) (h : zH) (H : Heap) : Prop := va_P (gD G) vwCl (zws G ad h) H ∧ va_D (zAf G) (zws G ad h) ∧ (∀ a k r, zR h a k = some r → zok G (zK h) (zr r)) ∧ zX h = gx G ∧ ∀ a k r, zR h a k = some r → r.2.1 ≠ 34
theorem zws_len (G : zCx) (ad : Nat → Nat) (h : zH) : (zws G ad h).length = (zK h).length := by simp [zws]
theorem zws_get (G : zCx) (ad : Nat → Nat) {h : zH} {j : Nat} {kl : Nat × Nat} (e : (zK h)[j]? = some kl) : (zws G ad h)[j]? = some (ad j, zen G ad h j kl) := by
  have hl : j < (zK h).length := (List.getElem?_eq_some_iff.mp e).1
  simp only [zws, List.getElem?_map, List.getElem?_range hl, Option.map_some, List.getD_eq_getElem?_getD, e, Option.getD_some]
/-- the world behind a write: one entry is another one -/
theorem zws_set (G : zCx) (ad : Nat → Nat) {h h' : zH} {j : Nat} {kl : Nat × Nat} {x : va_E} (e : (zK h)[j]? = some kl) (hk : zK h' = zK h) (hx : zen G ad h' j kl = x) (ho : ∀ b, b ≠ j → ∀ q, zen G ad h' b q = zen G ad h b q) : zws G ad h' = (zws G ad h).set j (ad j, x) := by
  have hl : j < (zK h).length := (List.getElem?_eq_some_iff.mp e).1
  apply List.ext_getElem?
  intro n
  rw [List.getElem?_set, zws_len]
  by_cases hn : j = n
  · subst hn
    rw [if_pos rfl, if_pos hl, zws_get G ad (h := h') (kl := kl) (by rw [hk]; exact e), hx]
  · rw [if_neg hn]
    by_cases hn2 : n < (zK h).length
    · have e1 : (zK h)[n]? = some ((zK h)[n]) := List.getElem?_eq_getElem hn2
      rw [zws_get G ad (h := h') (by rw [hk]; exact e1), zws_get G ad (h := h) e1, ho n (fun q => hn q.symm)]
    · have h1 : (zws G ad h').length ≤ n := by rw [zws_len, hk]; omega
      have h2 : (zws G ad h).length ≤ n := by rw [zws_len]; omega
      rw [List.getElem?_eq_none h1, List.getElem?_eq_none h2]
theorem zup_ne {α : Type} {f : Nat → Nat → α} {a k : Nat} {v : α} {b : Nat} (hb : b ≠ a) : zup f a k v b = f b := by
  funext j
  simp [zup, hb]
theorem zup_eq {α : Type} {f : Nat → Nat → α} {a k : Nat} {v : α} : zup f a k v a = fun j => if j = k then v else f a j := by
  funext j
  simp [zup]
theorem zrow_ne {α : Type} {f : Nat → Nat → α} {a : Nat} {g : Nat → α} {b : Nat} (hb : b ≠ a) : zrow f a g b = f b := by
  funext j
  simp [zrow, hb]
theorem zrow_eq {α : Type} {f : Nat → Nat → α} {a : Nat} {g : Nat → α} : zrow f a g a = g := by
  funext j
  simp [zrow]
/-- two heaps that hold the same at a cell -/
theorem zen_congr (G : zCx) {ad ad' : Nat → Nat} {h h' : zH} {b : Nat} (q : Nat × Nat) (hi : zI h' b = zI h b) (hr : zR h' b = zR h b) (hl : zL h' b = zL h b) (hv : ∀ i r, zR h b i = some r → zad G ad' r = zad G ad r) : zen G ad' h' b q = zen G ad h b q := by
  have hc : ∀ f, zcv G ad' (zq (zR h b f)) = zcv G ad (zq (zR h b f)) := by
    intro f
    cases e : zR h b f with
    | none => rfl
    | some r =>
      simp only [zcv]
      split
      · rfl
      · rw [hv f r e]
  have hf : ∀ ci f, zfv G ad' h' b ci f = zfv G ad h b ci f := by
    intro ci f
    simp only [zfv, hi, hr, hc]
  unfold zen
  split
  · rw [hi]
  · rw [hi]
  · rw [hi]
  · rw [hl]
  · have e9 : (fun i => (zR h' b i).map (zad G ad')) = fun i => (zR h b i).map (zad G ad) := by
      funext i
      rw [hr]
      cases e : zR h b i with
      | none => rfl
      | some r => simp only [Option.map_some, hv i r e]
    rw [e9]
  · congr 2
    exact List.map_congr_left (fun f _ => hf _ f)
theorem zfs_get {ci f : Nat} (hf : f < znf ci) (F : Nat → Value) : ((List.range (znf ci)).map F)[f]? = some (F f) := by
  simp [List.getElem?_map, List.getElem?_range hf]
theorem zfs_set {ci f : Nat} (hf : f < znf ci) {F F' : Nat → Value} {v : Value} (h1 : F' f = v) (h2 : ∀ g, g ≠ f → F' g = F g) : (List.range (znf ci)).map F' = ((List.range (znf ci)).map F).set f v := by
  apply List.ext_getElem?
  intro n
  rw [List.getElem?_set]
  by_cases hn : f = n
  · subst hn
    rw [if_pos rfl, zfs_get hf, if_pos (by simp; exact hf), h1]
  · rw [if_neg hn]
    by_cases hn2 : n < znf ci
    · rw [zfs_get hn2, zfs_get hn2, h2 n (fun q => hn q.symm)]
    · rw [List.getElem?_eq_none (by simp; omega), List.getElem?_eq_none (by simp; omega)]
theorem zen_obj (G : zCx) (ad : Nat → Nat) (h : zH) (j : Nat) {ci len : Nat} (hc : ci < 12) : zen G ad h j (ci, len) = .inr (ci, (List.range (znf ci)).map (zfv G ad h j ci)) := by
  unfold zen
  split <;> first | rfl | (simp only at *; omega)
theorem zad_new (G : zCx) (ad : Nat → Nat) {a k n : Nat} (hk : k < 30) : zad G ad (a, k, n) = ad a := by
  unfold zad
  split <;> first | rfl | (simp only at *; omega)
theorem zcv_new (G : zCx) (ad : Nat → Nat) {a k n : Nat} (hk : k < 30) : zcv G ad (zr (a, k, n)) = .ref (ad a) := by
  unfold zcv
  dsimp only
  split
  · omega
  · rw [zad_new G ad hk]
theorem zok_new {G : zCx} {ks : List (Nat × Nat)} {a k n : Nat} (hk : k < 30) : zok G ks (zr (a, k, n)) ↔ ks[a]? = some (k, n) := by
  unfold zok
  dsimp only
  split <;> first | exact Iff.rfl | omega
/-- a new address at the end changes nothing of what is there -/
theorem zad_ext {G : zCx} {ad ad' : Nat → Nat} {ks : List (Nat × Nat)} (ha : ∀ j, j < ks.length → ad' j = ad j) {r : zF} (hr : zok G ks (zr r)) : zad G ad' r = zad G ad r := by
  obtain ⟨a, k, n⟩ := r
  by_cases h1 : k = 30
  · subst h1; rfl
  by_cases h2 : k = 33
  · subst h2; rfl
  by_cases h3 : k = 31
  · subst h3; rfl
  by_cases h4 : k = 32
  · subst h4; rfl
  by_cases h5 : k = 34
  · subst h5
    rfl
  · have h6 : ks[a]? = some (k, n) := by
      unfold zok at hr
      dsimp only at hr
      split at hr <;> first | exact hr | omega
    have h7 : a < ks.length := (List.getElem?_eq_some_iff.mp h6).1
    unfold zad
    split <;> first | rfl | exact ha a h7
