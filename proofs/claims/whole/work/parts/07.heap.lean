/-! ===== writes and new cells ===== -/
theorem zws_wI_obj (G : zCx) (ad : Nat → Nat) {h : zH} {a ci len f : Nat} (e : (zK h)[a]? = some (ci, len)) (hc : ci < 12) (hf : f < znf ci) (ht : zisr (zty ci f) = false) (v : Int32) :
    zws G ad (zwI h a f v) = (zws G ad h).set a (ad a, .inr (ci, ((List.range (znf ci)).map (zfv G ad h a ci)).set f (.int v))) := by
  refine zws_set G ad e rfl ?_ ?_
  · rw [zen_obj G ad _ a hc]
    congr 2
    refine zfs_set hf ?_ ?_
    · simp only [zfv, ht]
      show Value.int (zup (zI h) a f v a f) = _
      rw [zup_eq]; simp
    · intro g hg
      simp only [zfv]
      split
      · rfl
      · show Value.int (zup (zI h) a f v a g) = _
        rw [zup_eq]; simp [hg]
  · intro b hb q
    exact zen_congr G q (zup_ne hb) rfl rfl (fun _ _ _ => rfl)
theorem zws_wR_obj (G : zCx) (ad : Nat → Nat) {h : zH} {a ci len f : Nat} (e : (zK h)[a]? = some (ci, len)) (hc : ci < 12) (hf : f < znf ci) (ht : zisr (zty ci f) = true) (v : Option zF) :
    zws G ad (zwR h a f v) = (zws G ad h).set a (ad a, .inr (ci, ((List.range (znf ci)).map (zfv G ad h a ci)).set f (zcv G ad (zq v)))) := by
  refine zws_set G ad e rfl ?_ ?_
  · rw [zen_obj G ad _ a hc]
    congr 2
    refine zfs_set hf ?_ ?_
    · simp only [zfv, ht]
      show zcv G ad (zq (zup (zR h) a f v a f)) = _
      rw [zup_eq]; simp
    · intro g hg
      simp only [zfv]
      split
      · show zcv G ad (zq (zup (zR h) a f v a g)) = _
        rw [zup_eq]; simp [hg]
      · rfl
  · intro b hb q
    exact zen_congr G q rfl (zup_ne hb) rfl (fun _ _ _ => rfl)
theorem zws_wI_arr (G : zCx) (ad : Nat → Nat) {h : zH} {a k len : Nat} (e : (zK h)[a]? = some (k, len)) (hk : k = 20 ∨ k = 21 ∨ k = 22) (j : Nat) (v : Int32) :
    zws G ad (zwI h a j v) = (zws G ad h).set a (ad a, .inl (gA G k, len, .inl (upd (zI h a) j v))) := by
  refine zws_set G ad e rfl ?_ ?_
  · have h1 : zI (zwI h a j v) a = upd (zI h a) j v := zup_eq
    rcases hk with rfl | rfl | rfl <;> simp only [zen, h1]
  · intro b hb q
    exact zen_congr G q (zup_ne hb) rfl rfl (fun _ _ _ => rfl)
theorem zws_wA (G : zCx) (ad : Nat → Nat) {h : zH} {a len : Nat} (e : (zK h)[a]? = some (20, len)) (g : Nat → Int32) :
    zws G ad (zwA h a g) = (zws G ad h).set a (ad a, .inl (gA G 20, len, .inl g)) := by
  refine zws_set G ad e rfl ?_ ?_
  · have h1 : zI (zwA h a g) a = g := zrow_eq
    simp only [zen, h1]
  · intro b hb q
    exact zen_congr G q (zrow_ne hb) rfl rfl (fun _ _ _ => rfl)
theorem zws_wL (G : zCx) (ad : Nat → Nat) {h : zH} {a len : Nat} (e : (zK h)[a]? = some (23, len)) (j : Nat) (v : Int64) :
    zws G ad (zwL h a j v) = (zws G ad h).set a (ad a, .inl (gA G 23, len, .inr (.inl (vp_updL (zL h a) j v)))) := by
  refine zws_set G ad e rfl ?_ ?_
  · have h1 : zL (zwL h a j v) a = vp_updL (zL h a) j v := zup_eq
    simp only [zen, h1]
  · intro b hb q
    exact zen_congr G q rfl rfl (zup_ne hb) (fun _ _ _ => rfl)
theorem zws_wR_arr (G : zCx) (ad : Nat → Nat) {h : zH} {a len : Nat} (e : (zK h)[a]? = some (24, len)) (j : Nat) (r : zF) :
    zws G ad (zwR h a j (some r)) = (zws G ad h).set a (ad a, .inl (gA G 24, len, .inr (.inr (.inr (.inr (va_up (fun i => (zR h a i).map (zad G ad)) j (some (zad G ad r)))))))) := by
  refine zws_set G ad e rfl ?_ ?_
  · have h1 : (fun i => (zR (zwR h a j (some r)) a i).map (zad G ad)) = va_up (fun i => (zR h a i).map (zad G ad)) j (some (zad G ad r)) := by
      funext i
      have h2 : zR (zwR h a j (some r)) a i = if i = j then some r else zR h a i := by
        show zup (zR h) a j (some r) a i = _
        rw [zup_eq]
      rw [h2]
      unfold va_up
      by_cases hi : i = j
      · simp [hi]
      · simp [hi]
    simp only [zen, h1]
  · intro b hb q
    exact zen_congr G q rfl (zup_ne hb) rfl (fun _ _ _ => rfl)
/-- the addresses with one more -/
def zae (ad : Nat → Nat) (n q : Nat) : Nat → Nat := fun j => if j = n then q else ad j
theorem zae_lt {ad : Nat → Nat} {n q j : Nat} (h : j < n) : zae ad n q j = ad j := by
  unfold zae
  rw [if_neg (by omega)]
theorem zae_eq {ad : Nat → Nat} {n q : Nat} : zae ad n q n = q := by
  unfold zae
  rw [if_pos rfl]
theorem zok_app {G : zCx} {ks ext : List (Nat × Nat)} {v : zV} (h : zok G ks v) : zok G (ks ++ ext) v := by
  rcases v with x | x | r
  · trivial
  · trivial
  · cases r with
    | none => trivial
    | some r =>
      obtain ⟨a, k, n⟩ := r
      by_cases h1 : k = 30
      · subst h1; exact h
      by_cases h2 : k = 33
      · subst h2; exact h
      by_cases h3 : k = 31
      · subst h3; exact h
      by_cases h4 : k = 32
      · subst h4; exact h
      by_cases h5 : k = 34
      · subst h5; exact h
      have e1 : ks[a]? = some (k, n) := by
        unfold zok at h
        dsimp only at h
        split at h <;> first | exact h | omega
      have e2 : (ks ++ ext)[a]? = some (k, n) := by rw [List.getElem?_append_left (List.getElem?_eq_some_iff.mp e1).1]; exact e1
      unfold zok
      dsimp only
      split <;> first | exact e2 | omega
theorem zws_al (G : zCx) {ad : Nat → Nat} {h : zH} (hR : ∀ a k r, zR h a k = some r → zok G (zK h) (zr r)) (k len n q : Nat) :
    zws G (zae ad (zK h).length q) (zal h k len n) = zws G ad h ++ [(q, zen G ad (zal h k len n) (zK h).length (k, len))] := by
  have hl : (zK (zal h k len n)).length = (zK h).length + 1 := by simp [zal, zK]
  have hN : zR (zal h k len n) (zK h).length = fun _ => none := zrow_eq
  apply List.ext_getElem?
  intro j
  rcases Nat.lt_trichotomy j (zK h).length with hj | hj | hj
  · rw [List.getElem?_append_left (by rw [zws_len]; exact hj)]
    have e1 : (zK h)[j]? = some ((zK h)[j]) := List.getElem?_eq_getElem hj
    have e2 : (zK (zal h k len n))[j]? = some ((zK h)[j]) := by
      show (zK h ++ [(k, len)])[j]? = _
      rw [List.getElem?_append_left hj, e1]
    rw [zws_get G _ e2, zws_get G ad e1, zae_lt hj]
    have hne : j ≠ (zK h).length := Nat.ne_of_lt hj
    have c1 : zI (zal h k len n) j = zI h j := zrow_ne (f := zI h) hne
    have c2 : zR (zal h k len n) j = zR h j := zrow_ne (f := zR h) hne
    have c3 : zL (zal h k len n) j = zL h j := zrow_ne (f := zL h) hne
    rw [zen_congr G (ad := ad) (h := h) _ c1 c2 c3 (fun i r e => zad_ext (fun j hj => zae_lt hj) (hR j i r e))]
  · subst hj
    rw [List.getElem?_append_right (by rw [zws_len]; exact Nat.le_refl _), zws_len, Nat.sub_self]
    have e2 : (zK (zal h k len n))[(zK h).length]? = some (k, len) := by
      show (zK h ++ [(k, len)])[(zK h).length]? = _
      simp
    rw [zws_get G _ e2, zae_eq]
    rw [zen_congr G (ad := ad) (h := zal h k len n) (k, len) rfl rfl rfl (fun i r e => by rw [hN] at e; cases e)]
    rfl
  · rw [List.getElem?_eq_none (by rw [zws_len, hl]; omega), List.getElem?_eq_none (by rw [List.length_append, zws_len]; simp; omega)]
/-- references behind a new cell -/
theorem zRok_al {G : zCx} {h : zH} (hR : ∀ a k r, zR h a k = some r → zok G (zK h) (zr r)) (k len n : Nat) : ∀ a f r, zR (zal h k len n) a f = some r → zok G (zK (zal h k len n)) (zr r) := by
  intro a f r e
  by_cases ha : a = (zK h).length
  · subst ha
    have h1 : zR (zal h k len n) (zK h).length f = none := by
      show zrow (zR h) (zK h).length (fun _ => none) (zK h).length f = none
      rw [zrow_eq]
    rw [h1] at e; cases e
  · have h1 : zR (zal h k len n) a f = zR h a f := congrFun (zrow_ne (f := zR h) (g := fun _ => none) ha) f
    rw [h1] at e
    exact zok_app (hR a f r e)
theorem zRok_wR {G : zCx} {h : zH} (hR : ∀ a k r, zR h a k = some r → zok G (zK h) (zr r)) {b j : Nat} {v : Option zF} (hv : ∀ r, v = some r → zok G (zK h) (zr r)) : ∀ a f r, zR (zwR h b j v) a f = some r → zok G (zK (zwR h b j v)) (zr r) := by
  intro a f r e
  have h1 : zR (zwR h b j v) a f = if a = b then (if f = j then v else zR h a f) else zR h a f := rfl
  rw [h1] at e
  split at e
  · split at e
    · exact hv r e
    · exact hR a f r e
  · exact hR a f r e
/-! ===== locals and operands ===== -/
theorem zcv_cat {G : zCx} {ad : Nat → Nat} (hO : (gO G).category = 1) (v : zV) : (zcv G ad v).category = zcat v := by
  rcases v with x | x | r
  · rfl
  · rfl
  · cases r with
    | none => rfl
    | some r =>
      unfold zcv
      dsimp only
      split
      · rw [hO]; rfl
      · rfl
theorem zcv_cats {G : zCx} {ad : Nat → Nat} (hO : (gO G).category = 1) (st : List zV) : ((st.map (zcv G ad)).map fun v => v.category).sum = zcats st := by
  induction st with
  | nil => rfl
  | cons v st ih => simp only [List.map_cons, List.sum_cons, zcats, zcv_cat hO] at ih ⊢; rw [ih]
def zLc (G : zCx) (ad : Nat → Nat) (nL : Nat) (ls : zLV) (lc : Array Slot) : Prop := lc.size = nL ∧ lv_wf lc ∧ ls.length = nL ∧ ∀ (i : Nat) (v : zV), ls[i]? = some (some v) → lc[i]? = some (Slot.val (zcv G ad v))
def zpl (G : zCx) (ad : Nat → Nat) (ls : zLV) : List (Nat × Value) := (List.range ls.length).filterMap (fun i => (zget ls i).map (fun v => (i, zcv G ad v)))
theorem zget_some {ls : zLV} {i : Nat} {v : zV} (h : zget ls i = some v) : ls[i]? = some (some v) := by
  unfold zget at h
  split at h
  · rename_i w e
    cases h
    exact e
  · cases h
theorem zget_of {ls : zLV} {i : Nat} {v : zV} (h : ls[i]? = some (some v)) : zget ls i = some v := by
  simp only [zget, h]
theorem zpl_mem {G : zCx} {ad : Nat → Nat} {ls : zLV} {q : Nat × Value} : q ∈ zpl G ad ls ↔ ∃ v, ls[q.1]? = some (some v) ∧ q.2 = zcv G ad v := by
  unfold zpl
  rw [List.mem_filterMap]
  constructor
  · rintro ⟨i, -, h⟩
    cases e : zget ls i with
    | none => rw [e] at h; cases h
    | some v =>
      rw [e] at h
      cases h
      exact ⟨v, zget_some e, rfl⟩
  · rintro ⟨v, h1, h2⟩
    refine ⟨q.1, List.mem_range.mpr (List.getElem?_eq_some_iff.mp h1).1, ?_⟩
    rw [zget_of h1]
    show some (q.1, zcv G ad v) = some q
    rw [← h2]
theorem zLc.has {G : zCx} {ad : Nat → Nat} {nL : Nat} {ls : zLV} {lc : Array Slot} (h : zLc G ad nL ls lc) : lv_has lc nL (zpl G ad ls) := by
  refine ⟨h.1, h.2.1, fun q hq => ?_⟩
  obtain ⟨v, h1, h2⟩ := zpl_mem.mp hq
  rw [h2]
  exact h.2.2.2 _ _ h1
theorem zclr_get {ls : zLV} {i j : Nat} {u : zV} (h : (zclr ls i)[j]? = some (some u)) : ls[j]? = some (some u) ∧ ¬ (j + 1 = i ∧ zcat u = 2) := by
  unfold zclr at h
  split at h
  · exact ⟨h, fun q => by omega⟩
  · rename_i i0
    split at h
    · rename_i w e
      rw [List.getElem?_set] at h
      split at h
      · split at h <;> cases h
      · rename_i hne
        exact ⟨h, fun q => by omega⟩
    · rename_i hne
      refine ⟨h, fun q => ?_⟩
      have hj : j = i0 := by omega
      subst hj
      rcases u with x | x | x
      · exact absurd q.2 (by simp [zcat])
      · exact hne _ h
      · exact absurd q.2 (by simp [zcat])
theorem zclr_len (ls : zLV) (i : Nat) : (zclr ls i).length = ls.length := by
  unfold zclr
  split
  · rfl
  · split
    · exact List.length_set
    · rfl
theorem zst_len (ls : zLV) (i : Nat) (v : zV) : (zst ls i v).length = ls.length := by
  unfold zst
  rw [List.length_set, zclr_len]
theorem zst2_len (ls : zLV) (i : Nat) (v : zV) : (zst2 ls i v).length = ls.length := by
  unfold zst2
  rw [List.length_set, List.length_set, zclr_len]
theorem zst_get {ls : zLV} {i j : Nat} {v u : zV} (h : (zst ls i v)[j]? = some (some u)) : (j = i ∧ u = v) ∨ (j ≠ i ∧ ls[j]? = some (some u) ∧ ¬ (j + 1 = i ∧ zcat u = 2)) := by
  unfold zst at h
  rw [List.getElem?_set] at h
  split at h
  · rename_i e
    subst e
    split at h
    · cases h; exact Or.inl ⟨rfl, rfl⟩
    · cases h
  · rename_i e
    obtain ⟨h1, h2⟩ := zclr_get h
    exact Or.inr ⟨fun q => e q.symm, h1, h2⟩
theorem zst2_get {ls : zLV} {i j : Nat} {v u : zV} (h : (zst2 ls i v)[j]? = some (some u)) : (j = i ∧ u = v) ∨ (j ≠ i ∧ j ≠ i + 1 ∧ ls[j]? = some (some u) ∧ ¬ (j + 1 = i ∧ zcat u = 2)) := by
  unfold zst2 at h
  rw [List.getElem?_set] at h
  split at h
  · rename_i e
    subst e
    split at h
    · cases h; exact Or.inl ⟨rfl, rfl⟩
    · cases h
  · rename_i e
    rw [List.getElem?_set] at h
    split at h
    · split at h <;> cases h
    · rename_i e2
      obtain ⟨h1, h2⟩ := zclr_get h
      exact Or.inr ⟨fun q => e q.symm, fun q => e2 q.symm, h1, h2⟩
theorem zLc.store {G : zCx} {ad : Nat → Nat} {nL : Nat} {ls : zLV} {lc lc' : Array Slot} (hO : (gO G).category = 1) (h : zLc G ad nL ls lc) {i : Nat} {v : zV}
    (hh : lv_has lc' nL ((i, zcv G ad v) :: (zpl G ad ls).filter (fun q => !(q.1 == i) && !(q.1 + 1 == i && q.2.category == 2)))) : zLc G ad nL (zst ls i v) lc' := by
  refine ⟨hh.1, hh.2.1, by rw [zst_len]; exact h.2.2.1, fun j u e => ?_⟩
  rcases zst_get e with ⟨rfl, rfl⟩ | ⟨h1, h2, h3⟩
  · exact hh.2.2 _ List.mem_cons_self
  · refine hh.2.2 (j, zcv G ad u) (List.mem_cons_of_mem _ (List.mem_filter.mpr ⟨zpl_mem.mpr ⟨u, h2, rfl⟩, ?_⟩))
    simp only [zcv_cat hO, Bool.and_eq_true, Bool.not_eq_true', beq_eq_false_iff_ne, ne_eq, Bool.and_eq_false_iff]
    exact ⟨h1, by by_cases q : j + 1 = i; exact Or.inr (fun q2 => h3 ⟨q, q2⟩); exact Or.inl q⟩
theorem zLc.store2 {G : zCx} {ad : Nat → Nat} {nL : Nat} {ls : zLV} {lc lc' : Array Slot} (hO : (gO G).category = 1) (h : zLc G ad nL ls lc) {i : Nat} {v : zV}
    (hh : lv_has lc' nL ((i, zcv G ad v) :: (zpl G ad ls).filter (fun q => !(q.1 == i) && (!(q.1 == i + 1) && !(q.1 + 1 == i && q.2.category == 2))))) : zLc G ad nL (zst2 ls i v) lc' := by
  refine ⟨hh.1, hh.2.1, by rw [zst2_len]; exact h.2.2.1, fun j u e => ?_⟩
  rcases zst2_get e with ⟨rfl, rfl⟩ | ⟨h1, h2, h3, h4⟩
  · exact hh.2.2 _ List.mem_cons_self
  · refine hh.2.2 (j, zcv G ad u) (List.mem_cons_of_mem _ (List.mem_filter.mpr ⟨zpl_mem.mpr ⟨u, h3, rfl⟩, ?_⟩))
    simp only [zcv_cat hO, Bool.and_eq_true, Bool.not_eq_true', beq_eq_false_iff_ne, ne_eq, Bool.and_eq_false_iff]
    exact ⟨h1, h2, by by_cases q : j + 1 = i; exact Or.inr (fun q2 => h4 ⟨q, q2⟩); exact Or.inl q⟩
