/-! ===== every run ===== -/
theorem zpop_spec : ∀ (n : Nat) (st acc as rest : List zV), zpop n st acc = some (as, rest) → ∃ bs : List zV, bs.length = n ∧ as = bs ++ acc ∧ st = bs.reverse ++ rest := by
  intro n
  induction n with
  | zero =>
    intro st acc as rest h
    simp only [zpop, Option.some.injEq, Prod.mk.injEq] at h
    obtain ⟨rfl, rfl⟩ := h
    exact ⟨[], rfl, rfl, rfl⟩
  | succ n ih =>
    intro st acc as rest h
    cases st with
    | nil => simp [zpop] at h
    | cons v st =>
      simp only [zpop] at h
      obtain ⟨bs, h1, h2, h3⟩ := ih st (v :: acc) as rest h
      exact ⟨bs ++ [v], by simp [h1], by simp [h2], by simp [h3]⟩
theorem zrecv {G : zCx} {ad : Nat → Nat} {h : zH} {H : Heap} {s : State} {locs : List Loc} (X : zCX G s) (hrep : zRep G ad h H) (hS : va_S (zAf G) s.heap H locs) {a k n : Nat} (hk : k < 12 ∨ k = 30) (hok : zok G (zK h) (zr (a, k, n))) : ∃ q : Nat, zcv G ad (zr (a, k, n)) = .ref q ∧ ∃ cellB : Cell, H[q]? = some cellB ∧ cellB.vm.isStatics = false ∧ s.vm.findClass (zkn k) = some cellB.cls := by
  rcases hk with hk | rfl
  · have ek : (zK h)[a]? = some (k, n) := (zok_new (by omega)).mp hok
    refine ⟨ad a, zcv_new G ad (by omega), ?_⟩
    have ews := zws_get G ad ek
    rw [zen_obj G ad h a hk] at ews
    have := va_recv X.1 hrep.1 (zcls_at k hk) ews
    have e1 : zkn k = (zcls k).1 := by
      unfold zkn
      split
      · omega
      · rfl
    rw [e1]
    exact this
  · have hi : a < 45 := hok
    obtain ⟨cell, h1, h2, h3, -⟩ := (X.2.1 a hi).1.kept hS.2.1
    exact ⟨gS G a, rfl, cell, h1, h2, h3⟩
theorem zkil_len (ls : zLV) (x : Nat) : (zkil ls x).length = ls.length := by
  unfold zkil
  rw [List.length_set, zclr_len]
theorem zkil_get {ls : zLV} {i j : Nat} {u : zV} (h : (zkil ls i)[j]? = some (some u)) : j ≠ i ∧ ls[j]? = some (some u) ∧ ¬ (j + 1 = i ∧ zcat u = 2) := by
  unfold zkil at h
  rw [List.getElem?_set] at h
  split at h
  · split at h <;> cases h
  · rename_i e
    obtain ⟨h1, h2⟩ := zclr_get h
    exact ⟨fun q => e q.symm, h1, h2⟩
theorem zLc.kill {G : zCx} {ad : Nat → Nat} {nL : Nat} {ls : zLV} {lc lc' : Array Slot} (hO : (gO G).category = 1) (h : zLc G ad nL ls lc) {i : Nat} {w : Value}
    (hh : lv_has lc' nL ((i, w) :: (zpl G ad ls).filter (fun q => !(q.1 == i) && !(q.1 + 1 == i && q.2.category == 2)))) : zLc G ad nL (zkil ls i) lc' := by
  refine ⟨hh.1, hh.2.1, by rw [zkil_len]; exact h.2.2.1, fun j u e => ?_⟩
  obtain ⟨h1, h2, h3⟩ := zkil_get e
  refine hh.2.2 (j, zcv G ad u) (List.mem_cons_of_mem _ (List.mem_filter.mpr ⟨zpl_mem.mpr ⟨u, h2, rfl⟩, ?_⟩))
  simp only [zcv_cat hO, Bool.and_eq_true, Bool.not_eq_true', beq_eq_false_iff_ne, ne_eq, Bool.and_eq_false_iff]
  exact ⟨h1, by by_cases q : j + 1 = i; exact Or.inr (fun q2 => h3 ⟨q, q2⟩); exact Or.inl q⟩
theorem zkil_ok {G : zCx} {ks : List (Nat × Nat)} {ls : zLV} {i : Nat} (h : ∀ u, some u ∈ ls → zok G ks u) : ∀ u, some u ∈ zkil ls i → zok G ks u := by
  intro u hu
  obtain ⟨j, hj⟩ := List.getElem?_of_mem hu
  exact h u (List.mem_of_getElem? (zkil_get hj).2.1)
theorem zcv9_spec {a b si ei : Nat} : ∀ (cd : List zA) (k i : Nat) (q : zA), zcv9 a b si ei k cd = true → cd[i]? = some q → ((si ≤ k + i ∧ k + i < ei) ↔ (a ≤ q.1 ∧ q.1 < b)) := by
  intro cd
  induction cd with
  | nil => intro k i q _ h; cases h
  | cons x cd ih =>
    intro k i q h hq
    simp only [zcv9, Bool.and_eq_true, decide_eq_true_eq] at h
    cases i with
    | zero =>
      cases hq
      exact h.1
    | succ i =>
      have := ih (k + 1) i q h.2 hq
      rw [show k + (i + 1) = k + 1 + i by omega]
      exact this
