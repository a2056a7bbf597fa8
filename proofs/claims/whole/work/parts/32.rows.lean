/-! ===== rows where the references are known ===== -/
/-- fields that hold a reference that changes -/
def zmu (a y : Nat) : Bool := Nat.beq y 3 && Nat.beq a 52
def zRq (h : zH) (ρ : Nat → Nat → Option zF) : Prop := ∀ a y, zmu a y = false → zR h a y = ρ a y
def zρ0 (a y : Nat) : Option zF := match a, y with
  | 0, 0 => some (1, 21, 700)
  | 0, 5 => some (16, 4, 0)
  | 0, 6 => some (18, 2, 0)
  | 0, 9 => some (30, 8, 0)
  | 0, 10 => some (36, 9, 0)
  | 0, 11 => some (39, 1, 0)
  | 0, 12 => some (44, 7, 0)
  | 0, 13 => some (47, 6, 0)
  | 0, 14 => some (50, 0, 0)
  | 0, 15 => some (51, 20, 8)
  | 2, 0 => some (3, 20, 12)
  | 2, 1 => some (4, 20, 8)
  | 2, 2 => some (5, 20, 2)
  | 2, 3 => some (6, 20, 700)
  | 2, 4 => some (7, 5, 0)
  | 2, 5 => some (8, 5, 0)
  | 9, 0 => some (10, 20, 12)
  | 9, 1 => some (11, 20, 8)
  | 9, 2 => some (12, 20, 2)
  | 9, 3 => some (13, 20, 700)
  | 9, 4 => some (14, 5, 0)
  | 9, 5 => some (15, 5, 0)
  | 16, 0 => some (1, 21, 700)
  | 16, 7 => some (17, 20, 100)
  | 18, 0 => some (19, 8, 0)
  | 18, 1 => some (25, 20, 8)
  | 18, 2 => some (26, 20, 8)
  | 18, 3 => some (27, 22, 8)
  | 18, 4 => some (28, 20, 3)
  | 18, 5 => some (29, 20, 1520)
  | 19, 0 => some (20, 20, 12)
  | 19, 1 => some (21, 20, 2)
  | 19, 2 => some (22, 20, 2)
  | 19, 3 => some (23, 20, 9)
  | 19, 4 => some (24, 20, 9)
  | 30, 0 => some (31, 20, 12)
  | 30, 1 => some (32, 20, 2)
  | 30, 2 => some (33, 20, 2)
  | 30, 3 => some (34, 20, 9)
  | 30, 4 => some (35, 20, 9)
  | 36, 0 => some (37, 20, 5)
  | 36, 1 => some (38, 20, 50)
  | 39, 0 => some (40, 20, 60)
  | 39, 1 => some (41, 20, 60)
  | 39, 2 => some (42, 20, 60)
  | 39, 3 => some (43, 20, 12)
  | 44, 0 => some (45, 20, 8)
  | 44, 1 => some (46, 20, 8)
  | 47, 0 => some (36, 9, 0)
  | 47, 1 => some (30, 8, 0)
  | 47, 2 => some (48, 20, 21)
  | 47, 3 => some (49, 23, 1344)
  | 52, 0 => some (53, 24, 2)
  | 52, 1 => some (54, 24, 5)
  | 52, 2 => some (55, 24, 5)
  | 52, 5 => some (56, 20, 12)
  | 52, 6 => some (57, 20, 24)
  | 52, 7 => some (58, 20, 24)
  | 52, 8 => some (59, 20, 16)
  | 52, 9 => some (60, 20, 1400)
  | 52, 10 => some (61, 20, 1400)
  | 52, 11 => some (62, 20, 3)
  | 52, 12 => some (63, 20, 700)
  | 52, 24 => some (64, 20, 12)
  | 52, 25 => some (65, 20, 2)
  | 52, 26 => some (66, 20, 9)
  | 52, 27 => some (67, 20, 9)
  | 52, 28 => some (68, 20, 1520)
  | 52, 37 => some (69, 20, 5)
  | 52, 38 => some (70, 20, 64)
  | 52, 42 => some (71, 20, 38)
  | 52, 43 => some (72, 20, 60)
  | 52, 44 => some (73, 20, 60)
  | 52, 45 => some (74, 20, 60)
  | 52, 47 => some (75, 20, 2048)
  | 52, 48 => some (76, 20, 8)
  | 52, 49 => some (77, 20, 8)
  | 52, 50 => some (78, 20, 38)
  | 52, 51 => some (79, 22, 8)
  | 52, 52 => some (80, 20, 1188)
  | 52, 53 => some (81, 20, 23760)
  | 52, 55 => some (82, 20, 4096)
  | 52, 57 => some (83, 20, 8)
  | 52, 62 => some (84, 20, 38)
  | 52, 63 => some (85, 20, 1520)
  | 52, 64 => some (86, 20, 8)
  | 52, 65 => some (87, 20, 8)
  | 52, 66 => some (88, 20, 3)
  | 52, 67 => some (89, 22, 8)
  | 53, 0 => some (29, 30, 0)
  | 53, 1 => some (30, 30, 0)
  | 54, 0 => some (31, 30, 0)
  | 54, 1 => some (32, 30, 0)
  | 54, 2 => some (33, 30, 0)
  | 54, 3 => some (34, 30, 0)
  | 54, 4 => some (35, 30, 0)
  | 55, 0 => some (36, 30, 0)
  | 55, 1 => some (31, 30, 0)
  | 55, 2 => some (32, 30, 0)
  | 55, 3 => some (37, 30, 0)
  | 55, 4 => some (35, 30, 0)
  | _, _ => none
def zfx (a y : Nat) : Bool := (zρ0 a y).isSome
def zPlS (ρ : Nat → Nat → Option zF) (a : Nat) : Prop := Nat.beq a 52 = false ∧ ρ a 0 = some (a + 1, 20, 12) ∧ ρ a 1 = some (a + 2, 20, 8) ∧ ρ a 2 = some (a + 3, 20, 2) ∧ ρ a 3 = some (a + 4, 20, 700) ∧ ρ a 4 = some (a + 5, 5, 0) ∧ ρ a 5 = some (a + 6, 5, 0)
def zStS (ρ : Nat → Nat → Option zF) (a : Nat) : Prop := Nat.beq a 52 = false ∧ ρ a 0 = some (a + 1, 20, 12) ∧ ρ a 1 = some (a + 2, 20, 2) ∧ ρ a 2 = some (a + 3, 20, 2) ∧ ρ a 3 = some (a + 4, 20, 9) ∧ ρ a 4 = some (a + 5, 20, 9)
def zLdS (ρ : Nat → Nat → Option zF) (a : Nat) : Prop := Nat.beq a 52 = false ∧ ρ a 0 = some (a + 1, 8, 0) ∧ ρ a 1 = some (a + 7, 20, 8) ∧ ρ a 2 = some (a + 8, 20, 8) ∧ ρ a 3 = some (a + 9, 22, 8) ∧ ρ a 4 = some (a + 10, 20, 3) ∧ ρ a 5 = some (a + 11, 20, 1520) ∧ zStS ρ (a + 1)
/-- the references that never change -/
def zSh (ρ : Nat → Nat → Option zF) : Prop := ∀ a y, zfx a y = true → ρ a y = zρ0 a y
theorem zSh_st19 {ρ : Nat → Nat → Option zF} (h : zSh ρ) : zStS ρ 19 := ⟨rfl, h 19 0 rfl, h 19 1 rfl, h 19 2 rfl, h 19 3 rfl, h 19 4 rfl⟩
theorem zSh_st30 {ρ : Nat → Nat → Option zF} (h : zSh ρ) : zStS ρ 30 := ⟨rfl, h 30 0 rfl, h 30 1 rfl, h 30 2 rfl, h 30 3 rfl, h 30 4 rfl⟩
theorem zSh_ld18 {ρ : Nat → Nat → Option zF} (h : zSh ρ) : zLdS ρ 18 := ⟨rfl, h 18 0 rfl, h 18 1 rfl, h 18 2 rfl, h 18 3 rfl, h 18 4 rfl, h 18 5 rfl, zSh_st19 h⟩
theorem zSh_pl2 {ρ : Nat → Nat → Option zF} (h : zSh ρ) : zPlS ρ 2 := ⟨rfl, h 2 0 rfl, h 2 1 rfl, h 2 2 rfl, h 2 3 rfl, h 2 4 rfl, h 2 5 rfl⟩
theorem zSh_pl9 {ρ : Nat → Nat → Option zF} (h : zSh ρ) : zPlS ρ 9 := ⟨rfl, h 9 0 rfl, h 9 1 rfl, h 9 2 rfl, h 9 3 rfl, h 9 4 rfl, h 9 5 rfl⟩
def zlt {α β : Type} (v : β) (K : β → Option α) : Option α := K v
def zix {α : Type} (j : Int32) (n : Nat) (K : Nat → Option α) : Option α := match zin j n with
  | true => K j.toNatClampNeg
  | false => none
def zbo {α : Type} (v : Int32) (A : Option α) : Option α := match zbool v with
  | true => A
  | false => none
def zrp (t : Nat) (v : Int32) : Option Int32 := cond (zfit t v) (some v) none
def zvA {α : Type} (h : zH) (a y : Nat) (K : Nat → Nat → Option α) : Option α := match zR h a y with
  | some (b, k, n) => match Nat.beq k 24 with
    | true => K b n
    | false => none
  | none => none
def zvS {α : Type} (h : zH) (a n : Nat) (j : Int32) (K : Nat → Option α) : Option α := match zin j n with
  | true => match zR h a j.toNatClampNeg with
    | some (b, k, m) => match Nat.beq k 30 && Nat.beq m 0 with
      | true => K b
      | false => none
    | none => none
  | false => none
def zcq {α : Type} (a la : Nat) (sp : Int32) (b lb : Nat) (dp n : Int32) (h : zH) (K : zH → Option α) : Option α := match !(decide (sp < 0)) && !(decide (dp < 0)) && !(decide (n < 0)) && decide (sp.toNatClampNeg + n.toNatClampNeg ≤ la) && decide (dp.toNatClampNeg + n.toNatClampNeg ≤ lb) with
  | true => K (zwA h b (va_cpy (zI h a) (zI h b) sp.toNatClampNeg dp.toNatClampNeg n.toNatClampNeg))
  | false => none
def zQp (h : zH) (v : Int32) : zO → zH → Prop := fun o h' => o = Sum.inl (some (zi v)) ∧ h' = h
def zQn (h : zH) (_ : Unit) : zO → zH → Prop := fun o h' => o = Sum.inl none ∧ h' = h
def zQi (ρ : Nat → Nat → Option zF) (q : Int32 × zH) : zO → zH → Prop := fun o h' => zPi q o h' ∧ zRq h' ρ
def zQv (ρ : Nat → Nat → Option zF) (q : zH) : zO → zH → Prop := fun o h' => zPv q o h' ∧ zRq h' ρ
def zQx (ρ : Nat → Nat → Option zF) (q : (Int32 ⊕ Nat) × zH) : zO → zH → Prop := fun o h' => zPx q o h' ∧ zRq h' ρ
def zQu (ρ : Nat → Nat → Option zF) (q : (Unit ⊕ Nat) × zH) : zO → zH → Prop := fun o h' => zPu q o h' ∧ zRq h' ρ
theorem zmu3 {a : Nat} (h : Nat.beq a 52 = false) : zmu a 3 = false := h
theorem zrf {h : zH} {ρ : Nat → Nat → Option zF} {a y : Nat} {r : zF} (hR : zRq h ρ) (hm : zmu a y = false) (f : ρ a y = some r) : zR h a y = some r := (hR a y hm).trans f
section ROWS
variable {α β : Type} {d : Nat} {M : zM} {i j j2 : Nat} {ls ls' : zLV} {st st' rest : List zV} {h h' : zH} {Q : zO → zH → Prop} {res : α} {ρ : Nat → Nat → Option zF} {a y n : Nat} {v : Int32}
theorem zc_sr {r : zF} (hf : zR h a y = some r) (hs : zstep zTX M.1 i ls st h = zNx (i + 1) ls (zq (zR h a y) :: st') h) (kk : zwp d M (i + 1) ls (zr r :: st') h Q) : zwp d M i ls st h Q := by
  rw [hf] at hs
  exact zwp.nx hs kk
theorem zc_dr {K : zF → Option α} (e : (zR h a y).bind K = some res) (hs : zstep zTX M.1 i ls st h = zNx (i + 1) ls (zq (zR h a y) :: st') h) (kk : ∀ r, K r = some res → zwp d M (i + 1) ls (zr r :: st') h Q) : zwp d M i ls st h Q := by
  obtain ⟨r, e1, e2⟩ := zbind e
  rw [e1] at hs
  exact zwp.nx hs (kk r e2)
theorem zc_va {K : Nat → Nat → Option α} (e : zvA h a y K = some res) (hs : zstep zTX M.1 i ls st h = zNx (i + 1) ls (zq (zR h a y) :: st') h) (kk : ∀ b n, K b n = some res → zwp d M (i + 1) ls (zr (b, 24, n) :: st') h Q) : zwp d M i ls st h Q := by
  unfold zvA at e
  split at e
  · rename_i b k n q
    rw [q] at hs
    split at e
    · rename_i q2
      have q3 := Nat.eq_of_beq_eq_true q2
      subst q3
      exact zwp.nx hs (kk b n e)
    · cases e
  · cases e
theorem zc_vs {st1 : List zV} {j : Int32} {K : Nat → Option α} (e : zvS h a n j K = some res) (hs : ∀ j, zstep zTX M.1 i ls (zi j :: st1) h = cond (zin j n) (zNx (i + 1) ls (zq (zR h a j.toNatClampNeg) :: st') h) none) (kk : ∀ b, K b = some res → zwp d M (i + 1) ls (zr (b, 30, 0) :: st') h Q) : zwp d M i ls (zi j :: st1) h Q := by
  have hs := hs j
  unfold zvS at e
  split at e
  · rename_i q0
    rw [q0] at hs
    split at e
    · rename_i b k m q
      rw [q] at hs
      split at e
      · rename_i q2
        rw [Bool.and_eq_true] at q2
        have q3 := Nat.eq_of_beq_eq_true q2.1
        have q4 := Nat.eq_of_beq_eq_true q2.2
        subst q3
        subst q4
        exact zwp.nx hs (kk b e)
      · cases e
    · cases e
  · cases e
theorem zc_w {K : zH → Option α} (e : zlt (zwI h a n v) K = some res) (hs : zstep zTX M.1 i ls st h = zNx (i + 1) ls st' (zwI h a n v)) (hR : zRq h ρ) (kk : ∀ h', zRq h' ρ → K h' = some res → zwp d M (i + 1) ls st' h' Q) : zwp d M i ls st h Q := zwp.nx hs (kk _ hR e)
theorem zc_wl {u : Int64} {K : zH → Option α} (e : zlt (zwL h a n u) K = some res) (hs : zstep zTX M.1 i ls st h = zNx (i + 1) ls st' (zwL h a n u)) (hR : zRq h ρ) (kk : ∀ h', zRq h' ρ → K h' = some res → zwp d M (i + 1) ls st' h' Q) : zwp d M i ls st h Q := zwp.nx hs (kk _ hR e)
theorem zc_wr {r : Option zF} {K : zH → Option α} (e : zlt (zwR h a y r) K = some res) (hs : zstep zTX M.1 i ls st h = zNx (i + 1) ls st' (zwR h a y r)) (hm : zmu a y = true) (hR : zRq h ρ) (kk : ∀ h', zRq h' ρ → K h' = some res → zwp d M (i + 1) ls st' h' Q) : zwp d M i ls st h Q := by
  refine zwp.nx hs (kk _ (fun b k hb => ?_) e)
  rw [← hR b k hb]
  show (if b = a then (if k = y then r else zR h b k) else zR h b k) = _
  split
  · split
    · rename_i e1 e2; subst e1; subst e2; rw [hm] at hb; cases hb
    · rfl
  · rfl
theorem zc_wb {K : zH → Option α} (e : zbo v (zlt (zwI h a n v) K) = some res) (hs : zstep zTX M.1 i ls st h = cond (zbool v) (zNx (i + 1) ls st' (zwI h a n v)) none) (hR : zRq h ρ) (kk : ∀ h', zRq h' ρ → K h' = some res → zwp d M (i + 1) ls st' h' Q) : zwp d M i ls st h Q := by
  unfold zbo at e
  split at e
  · rename_i q; rw [q] at hs; exact zwp.nx hs (kk _ hR e)
  · cases e
theorem zixs {j : Int32} {K : Nat → Option α} (e : zix j n K = some res) : zin j n = true ∧ K j.toNatClampNeg = some res := by
  unfold zix at e
  split at e
  · rename_i q; exact ⟨q, e⟩
  · cases e
theorem zc_ai {st1 : List zV} {j : Int32} {K : Nat → Option α} (e : zix j n K = some res) (hs : ∀ j, zstep zTX M.1 i ls (zi j :: st1) h = cond (zin j n) (zNx (i + 1) ls (zi (zI h a j.toNatClampNeg) :: st') h) none) (kk : ∀ k, K k = some res → zwp d M (i + 1) ls (zi (zI h a k) :: st') h Q) : zwp d M i ls (zi j :: st1) h Q := by
  have hs := hs j
  obtain ⟨q, e⟩ := zixs e
  rw [q] at hs
  exact zwp.nx hs (kk _ e)
theorem zc_ab {st1 : List zV} {j : Int32} {K : Nat → Option α} (e : zix j n K = some res) (hs : ∀ j, zstep zTX M.1 i ls (zi j :: st1) h = cond (zin j n) (zNx (i + 1) ls (zi (zby zTX a j.toNatClampNeg) :: st') h) none) (kk : ∀ k, K k = some res → zwp d M (i + 1) ls (zi (zby zTX a k) :: st') h Q) : zwp d M i ls (zi j :: st1) h Q := by
  have hs := hs j
  obtain ⟨q, e⟩ := zixs e
  rw [q] at hs
  exact zwp.nx hs (kk _ e)
theorem zc_ak {st1 : List zV} {j : Int32} {K : Nat → Option α} (e : zix j n K = some res) (hs : ∀ j, zstep zTX M.1 i ls (zi j :: st1) h = cond (zin j n) (zNx (i + 1) ls (zi (zrk j.toNatClampNeg) :: st') h) none) (kk : ∀ k, K k = some res → zwp d M (i + 1) ls (zi (zrk k) :: st') h Q) : zwp d M i ls (zi j :: st1) h Q := by
  have hs := hs j
  obtain ⟨q, e⟩ := zixs e
  rw [q] at hs
  exact zwp.nx hs (kk _ e)
theorem zc_al {st1 : List zV} {j : Int32} {K : Nat → Option α} (e : zix j n K = some res) (hs : ∀ j, zstep zTX M.1 i ls (zi j :: st1) h = cond (zin j n) (zNx (i + 1) ls (zl (zL h a j.toNatClampNeg) :: st') h) none) (kk : ∀ k, K k = some res → zwp d M (i + 1) ls (zl (zL h a k) :: st') h Q) : zwp d M i ls (zi j :: st1) h Q := by
  have hs := hs j
  obtain ⟨q, e⟩ := zixs e
  rw [q] at hs
  exact zwp.nx hs (kk _ e)
theorem zc_si {st1 : List zV} {x0 : zV} {j : Int32} {K : zH → Option α} (e : zix j n (fun k => zlt (zwI h a k v) K) = some res) (hs : ∀ j, zstep zTX M.1 i ls (x0 :: zi j :: st1) h = cond (zin j n) (zNx (i + 1) ls st' (zwI h a j.toNatClampNeg v)) none) (hR : zRq h ρ) (kk : ∀ h', zRq h' ρ → K h' = some res → zwp d M (i + 1) ls st' h' Q) : zwp d M i ls (x0 :: zi j :: st1) h Q := by
  have hs := hs j
  obtain ⟨q, e⟩ := zixs e
  rw [q] at hs
  exact zwp.nx hs (kk _ hR e)
theorem zc_sl {st1 : List zV} {x0 : zV} {j : Int32} {u : Int64} {K : zH → Option α} (e : zix j n (fun k => zlt (zwL h a k u) K) = some res) (hs : ∀ j, zstep zTX M.1 i ls (x0 :: zi j :: st1) h = cond (zin j n) (zNx (i + 1) ls st' (zwL h a j.toNatClampNeg u)) none) (hR : zRq h ρ) (kk : ∀ h', zRq h' ρ → K h' = some res → zwp d M (i + 1) ls st' h' Q) : zwp d M i ls (x0 :: zi j :: st1) h Q := by
  have hs := hs j
  obtain ⟨q, e⟩ := zixs e
  rw [q] at hs
  exact zwp.nx hs (kk _ hR e)
theorem zc_cq {la b lb : Nat} {sp dp n : Int32} {K : zH → Option α} (e : zcq a la sp b lb dp n h K = some res) (hs : zstep zTX M.1 i ls (zi n :: zi dp :: zr (b, 20, lb) :: zi sp :: zr (a, 20, la) :: st) h = cond (!(decide (sp < 0)) && !(decide (dp < 0)) && !(decide (n < 0)) && decide (sp.toNatClampNeg + n.toNatClampNeg ≤ la) && decide (dp.toNatClampNeg + n.toNatClampNeg ≤ lb) && Nat.ble (zcats st) 8) (zNx (i + 1) ls st (zwA h b (va_cpy (zI h a) (zI h b) sp.toNatClampNeg dp.toNatClampNeg n.toNatClampNeg))) none) (hr : Nat.ble (zcats st) 8 = true) (hR : zRq h ρ) (kk : ∀ h', zRq h' ρ → K h' = some res → zwp d M (i + 1) ls st h' Q) : zwp d M i ls (zi n :: zi dp :: zr (b, 20, lb) :: zi sp :: zr (a, 20, la) :: st) h Q := by
  unfold zcq at e
  split at e
  · rename_i q; rw [q, hr] at hs; exact zwp.nx hs (kk _ hR e)
  · cases e
theorem zc_rp {t : Nat} {res : Int32} (e : zrp t v = some res) (hs : zstep zTX M.1 i ls [zi v] h = cond (zfit t v) (zRt (some (zi v))) none) : zwp d M i ls [zi v] h (zQp h res) := by
  obtain ⟨q, e2⟩ := zcond e
  subst e2
  exact zwp.ret hs q ⟨rfl, rfl⟩
theorem zc_rt {t : Nat} {res : Int32 × zH} (e : zrt t v h = some res) (hs : zstep zTX M.1 i ls [zi v] h = cond (zfit t v) (zRt (some (zi v))) none) (hR : zRq h ρ) : zwp d M i ls [zi v] h (zQi ρ res) := by
  obtain ⟨q, e2⟩ := zcond e
  subst e2
  exact zwp.ret hs q ⟨⟨rfl, rfl⟩, hR⟩
variable {k : Nat} {as : List zV} {b : Bool}
theorem zc_cp {F : Option Int32} {K : Int32 → Option α} (e : F.bind K = some res) (sp : ∀ q, F = some q → zcl d k as h (zQp h q)) (hs : zstep zTX M.1 i ls st h = cond b (zCl k as rest) none) (hb : b = true) (kk : ∀ v, K v = some res → zwp (d + 1) M (i + 1) ls (zi v :: rest) h Q) : zwp (d + 1) M i ls st h Q := by
  obtain ⟨q, e1, e2⟩ := zbind e
  refine zwp.cx hs hb (sp q e1) (fun v h' q1 => ?_) (fun x h' q1 => ?_)
  · obtain ⟨q2, q3⟩ := q1
    cases q2
    subst q3
    exact kk _ e2
  · cases q1.1
theorem zc_cn {F : Option Unit} {K : Unit → Option α} (e : F.bind K = some res) (sp : ∀ q, F = some q → zcl d k as h (zQn h q)) (hs : zstep zTX M.1 i ls st h = cond b (zCl k as rest) none) (hb : b = true) (kk : K () = some res → zwp (d + 1) M (i + 1) ls rest h Q) : zwp (d + 1) M i ls st h Q := by
  obtain ⟨q, e1, e2⟩ := zbind e
  refine zwp.cx hs hb (sp q e1) (fun v h' q1 => ?_) (fun x h' q1 => ?_)
  · obtain ⟨q2, q3⟩ := q1
    cases q2
    subst q3
    exact kk e2
  · cases q1.1
theorem zc_ci {F : Option (Int32 × zH)} {K : Int32 → zH → Option α} (e : zbd F K = some res) (sp : ∀ q, F = some q → zcl d k as h (zQi ρ q)) (hs : zstep zTX M.1 i ls st h = cond b (zCl k as rest) none) (hb : b = true) (kk : ∀ v h', zRq h' ρ → K v h' = some res → zwp (d + 1) M (i + 1) ls (zi v :: rest) h' Q) : zwp (d + 1) M i ls st h Q := by
  cases F with
  | none => cases e
  | some q =>
    refine zwp.cx hs hb (sp q rfl) (fun v h' q1 => ?_) (fun x h' q1 => ?_)
    · obtain ⟨⟨q2, q3⟩, q4⟩ := q1
      cases q2
      subst q3
      exact kk _ _ q4 e
    · cases q1.1.1
theorem zc_cv {F : Option zH} {K : zH → Option α} (e : F.bind K = some res) (sp : ∀ q, F = some q → zcl d k as h (zQv ρ q)) (hs : zstep zTX M.1 i ls st h = cond b (zCl k as rest) none) (hb : b = true) (kk : ∀ h', zRq h' ρ → K h' = some res → zwp (d + 1) M (i + 1) ls rest h' Q) : zwp (d + 1) M i ls st h Q := by
  obtain ⟨q, e1, e2⟩ := zbind e
  refine zwp.cx hs hb (sp q e1) (fun v h' q1 => ?_) (fun x h' q1 => ?_)
  · obtain ⟨⟨q2, q3⟩, q4⟩ := q1
    cases q2
    subst q3
    exact kk _ q4 e2
  · cases q1.1.1
theorem zc_cx {F : Option ((Int32 ⊕ Nat) × zH)} {K : Int32 → zH → Option α} {X : Nat → zH → Option α} (e : zbx F K X = some res) (sp : ∀ q, F = some q → zcl d k as h (zQx ρ q)) (hs : zstep zTX M.1 i ls st h = cond b (zCl k as rest) none) (hb : b = true) (kk : ∀ v h', zRq h' ρ → K v h' = some res → zwp (d + 1) M (i + 1) ls (zi v :: rest) h' Q)
    (kx : ∀ x h', zRq h' ρ → X x h' = some res → match zhnd M.2.2 i x with
      | some q => zwp (d + 1) M q.1 (zkil ls q.2) [] h' Q
      | none => M.2.2 = [] ∧ Q (Sum.inr x) h') : zwp (d + 1) M i ls st h Q := by
  cases F with
  | none => cases e
  | some q =>
    refine zwp.cx hs hb (sp q rfl) (fun v h' q1 => ?_) (fun x h' q1 => ?_)
    · obtain ⟨v2 | x2, h2⟩ := q
      · obtain ⟨⟨q2, q3⟩, q4⟩ := q1
        cases q2
        subst q3
        exact kk _ _ q4 e
      · cases q1.1.1
    · obtain ⟨v2 | x2, h2⟩ := q
      · cases q1.1.1
      · obtain ⟨⟨q2, q3⟩, q4⟩ := q1
        cases q2
        subst q3
        exact kx _ _ q4 e
theorem zc_cu {F : Option ((Unit ⊕ Nat) × zH)} {K : Unit → zH → Option α} {X : Nat → zH → Option α} (e : zbx F K X = some res) (sp : ∀ q, F = some q → zcl d k as h (zQu ρ q)) (hs : zstep zTX M.1 i ls st h = cond b (zCl k as rest) none) (hb : b = true) (kk : ∀ h', zRq h' ρ → K () h' = some res → zwp (d + 1) M (i + 1) ls rest h' Q)
    (kx : ∀ x h', zRq h' ρ → X x h' = some res → match zhnd M.2.2 i x with
      | some q => zwp (d + 1) M q.1 (zkil ls q.2) [] h' Q
      | none => M.2.2 = [] ∧ Q (Sum.inr x) h') : zwp (d + 1) M i ls st h Q := by
  cases F with
  | none => cases e
  | some q =>
    refine zwp.cx hs hb (sp q rfl) (fun v h' q1 => ?_) (fun x h' q1 => ?_)
    · obtain ⟨v2 | x2, h2⟩ := q
      · obtain ⟨⟨q2, q3⟩, q4⟩ := q1
        cases q2
        subst q3
        exact kk _ q4 e
      · cases q1.1.1
    · obtain ⟨v2 | x2, h2⟩ := q
      · cases q1.1.1
      · obtain ⟨⟨q2, q3⟩, q4⟩ := q1
        cases q2
        subst q3
        exact kx _ _ q4 e
end ROWS
