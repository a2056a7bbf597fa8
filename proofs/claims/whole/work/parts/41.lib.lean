/-! ===== numbers: what the functions of part 33 compute with, as natural numbers ===== -/
def nM : Int32 := -1
theorem zq_0 : (0 : Int32) = nI 0 := rfl
theorem zq_1 : (1 : Int32) = nI 1 := rfl
theorem zq_2 : (2 : Int32) = nI 2 := rfl
theorem zq_3 : (3 : Int32) = nI 3 := rfl
theorem zq_4 : (4 : Int32) = nI 4 := rfl
theorem zq_5 : (5 : Int32) = nI 5 := rfl
theorem zq_6 : (6 : Int32) = nI 6 := rfl
theorem zq_7 : (7 : Int32) = nI 7 := rfl
theorem zq_8 : (8 : Int32) = nI 8 := rfl
theorem zq_9 : (9 : Int32) = nI 9 := rfl
theorem zq_10 : (10 : Int32) = nI 10 := rfl
theorem zq_12 : (12 : Int32) = nI 12 := rfl
theorem zq_13 : (13 : Int32) = nI 13 := rfl
theorem zq_16 : (16 : Int32) = nI 16 := rfl
theorem zq_18 : (18 : Int32) = nI 18 := rfl
theorem zq_20 : (20 : Int32) = nI 20 := rfl
theorem zq_24 : (24 : Int32) = nI 24 := rfl
theorem zq_30 : (30 : Int32) = nI 30 := rfl
theorem zq_31 : (31 : Int32) = nI 31 := rfl
theorem zq_32 : (32 : Int32) = nI 32 := rfl
theorem zq_38 : (38 : Int32) = nI 38 := rfl
theorem zq_39 : (39 : Int32) = nI 39 := rfl
theorem zq_40 : (40 : Int32) = nI 40 := rfl
theorem zq_41 : (41 : Int32) = nI 41 := rfl
theorem zq_42 : (42 : Int32) = nI 42 := rfl
theorem zq_43 : (43 : Int32) = nI 43 := rfl
theorem zq_45 : (45 : Int32) = nI 45 := rfl
theorem zq_47 : (47 : Int32) = nI 47 := rfl
theorem zq_48 : (48 : Int32) = nI 48 := rfl
theorem zq_57 : (57 : Int32) = nI 57 := rfl
theorem zq_59 : (59 : Int32) = nI 59 := rfl
theorem zq_60 : (60 : Int32) = nI 60 := rfl
theorem zq_61 : (61 : Int32) = nI 61 := rfl
theorem zq_63 : (63 : Int32) = nI 63 := rfl
theorem zq_64 : (64 : Int32) = nI 64 := rfl
theorem zq_96 : (96 : Int32) = nI 96 := rfl
theorem zq_97 : (97 : Int32) = nI 97 := rfl
theorem zq_99 : (99 : Int32) = nI 99 := rfl
theorem zq_100 : (100 : Int32) = nI 100 := rfl
theorem zq_122 : (122 : Int32) = nI 122 := rfl
theorem zq_127 : (127 : Int32) = nI 127 := rfl
theorem zq_255 : (255 : Int32) = nI 255 := rfl
theorem zq_700 : (700 : Int32) = nI 700 := rfl
theorem zq_999 : (999 : Int32) = nI 999 := rfl
theorem zq_1000 : (1000 : Int32) = nI 1000 := rfl
theorem zq_1482 : (1482 : Int32) = nI 1482 := rfl
theorem zq_4095 : (4095 : Int32) = nI 4095 := rfl
theorem zq_9999 : (9999 : Int32) = nI 9999 := rfl
theorem zq_10000 : (10000 : Int32) = nI 10000 := rfl
theorem zq_20000 : (20000 : Int32) = nI 20000 := rfl
theorem zq_20003 : (20003 : Int32) = nI 20003 := rfl
theorem zq_32767 : (32767 : Int32) = nI 32767 := rfl
theorem zq_100000 : (100000 : Int32) = nI 100000 := rfl
theorem zq_m1 : -(nI 1) = nM := rfl
theorem zq_sub {a b : Nat} (h : b ≤ a) : nI a - nI b = nI (a - b) := pk_sub h
theorem zq_ix {α : Type} {k n : Nat} {K : Nat → Option α} (h : k < n) (hn : n < 2 ^ 31) : zix (nI k) n K = K k := by
  unfold zix zin
  rw [nI_clamp (by omega)]
  have h1 : ¬ nI k < 0 := nI_pos (by omega)
  simp [h1, h]
/-- an index that is out -/
theorem zq_ixo {α : Type} {j : Int32} {n : Nat} {K : Nat → Option α} (h : zin j n = false) : zix j n K = none := by
  unfold zix
  rw [h]
theorem zq_pm {n : Nat} (h : 1 ≤ n) : nI n + nM = nI (n - 1) := by
  have := pk_m1 (n - 1)
  rw [show n - 1 + 1 = n by omega] at this
  exact this
theorem zq_of (n : Nat) : Int32.ofNat n = nI n := rfl
theorem zq_toM : nM.toInt = -1 := rfl
theorem zq_eM {n : Nat} (h : n < 2 ^ 31) : (nI n = nM) = False := by
  rw [eq_iff_iff]
  refine ⟨fun e => ?_, False.elim⟩
  have := congrArg Int32.toInt e
  rw [nI_toInt h, zq_toM] at this
  omega
theorem zq_Me {n : Nat} (h : n < 2 ^ 31) : (nM = nI n) = False := by
  rw [eq_iff_iff]
  refine ⟨fun e => ?_, False.elim⟩
  have := congrArg Int32.toInt e
  rw [nI_toInt h, zq_toM] at this
  omega
theorem zq_MM : (nM = nM) = True := eq_self nM
theorem zq_Mlt : nM < nI 0 := by decide
theorem zq_Mle {n : Nat} (h : n < 2 ^ 31) : nM < nI n := by
  rw [fa_lt, nI_toInt h, zq_toM]
  omega
theorem zq_smod : ∀ r, r < 32 → ((nI r &&& nI 31).toBitVec.smod 32).toNat = r := by decide +kernel
theorem zq_shl {r : Nat} (h : r < 31) : nI 1 <<< (nI r &&& nI 31) = nI (2 ^ r) := by
  have e := pk_shlN (n := 1) (nI r &&& nI 31) r (zq_smod r (by omega)) (by
    rw [Nat.one_mul]; exact Nat.pow_lt_pow_right (by omega) (by omega))
  rw [e, Nat.one_mul]
theorem zq_shlN {a r : Nat} (h : r < 31) (h2 : a * 2 ^ r < 2 ^ 32) : nI a <<< (nI r &&& nI 31) = nI (a * 2 ^ r) := pk_shlN (nI r &&& nI 31) r (zq_smod r (by omega)) h2
theorem zq_shr {a r : Nat} (ha : a < 2 ^ 31) (h : r < 31) : nI a >>> (nI r &&& nI 31) = nI (a / 2 ^ r) := pk_shrN ha (nI r &&& nI 31) r (zq_smod r (by omega))
theorem zq_tb (a r : Nat) : a / 2 ^ r &&& 1 = (a.testBit r).toNat := by
  rw [Nat.and_one_is_mod, Nat.testBit_eq_decide_div_mod_eq]
  rcases Nat.mod_two_eq_zero_or_one (a / 2 ^ r) with e | e <;> simp [e]
theorem zq_bit {a r : Nat} (ha : a < 2 ^ 31) (h : r < 31) : (nI a >>> (nI r &&& nI 31)) &&& nI 1 = nI (a.testBit r).toNat := by
  rw [zq_shr ha h, fa_and, zq_tb]
theorem zq_a31 {r : Nat} (h : r < 32) : r &&& 31 = r := by
  have := Nat.and_two_pow_sub_one_eq_mod r 5
  rw [Nat.mod_eq_of_lt h] at this
  exact this
theorem zq_smod2 : ∀ r, r < 32 → ((nI r).toBitVec.smod 32).toNat = r := by decide +kernel
theorem zs_shl {r : Nat} (h : r < 31) : nI 1 <<< nI r = nI (2 ^ r) := by
  have e := pk_shlN (n := 1) (nI r) r (zq_smod2 r (by omega)) (by
    rw [Nat.one_mul]; exact Nat.pow_lt_pow_right (by omega) (by omega))
  rw [e, Nat.one_mul]
theorem zs_shr {a r : Nat} (ha : a < 2 ^ 31) (h : r < 31) : nI a >>> nI r = nI (a / 2 ^ r) := pk_shrN ha (nI r) r (zq_smod2 r (by omega))
theorem zq_tn (b : Bool) : (b.toNat = 1) = (b = true) := by cases b <;> simp
theorem zq_tn0 (b : Bool) : (b.toNat = 0) = (b = false) := by cases b <;> simp
theorem zq_tl (b : Bool) : b.toNat < 2 := by cases b <;> decide
/-- without the bits of another -/
theorem zq_nand (a b : Nat) : nI a &&& (nI b ^^^ nM) = nI (a ^^^ (a &&& b)) := by
  rw [← fb_xorI, ← fa_and]
  apply b_ext
  intro i hi
  rw [b_and, b_xor, b_xor, b_and]
  rw [show bt nM i = true from b_m1 i hi]
  cases bt (nI a) i <;> cases bt (nI b) i <;> rfl
theorem zq_cl {n : Nat} (h : n < 2 ^ 31) : (nI n).toNatClampNeg = n := nI_clamp h
theorem zq_fu {k : Nat} (h : k < 100000) : k < zfu := h
theorem zq_suc {k n : Nat} (h : k < n) : ∃ m, n = m + 1 ∧ k ≤ m := ⟨n - 1, by omega, by omega⟩
/-- any int, as an index -/
theorem zq_any (x : Int32) (n : Nat) (hn : n < 2 ^ 31) : x < nI 0 ∨ nI n ≤ x ∨ ∃ j : Nat, j < n ∧ x = nI j := pk_ix x hn
/-! steps that the kernel needn't unfold -/
theorem zlt_e {α β : Type} (v : β) (K : β → Option α) : zlt v K = K v := Eq.trans rfl rfl
theorem ob_e {α β : Type} (v : β) (K : β → Option α) : (some v).bind K = K v := Eq.trans rfl rfl
theorem zbd_e {α β : Type} (v : β) (h : zH) (K : β → zH → Option α) : zbd (some (v, h)) K = K v h := Eq.trans rfl rfl
theorem zbx_l {α β : Type} (v : β) (h : zH) (K : β → zH → Option α) (X : Nat → zH → Option α) : zbx (some (Sum.inl v, h)) K X = K v h := Eq.trans rfl rfl
theorem zbx_r {α β : Type} (x : Nat) (h : zH) (K : β → zH → Option α) (X : Nat → zH → Option α) : zbx (some (Sum.inr x, h)) K X = X x h := Eq.trans rfl rfl
/-! ===== the heap ===== -/
theorem zI_wI (h : zH) (a k : Nat) (v : Int32) (b j : Nat) : zI (zwI h a k v) b j = if b = a then (if j = k then v else zI h b j) else zI h b j := rfl
theorem zI_wA (h : zH) (a : Nat) (g : Nat → Int32) (b j : Nat) : zI (zwA h a g) b j = if b = a then g j else zI h b j := by
  show zrow (zI h) a g b j = _
  unfold zrow
  rfl
theorem zI_wL (h : zH) (a k : Nat) (v : Int64) : zI (zwL h a k v) = zI h := rfl
theorem zI_wR (h : zH) (a k : Nat) (v : Option zF) : zI (zwR h a k v) = zI h := rfl
theorem zL_wI (h : zH) (a k : Nat) (v : Int32) : zL (zwI h a k v) = zL h := rfl
theorem zL_wA (h : zH) (a : Nat) (g : Nat → Int32) : zL (zwA h a g) = zL h := rfl
theorem zL_wL (h : zH) (a k : Nat) (v : Int64) (b j : Nat) : zL (zwL h a k v) b j = if b = a then (if j = k then v else zL h b j) else zL h b j := rfl
theorem zI_th (h : zH) : zI (zth h) = zI h := rfl
theorem zL_th (h : zH) : zL (zth h) = zL h := rfl
/-- nothing changes but some ints -/
def zfr (A : Nat → Nat → Prop) (h h' : zH) : Prop := zK h' = zK h ∧ zR h' = zR h ∧ zL h' = zL h ∧ zX h' = zX h ∧ zc h' = zc h ∧ zs h' = zs h ∧ ∀ a k, ¬ A a k → zI h' a k = zI h a k
section FR
variable {A B : Nat → Nat → Prop} {h h1 h2 : zH}
theorem zfr.rf (A : Nat → Nat → Prop) (h : zH) : zfr A h h := ⟨rfl, rfl, rfl, rfl, rfl, rfl, fun _ _ _ => rfl⟩
theorem zfr.tr (f : zfr A h h1) (g : zfr A h1 h2) : zfr A h h2 := by
  obtain ⟨a1, a2, a3, a4, a5, a6, a7⟩ := f
  obtain ⟨b1, b2, b3, b4, b5, b6, b7⟩ := g
  exact ⟨b1.trans a1, b2.trans a2, b3.trans a3, b4.trans a4, b5.trans a5, b6.trans a6, fun a k q => (b7 a k q).trans (a7 a k q)⟩
theorem zfr.mo (f : zfr A h h1) (m : ∀ a k, A a k → B a k) : zfr B h h1 := by
  obtain ⟨a1, a2, a3, a4, a5, a6, a7⟩ := f
  exact ⟨a1, a2, a3, a4, a5, a6, fun a k q => a7 a k (fun w => q (m a k w))⟩
theorem zfr.wI (a k : Nat) (v : Int32) (q : A a k) : zfr A h (zwI h a k v) := by
  refine ⟨rfl, rfl, rfl, rfl, rfl, rfl, fun b j n => ?_⟩
  rw [zI_wI]
  split
  · rename_i e
    split
    · rename_i e2; subst e; subst e2; exact absurd q n
    · rfl
  · rfl
theorem zfr.w (f : zfr A h h1) (a k : Nat) (v : Int32) (q : A a k) : zfr A h (zwI h1 a k v) := f.tr (zfr.wI a k v q)
theorem zfr.wA (f : zfr A h h1) (a : Nat) (g : Nat → Int32) (q : ∀ k, A a k ∨ g k = zI h1 a k) : zfr A h (zwA h1 a g) := by
  refine f.tr ⟨rfl, rfl, rfl, rfl, rfl, rfl, fun b j n => ?_⟩
  rw [zI_wA]
  split
  · rename_i e
    subst e
    exact (q j).resolve_left n
  · rfl
theorem zfr.i (f : zfr A h h1) {a k : Nat} (q : ¬ A a k) : zI h1 a k = zI h a k := f.2.2.2.2.2.2 a k q
end FR
/-- one place of a row of numbers is another one -/
def zu (S : Nat → Nat) (k v : Nat) : Nat → Nat := fun j => if j = k then v else S j
theorem zu_eq (S : Nat → Nat) (k v : Nat) : zu S k v k = v := if_pos rfl
theorem zu_ne (S : Nat → Nat) {k j : Nat} (v : Nat) (h : j ≠ k) : zu S k v j = S j := if_neg h
