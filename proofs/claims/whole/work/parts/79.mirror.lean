/-! ===== mirrored: rows of bits ===== -/
/-- the bits of t at the ribs of al below r, upwards -/
def qLb (t al : Nat) : Nat → List Bool
  | 0 => []
  | r + 1 => if al.testBit r = true then qLb t al r ++ [t.testBit r] else qLb t al r
def qVl : List Bool → Nat
  | [] => 0
  | b :: l => b.toNat + 2 * qVl l
theorem qVl_app (l : List Bool) (b : Bool) : qVl (l ++ [b]) = qVl l + b.toNat * 2 ^ l.length := by
  induction l with
  | nil => show b.toNat + 2 * 0 = 0 + b.toNat * 1; omega
  | cons a l ih =>
    show a.toNat + 2 * qVl (l ++ [b]) = (a.toNat + 2 * qVl l) + b.toNat * 2 ^ (l.length + 1)
    rw [ih, Nat.pow_succ, Nat.mul_add, Nat.add_assoc, show b.toNat * (2 ^ l.length * 2) = 2 * (b.toNat * 2 ^ l.length) by rw [← Nat.mul_assoc]; omega]
theorem qVl_lt (l : List Bool) : qVl l < 2 ^ l.length := by
  induction l with
  | nil => exact Nat.one_pos
  | cons a l ih =>
    show a.toNat + 2 * qVl l < 2 ^ (l.length + 1)
    have := Bool.toNat_le a
    rw [Nat.pow_succ]; omega
theorem qVl_inj : ∀ l k : List Bool, l.length = k.length → qVl l = qVl k → l = k := by
  intro l
  induction l with
  | nil => intro k e _; exact (List.eq_nil_of_length_eq_zero e.symm).symm
  | cons a l ih =>
    intro k e v
    cases k with
    | nil => exact absurd e (by simp)
    | cons b k =>
      have v : a.toNat + 2 * qVl l = b.toNat + 2 * qVl k := v
      have la := Bool.toNat_le a
      have lb := Bool.toNat_le b
      have e1 : a.toNat = b.toNat := by omega
      have e2 : qVl l = qVl k := by omega
      rw [ih k (Nat.succ.inj e) e2, show a = b by cases a <;> cases b <;> first | rfl | (exact absurd e1 (by decide))]
theorem qLb_len (t u al : Nat) : ∀ r, (qLb t al r).length = (qLb u al r).length := by
  intro r
  induction r with
  | zero => rfl
  | succ r ih =>
    rw [qLb, qLb]
    split
    · rw [List.length_append, List.length_append, ih]; rfl
    · exact ih
theorem qLb_le (t al : Nat) : ∀ r, (qLb t al r).length ≤ r := by
  intro r
  induction r with
  | zero => exact Nat.le_refl _
  | succ r ih =>
    rw [qLb]
    split
    · rw [List.length_append]; exact Nat.succ_le_succ ih
    · omega
section MI
variable {p R V al : Nat} {T : Nat → Nat} {h : zH}
theorem k_clo (hR : R ≤ 12) (hV : V ≤ 8) (h6 : zI h p 6 = nI R) (hT : ∀ v, v < V → zI h (p + 2) v = nI (T v)) (hb : ∀ v, v < V → T v < 4096) (ha : al < 4096) {v : Nat} (hv : v < V) : ∀ k r n, r + k = R → k < n → s_X7_closedUp_L6 p n (nI al) (nI v) (nI (qVl (qLb (T v) al r))) (nI (qLb (T v) al r).length) (nI r) h = some (nI (qVl (qLb (T v) al R))) := by
  intro k
  induction k with
  | zero =>
    intro r n e hn
    obtain ⟨n, rfl, -⟩ := zq_suc hn
    have e2 : r = R := by omega
    rw [s_X7_closedUp_L6, h6, if_pos (nI_le (by omega) (by omega)), e2]
  | succ k ih =>
    intro r n e hn
    obtain ⟨n, rfl, hn2⟩ := zq_suc hn
    have ih1 := ih (r + 1) n (by omega) (by omega)
    have eb : (nI al >>> (nI r &&& 31)) &&& (1 : Int32) = nI (al.testBit r).toNat := zq_bit (by omega) (by omega)
    have bv := hb v hv
    have et : (nI (T v) >>> (nI r &&& 31)) &&& (1 : Int32) = nI ((T v).testBit r).toNat := zq_bit (by omega) (by omega)
    have ll := qLb_le (T v) al r
    have lt := qVl_lt (qLb (T v) al r)
    rw [qLb] at ih1
    rw [s_X7_closedUp_L6, h6, if_neg (nI_ge (by omega) (by omega)), eb, show nI r + 1 = nI (r + 1) from nI_1 r]
    cases hq : al.testBit r with
    | false =>
      rw [hq, if_neg (by decide)] at ih1
      rw [if_pos (by decide)]
      exact ih1
    | true =>
      rw [hq, if_pos rfl, qVl_app, List.length_append] at ih1
      have tb := Bool.toNat_le ((T v).testBit r)
      have pw : 2 ^ (qLb (T v) al r).length ≤ 2 ^ 12 := Nat.pow_le_pow_right (by omega) (by omega)
      have mb : ((T v).testBit r).toNat * 2 ^ (qLb (T v) al r).length ≤ 1 * 2 ^ 12 := Nat.mul_le_mul tb pw
      rw [if_neg (by decide), zq_ix (show v < 8 by omega) (by omega), hT v hv, et, show nI ((T v).testBit r).toNat <<< (nI (qLb (T v) al r).length &&& 31) = nI (((T v).testBit r).toNat * 2 ^ (qLb (T v) al r).length) from zq_shlN (by omega) (by omega), fa_or, show qVl (qLb (T v) al r) ||| ((T v).testBit r).toNat * 2 ^ (qLb (T v) al r).length = qVl (qLb (T v) al r) + ((T v).testBit r).toNat * 2 ^ (qLb (T v) al r).length from by
        rw [Nat.or_comm, Nat.mul_comm, ← Nat.two_pow_add_eq_or_of_lt lt, Nat.add_comm], show nI (qLb (T v) al r).length + 1 = nI ((qLb (T v) al r).length + 1) from nI_1 _]
      exact ih1
theorem k_clos (hR : R ≤ 12) (hV : V ≤ 8) (h6 : zI h p 6 = nI R) (hT : ∀ v, v < V → zI h (p + 2) v = nI (T v)) (hb : ∀ v, v < V → T v < 4096) (ha : al < 4096) {v : Nat} (hv : v < V) : s_X7_closedUp p (nI al) (nI v) h = some (nI (qVl (qLb (T v) al R))) := k_clo hR hV h6 hT hb ha hv R 0 zfu (by omega) (zq_fu (by omega))
theorem k_turn (hR : R ≤ 12) (hV : V ≤ 8) (h6 : zI h p 6 = nI R) (hT : ∀ v, v < V → zI h (p + 2) v = nI (T v)) (hb : ∀ v, v < V → T v < 4096) (ha : al < 4096) {v : Nat} (hv : v < V) : ∀ k r n, r + k = R → k < n → s_X7_mirrorOf_L4 p n (nI al) (nI v) (nI (qVl (qLb (T v) al r).reverse)) (nI r) h = s_X7_mirrorOf_L32 p zfu (nI al) (nI (qVl (qLb (T v) al R).reverse)) 0 h := by
  intro k
  induction k with
  | zero =>
    intro r n e hn
    obtain ⟨n, rfl, -⟩ := zq_suc hn
    have e2 : r = R := by omega
    rw [s_X7_mirrorOf_L4, h6, if_pos (nI_le (by omega) (by omega)), e2]
  | succ k ih =>
    intro r n e hn
    obtain ⟨n, rfl, hn2⟩ := zq_suc hn
    have ih1 := ih (r + 1) n (by omega) (by omega)
    have eb : (nI al >>> (nI r &&& 31)) &&& (1 : Int32) = nI (al.testBit r).toNat := zq_bit (by omega) (by omega)
    have bv := hb v hv
    have et : (nI (T v) >>> (nI r &&& 31)) &&& (1 : Int32) = nI ((T v).testBit r).toNat := zq_bit (by omega) (by omega)
    rw [qLb] at ih1
    rw [s_X7_mirrorOf_L4, h6, if_neg (nI_ge (by omega) (by omega)), eb, show nI r + 1 = nI (r + 1) from nI_1 r]
    cases hq : al.testBit r with
    | false =>
      rw [hq, if_neg (by decide)] at ih1
      rw [if_pos (by decide)]
      exact ih1
    | true =>
      rw [hq, if_pos rfl, List.reverse_append, show [(T v).testBit r].reverse ++ (qLb (T v) al r).reverse = (T v).testBit r :: (qLb (T v) al r).reverse from rfl, qVl] at ih1
      rw [if_neg (by decide), zq_ix (show v < 8 by omega) (by omega), hT v hv, et, show (2 : Int32) * nI (qVl (qLb (T v) al r).reverse) = nI (2 * qVl (qLb (T v) al r).reverse) from pk_mul 2 _, nI_add, Nat.add_comm (2 * qVl (qLb (T v) al r).reverse)]
      exact ih1
end MI
