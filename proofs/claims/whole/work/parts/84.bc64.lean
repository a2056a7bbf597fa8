/-! ===== lN n to 2^64: shifts, and, or, masks, one bit ===== -/
theorem wb_tb (n : Nat) : (lN n).toBitVec = BitVec.ofNat 64 n := rfl
theorem wb_inj {a b : Int64} (h : a.toBitVec = b.toBitVec) : a = b := Int64.toBitVec_inj.mp h
theorem wb_tn {n : Nat} (h : n < 2 ^ 64) : (lN n).toBitVec.toNat = n := by rw [wb_tb, BitVec.toNat_ofNat, Nat.mod_eq_of_lt h]
theorem wb_of (x : Int64) : ∃ n, n < 2 ^ 64 ∧ x = lN n := ⟨x.toBitVec.toNat, x.toBitVec.isLt, wb_inj (by rw [wb_tb]; simp)⟩
theorem wb_of32 (x : Int32) : ∃ n, n < 2 ^ 32 ∧ x = nI n := ⟨x.toBitVec.toNat, x.toBitVec.isLt, Int32.toBitVec_inj.mp (by show _ = BitVec.ofNat 32 _; simp)⟩
theorem wb_c : ∀ k, k < 64 → ((nI k).toInt64 &&& 63) = lN k := by decide +kernel
theorem wb_cu : ∀ k, k < 64 → ((nI k).toInt64.toUInt64 &&& Int64.toUInt64 63) = UInt64.ofNat k := by decide +kernel
theorem wb_sm : ∀ k, k < 64 → (BitVec.ofNat 64 k).smod 64 = BitVec.ofNat 64 k := by decide +kernel
theorem wb_pw {a b : Nat} (h : a ≤ b) : 2 ^ b = 2 ^ a * 2 ^ (b - a) := by rw [← Nat.pow_add]; congr 1; omega
theorem wb_lt2 {a b : Nat} (h : a < b) : 2 ^ a < 2 ^ b := Nat.pow_lt_pow_right (by decide) h
theorem wb_mod (n : Nat) : lN n = lN (n % 2 ^ 64) := wb_inj (by rw [wb_tb, wb_tb]; apply BitVec.eq_of_toNat_eq; rw [BitVec.toNat_ofNat, BitVec.toNat_ofNat, Nat.mod_mod])
theorem wb_shr {n k : Nat} (hn : n < 2 ^ 64) (hk : k < 64) : ((lN n).toUInt64 >>> ((nI k).toInt64.toUInt64 &&& Int64.toUInt64 63)).toInt64 = lN (n / 2 ^ k) := by
  rw [wb_cu k hk]
  apply wb_inj
  apply BitVec.eq_of_toNat_eq
  show ((lN n).toUInt64 >>> UInt64.ofNat k).toNat = (BitVec.ofNat 64 _).toNat
  have h1 : (UInt64.ofNat k).toNat = k := by
    show (BitVec.ofNat 64 k).toNat = k
    rw [BitVec.toNat_ofNat, Nat.mod_eq_of_lt (by omega)]
  have h2 : (lN n).toUInt64.toNat = n := wb_tn hn
  rw [UInt64.toNat_shiftRight, h1, h2, Nat.mod_eq_of_lt hk, Nat.shiftRight_eq_div_pow, BitVec.toNat_ofNat, Nat.mod_eq_of_lt (Nat.lt_of_le_of_lt (Nat.div_le_self _ _) hn)]
theorem wb_shl (n : Nat) {k : Nat} (hk : k < 64) : lN n <<< ((nI k).toInt64 &&& 63) = lN (n * 2 ^ k) := by
  rw [wb_c k hk]
  apply wb_inj
  rw [Int64.toBitVec_shiftLeft, wb_tb, wb_tb, wb_tb, wb_sm k hk]
  apply BitVec.eq_of_toNat_eq
  rw [BitVec.shiftLeft_eq', BitVec.toNat_shiftLeft, BitVec.toNat_ofNat, BitVec.toNat_ofNat, BitVec.toNat_ofNat, Nat.mod_eq_of_lt (show k < 2 ^ 64 by omega), Nat.shiftLeft_eq, Nat.mul_mod, Nat.mod_mod, ← Nat.mul_mod]
theorem wb_and {a b : Nat} (ha : a < 2 ^ 64) (hb : b < 2 ^ 64) : lN a &&& lN b = lN (a &&& b) := by
  apply wb_inj
  rw [Int64.toBitVec_and, wb_tb, wb_tb, wb_tb]
  apply BitVec.eq_of_toNat_eq
  rw [BitVec.toNat_and, BitVec.toNat_ofNat, BitVec.toNat_ofNat, BitVec.toNat_ofNat, Nat.mod_eq_of_lt ha, Nat.mod_eq_of_lt hb, Nat.mod_eq_of_lt (Nat.and_lt_two_pow _ hb)]
theorem wb_or {a b : Nat} (ha : a < 2 ^ 64) (hb : b < 2 ^ 64) : lN a ||| lN b = lN (a ||| b) := by
  apply wb_inj
  rw [Int64.toBitVec_or, wb_tb, wb_tb, wb_tb]
  apply BitVec.eq_of_toNat_eq
  rw [BitVec.toNat_or, BitVec.toNat_ofNat, BitVec.toNat_ofNat, BitVec.toNat_ofNat, Nat.mod_eq_of_lt ha, Nat.mod_eq_of_lt hb, Nat.mod_eq_of_lt (Nat.or_lt_two_pow ha hb)]
theorem wb_mask {n k : Nat} (hn : n < 2 ^ 64) (hk : k < 64) : lN n &&& lN (2 ^ k - 1) = lN (n % 2 ^ k) := by
  rw [wb_and hn (by have := wb_lt2 hk; omega), Nat.and_two_pow_sub_one_eq_mod]
theorem wb_a1 {n : Nat} (hn : n < 2 ^ 64) : lN n &&& 1 = lN (n % 2) := wb_mask (k := 1) hn (by decide)
/-! ===== how many bits a long has ===== -/
def qc1 (a : Int64) : Int64 := a - ((a.toUInt64 >>> ((1 : Int32).toInt64.toUInt64 &&& Int64.toUInt64 63)).toInt64 &&& (6148914691236517205 : Int64))
def qc2 (a : Int64) : Int64 := (a &&& (3689348814741910323 : Int64)) + ((a.toUInt64 >>> ((2 : Int32).toInt64.toUInt64 &&& Int64.toUInt64 63)).toInt64 &&& (3689348814741910323 : Int64))
def qc3 (a : Int64) : Int64 := (a + (a.toUInt64 >>> ((4 : Int32).toInt64.toUInt64 &&& Int64.toUInt64 63)).toInt64) &&& (1085102592571150095 : Int64)
def qc4 (a : Int64) : Int64 := a + (a.toUInt64 >>> ((8 : Int32).toInt64.toUInt64 &&& Int64.toUInt64 63)).toInt64
def qc5 (a : Int64) : Int64 := a + (a.toUInt64 >>> ((16 : Int32).toInt64.toUInt64 &&& Int64.toUInt64 63)).toInt64
def qc6 (a : Int64) : Int64 := a + (a.toUInt64 >>> ((32 : Int32).toInt64.toUInt64 &&& Int64.toUInt64 63)).toInt64
theorem qc_eq (a : Int64) (h : zH) : s_J13_bitCount_95d88 a h = some ((qc6 (qc5 (qc4 (qc3 (qc2 (qc1 a)))))).toInt32 &&& (127 : Int32)) := rfl
def qM (b : Nat) : Nat → Nat
  | 0 => 0
  | k + 1 => b + 256 * qM b k
def qv1 (k n : Nat) : Nat := n - ((n / 2) &&& qM 85 k)
def qv2 (k n : Nat) : Nat := (n &&& qM 51 k) + ((n / 4) &&& qM 51 k)
def qv3 (k n : Nat) : Nat := (n + n / 16) &&& qM 15 k
def qp8 (n : Nat) : Nat := fb_ct (fun i => n.testBit i) 8
def qw1 (a : Nat) : Nat := a - ((a / 2) &&& 85)
def qw2 (a : Nat) : Nat := (a &&& 51) + ((a / 4) &&& 51)
def qw3 (a : Nat) : Nat := (a + a / 16) &&& 15
theorem v_d1 : (List.range 256).all (fun a => (List.range 2).all (fun e => decide ((a / 2 + 128 * e) &&& 85 = (a / 2) &&& 85))) = true := by decide +kernel
theorem v_d2 : (List.range 256).all (fun a => (List.range 4).all (fun e => decide ((a / 4 + 64 * e) &&& 51 = (a / 4) &&& 51))) = true := by decide +kernel
theorem v_d3 : (List.range 69).all (fun a => (List.range 5).all (fun e => decide ((a + a / 16 + 16 * e) &&& 15 = (a + a / 16) &&& 15))) = true := by decide +kernel
theorem v_d4 : (List.range 256).all (fun a => decide (qw1 a < 256 ∧ qw2 (qw1 a) ≤ 68 ∧ qw2 (qw1 a) % 16 ≤ 4 ∧ qw3 (qw2 (qw1 a)) = qp8 a)) = true := by decide +kernel
theorem v_all {p : Nat → Bool} {n : Nat} (h : (List.range n).all p = true) {a : Nat} (ha : a < n) : p a = true := List.all_eq_true.mp h a (List.mem_range.mpr ha)
theorem z_and {a x : Nat} (b y : Nat) (ha : a < 256) (hx : x < 256) : (a + 256 * b) &&& (x + 256 * y) = (a &&& x) + 256 * (b &&& y) := by
  have h1 := Nat.and_mod_two_pow (a := a + 256 * b) (b := x + 256 * y) (n := 8)
  have h2 := Nat.and_div_two_pow (a := a + 256 * b) (b := x + 256 * y) (n := 8)
  rw [show (2 : Nat) ^ 8 = 256 from rfl] at h1 h2
  rw [show (a + 256 * b) % 256 = a by omega, show (x + 256 * y) % 256 = x by omega] at h1
  rw [show (a + 256 * b) / 256 = b by omega, show (x + 256 * y) / 256 = y by omega] at h2
  omega
theorem qM_s (b k : Nat) : qM b (k + 1) = b + 256 * qM b k := rfl
theorem qv1_s {a : Nat} (b k : Nat) (ha : a < 256) : qv1 (k + 1) (a + 256 * b) = qw1 a + 256 * qv1 k b := by
  have e1 : (a + 256 * b) / 2 = (a / 2 + 128 * (b % 2)) + 256 * (b / 2) := by omega
  have e2 : (a / 2 + 128 * (b % 2)) &&& 85 = (a / 2) &&& 85 := of_decide_eq_true (v_all (v_all v_d1 ha) (show b % 2 < 2 by omega))
  have l1 : (a / 2) &&& 85 ≤ a / 2 := Nat.and_le_left
  have l2 : (b / 2) &&& qM 85 k ≤ b / 2 := Nat.and_le_left
  unfold qv1 qw1
  rw [e1, qM_s, z_and _ _ (by omega) (by omega), e2]
  omega
theorem qv2_s {a : Nat} (b k : Nat) (ha : a < 256) : qv2 (k + 1) (a + 256 * b) = qw2 a + 256 * qv2 k b := by
  have e1 : (a + 256 * b) / 4 = (a / 4 + 64 * (b % 4)) + 256 * (b / 4) := by omega
  have e2 : (a / 4 + 64 * (b % 4)) &&& 51 = (a / 4) &&& 51 := of_decide_eq_true (v_all (v_all v_d2 ha) (show b % 4 < 4 by omega))
  unfold qv2 qw2
  rw [e1, qM_s, z_and _ _ (by omega) (by omega), z_and _ _ (by omega) (by omega), e2]
  omega
theorem qv3_s {a : Nat} (b k : Nat) (ha : a ≤ 68) (hb : b % 16 ≤ 4) : qv3 (k + 1) (a + 256 * b) = qw3 a + 256 * qv3 k b := by
  have e1 : (a + 256 * b) + (a + 256 * b) / 16 = (a + a / 16 + 16 * (b % 16)) + 256 * (b + b / 16) := by omega
  have e2 : (a + a / 16 + 16 * (b % 16)) &&& 15 = (a + a / 16) &&& 15 := of_decide_eq_true (v_all (v_all v_d3 (show a < 69 by omega)) (show b % 16 < 5 by omega))
  unfold qv3 qw3
  rw [e1, qM_s, z_and _ _ (by omega) (by omega), e2]
def qBs : Nat → Nat → Nat
  | 0, _ => 0
  | k + 1, n => qp8 (n % 256) + 256 * qBs k (n / 256)
theorem qv_all : ∀ k n, n < 256 ^ k → qv3 k (qv2 k (qv1 k n)) = qBs k n ∧ qv2 k (qv1 k n) % 16 ≤ 4 := by
  intro k
  induction k with
  | zero =>
    intro n hn
    have e : n = 0 := by rw [Nat.pow_zero] at hn; omega
    subst e
    exact ⟨rfl, by decide⟩
  | succ k ih =>
    intro n hn
    have h1 : n / 256 < 256 ^ k := by
      rw [Nat.pow_succ] at hn
      exact Nat.div_lt_of_lt_mul (by rw [Nat.mul_comm]; exact hn)
    have h2 : n % 256 < 256 := Nat.mod_lt _ (by omega)
    obtain ⟨i1, i2⟩ := ih (n / 256) h1
    obtain ⟨d1, d2, d3, d4⟩ := of_decide_eq_true (v_all v_d4 h2)
    have en : n = n % 256 + 256 * (n / 256) := by omega
    have f1 := qv1_s (n / 256) k h2
    rw [← en] at f1
    rw [f1, qv2_s _ _ d1, qv3_s _ _ d2 i2, d4, i1, qBs]
    exact ⟨rfl, by omega⟩
def qPk : Nat → Nat → Nat
  | 0, _ => 0
  | k + 1, n => qp8 (n % 256) + qPk k (n / 256)
theorem qPk_ct : ∀ k n, fb_ct (fun i => n.testBit i) (8 * k) = qPk k n := by
  intro k
  induction k with
  | zero => intro n; rfl
  | succ k ih =>
    intro n
    rw [show 8 * (k + 1) = 8 + 8 * k by omega, fb_ct_split, qPk, ← ih (n / 256)]
    have e1 : fb_ct (fun i => n.testBit i) 8 = qp8 (n % 256) := by
      unfold qp8
      apply fb_ct_cong
      intro i hi
      rw [show (256 : Nat) = 2 ^ 8 from rfl, Nat.testBit_mod_two_pow, decide_eq_true hi, Bool.true_and]
    have e2 : fb_ct (fun i => n.testBit (8 + i)) (8 * k) = fb_ct (fun i => (n / 256).testBit i) (8 * k) := by
      apply fb_ct_cong
      intro i _
      rw [show (256 : Nat) = 2 ^ 8 from rfl, Nat.testBit_div_two_pow, Nat.add_comm]
    rw [e1, e2]
theorem v_dv {a b c : Nat} (h : a < c) : (a + c * b) / c = b := by
  rw [Nat.add_mul_div_left _ _ (by omega), Nat.div_eq_of_lt h, Nat.zero_add]
theorem v_i2 (p0 p1 p2 p3 p4 p5 p6 p7 : Nat) : (p0 + 256 * (p1 + 256 * (p2 + 256 * (p3 + 256 * (p4 + 256 * (p5 + 256 * (p6 + 256 * (p7 + 256 * 0)))))))) + (p1 + 256 * (p2 + 256 * (p3 + 256 * (p4 + 256 * (p5 + 256 * (p6 + 256 * (p7 + 256 * 0))))))) = ((p0 + p1) + 256 * (p1 + p2)) + 65536 * (((p2 + p3) + 256 * (p3 + p4)) + 65536 * (((p4 + p5) + 256 * (p5 + p6)) + 65536 * ((p6 + p7) + 256 * p7))) := by omega
theorem v_i4 (p0 p1 p2 p3 p4 p5 p6 p7 : Nat) : (((p0 + p1) + 256 * (p1 + p2)) + 65536 * (((p2 + p3) + 256 * (p3 + p4)) + 65536 * (((p4 + p5) + 256 * (p5 + p6)) + 65536 * ((p6 + p7) + 256 * p7)))) + (((p2 + p3) + 256 * (p3 + p4)) + 65536 * (((p4 + p5) + 256 * (p5 + p6)) + 65536 * ((p6 + p7) + 256 * p7))) = ((p0 + p1 + p2 + p3) + 256 * (p1 + p2 + p3 + p4) + 65536 * (p2 + p3 + p4 + p5) + 16777216 * (p3 + p4 + p5 + p6)) + 4294967296 * ((p4 + p5 + p6 + p7) + 256 * (p5 + p6 + p7) + 65536 * (p6 + p7) + 16777216 * p7) := by omega
theorem v_i6 (p0 p1 p2 p3 p4 p5 p6 p7 : Nat) : (((p0 + p1 + p2 + p3) + 256 * (p1 + p2 + p3 + p4) + 65536 * (p2 + p3 + p4 + p5) + 16777216 * (p3 + p4 + p5 + p6)) + 4294967296 * ((p4 + p5 + p6 + p7) + 256 * (p5 + p6 + p7) + 65536 * (p6 + p7) + 16777216 * p7)) + ((p4 + p5 + p6 + p7) + 256 * (p5 + p6 + p7) + 65536 * (p6 + p7) + 16777216 * p7) = (p0 + (p1 + (p2 + (p3 + (p4 + (p5 + (p6 + (p7 + 0)))))))) + 128 * (2 * (p1 + p2 + p3 + p4 + p5 + p6 + p7) + 512 * (p2 + p3 + p4 + p5 + p6 + p7) + 131072 * (p3 + p4 + p5 + p6 + p7) + 33554432 * ((p4 + p5 + p6 + p7) + 256 * (p5 + p6 + p7) + 65536 * (p6 + p7) + 16777216 * p7)) := by omega
theorem v_b1 {a b c d : Nat} (ha : a < 65536) (hb : b < 65536) (hc : c < 65536) (hd : d < 10000) : a + 65536 * (b + 65536 * (c + 65536 * d)) < 2 ^ 62 := by omega
theorem v_b2 {a b : Nat} (ha : a < 4294967296) (hb : b < 1000000000) : a + 4294967296 * b < 2 ^ 62 := by omega
theorem v_b3 {a b : Nat} (ha : a < 2 ^ 62) (hb : b < 2 ^ 62) : a + b < 2 ^ 63 := by omega
theorem v_p2 {a b c d : Nat} (ha : a ≤ 8) (hb : b ≤ 8) (hc : c ≤ 8) (hd : d ≤ 8) : (a + b) + 256 * (c + d) < 10000 ∧ (a + b) + 256 * c < 10000 := by omega
theorem v_p4 {a b c d : Nat} (ha : a ≤ 32) (hb : b ≤ 32) (hc : c ≤ 32) (hd : d ≤ 32) : a + 256 * b + 65536 * c + 16777216 * d < 1000000000 := by omega
theorem v_sum {p0 p1 p2 p3 p4 p5 p6 p7 x : Nat} (h0 : p0 ≤ 8) (h1 : p1 ≤ 8) (h2 : p2 ≤ 8) (h3 : p3 ≤ 8) (h4 : p4 ≤ 8) (h5 : p5 ≤ 8) (h6 : p6 ≤ 8) (h7 : p7 ≤ 8) (hx : x = p0 + 256 * (p1 + 256 * (p2 + 256 * (p3 + 256 * (p4 + 256 * (p5 + 256 * (p6 + 256 * (p7 + 256 * 0)))))))) : x + x / 256 < 2 ^ 62 ∧ (x + x / 256) + (x + x / 256) / 65536 < 2 ^ 62 ∧ ((x + x / 256) + (x + x / 256) / 65536) + ((x + x / 256) + (x + x / 256) / 65536) / 4294967296 < 2 ^ 63 ∧ (((x + x / 256) + (x + x / 256) / 65536) + ((x + x / 256) + (x + x / 256) / 65536) / 4294967296) % 128 = p0 + (p1 + (p2 + (p3 + (p4 + (p5 + (p6 + (p7 + 0))))))) := by
  have q1 := v_p2 h0 h1 h1 h2
  have q2 := v_p2 h2 h3 h3 h4
  have q3 := v_p2 h4 h5 h5 h6
  have q4 := v_p2 h6 h7 h7 h7
  have r1 := v_p4 (a := p0 + p1 + p2 + p3) (b := p1 + p2 + p3 + p4) (c := p2 + p3 + p4 + p5) (d := p3 + p4 + p5 + p6) (by clear hx; omega) (by clear hx; omega) (by clear hx; omega) (by clear hx; omega)
  have r2 := v_p4 (a := p4 + p5 + p6 + p7) (b := p5 + p6 + p7) (c := p6 + p7) (d := p7) (by clear hx; omega) (by clear hx; omega) (by clear hx; omega) (by clear hx; omega)
  have s0 : p0 + (p1 + (p2 + (p3 + (p4 + (p5 + (p6 + (p7 + 0))))))) < 128 := by
    clear hx q1 q2 q3 q4 r1 r2
    omega
  have a1 : x / 256 = p1 + 256 * (p2 + 256 * (p3 + 256 * (p4 + 256 * (p5 + 256 * (p6 + 256 * (p7 + 256 * 0)))))) := by
    rw [hx]
    exact v_dv (Nat.lt_of_le_of_lt h0 (by decide))
  have a2 : x + x / 256 = ((p0 + p1) + 256 * (p1 + p2)) + 65536 * (((p2 + p3) + 256 * (p3 + p4)) + 65536 * (((p4 + p5) + 256 * (p5 + p6)) + 65536 * ((p6 + p7) + 256 * p7))) := by
    rw [a1, hx]
    exact v_i2 _ _ _ _ _ _ _ _
  generalize x + x / 256 = y at a2 ⊢
  have a3 : y / 65536 = ((p2 + p3) + 256 * (p3 + p4)) + 65536 * (((p4 + p5) + 256 * (p5 + p6)) + 65536 * ((p6 + p7) + 256 * p7)) := by
    rw [a2]
    exact v_dv (Nat.lt_trans q1.1 (by decide))
  have a4 : y + y / 65536 = ((p0 + p1 + p2 + p3) + 256 * (p1 + p2 + p3 + p4) + 65536 * (p2 + p3 + p4 + p5) + 16777216 * (p3 + p4 + p5 + p6)) + 4294967296 * ((p4 + p5 + p6 + p7) + 256 * (p5 + p6 + p7) + 65536 * (p6 + p7) + 16777216 * p7) := by
    rw [a3, a2]
    exact v_i4 _ _ _ _ _ _ _ _
  have b1 : y < 2 ^ 62 := by
    rw [a2]
    exact v_b1 (Nat.lt_trans q1.1 (by decide)) (Nat.lt_trans q2.1 (by decide)) (Nat.lt_trans q3.1 (by decide)) q4.2
  generalize y + y / 65536 = z at a4 ⊢
  have a5 : z / 4294967296 = (p4 + p5 + p6 + p7) + 256 * (p5 + p6 + p7) + 65536 * (p6 + p7) + 16777216 * p7 := by
    rw [a4]
    exact v_dv (Nat.lt_trans r1 (by decide))
  have b2 : z < 2 ^ 62 := by
    rw [a4]
    exact v_b2 (Nat.lt_trans r1 (by decide)) r2
  have b3 : z / 4294967296 < 2 ^ 62 := Nat.lt_of_le_of_lt (Nat.div_le_self _ _) b2
  have a6 : z + z / 4294967296 = (p0 + (p1 + (p2 + (p3 + (p4 + (p5 + (p6 + (p7 + 0)))))))) + 128 * (2 * (p1 + p2 + p3 + p4 + p5 + p6 + p7) + 512 * (p2 + p3 + p4 + p5 + p6 + p7) + 131072 * (p3 + p4 + p5 + p6 + p7) + 33554432 * ((p4 + p5 + p6 + p7) + 256 * (p5 + p6 + p7) + 65536 * (p6 + p7) + 16777216 * p7)) := by
    rw [a5, a4]
    exact v_i6 _ _ _ _ _ _ _ _
  refine ⟨b1, b2, v_b3 b2 b3, ?_⟩
  rw [a6, Nat.add_mul_mod_self_left, Nat.mod_eq_of_lt s0]
theorem qp8_le (n : Nat) : qp8 n ≤ 8 := fb_ct_le _ 8
theorem qBs_8 (n : Nat) : ∃ p0 p1 p2 p3 p4 p5 p6 p7, p0 ≤ 8 ∧ p1 ≤ 8 ∧ p2 ≤ 8 ∧ p3 ≤ 8 ∧ p4 ≤ 8 ∧ p5 ≤ 8 ∧ p6 ≤ 8 ∧ p7 ≤ 8 ∧ qBs 8 n = p0 + 256 * (p1 + 256 * (p2 + 256 * (p3 + 256 * (p4 + 256 * (p5 + 256 * (p6 + 256 * (p7 + 256 * 0))))))) ∧ qPk 8 n = p0 + (p1 + (p2 + (p3 + (p4 + (p5 + (p6 + (p7 + 0))))))) := by
  refine ⟨qp8 (n % 256), qp8 ((n / 256) % 256), qp8 (((n / 256) / 256) % 256), qp8 ((((n / 256) / 256) / 256) % 256), qp8 (((((n / 256) / 256) / 256) / 256) % 256), qp8 ((((((n / 256) / 256) / 256) / 256) / 256) % 256), qp8 (((((((n / 256) / 256) / 256) / 256) / 256) / 256) % 256), qp8 ((((((((n / 256) / 256) / 256) / 256) / 256) / 256) / 256) % 256), qp8_le _, qp8_le _, qp8_le _, qp8_le _, qp8_le _, qp8_le _, qp8_le _, qp8_le _, ?_, ?_⟩
  · rw [qBs, qBs, qBs, qBs, qBs, qBs, qBs, qBs, qBs]
  · rw [qPk, qPk, qPk, qPk, qPk, qPk, qPk, qPk, qPk]
theorem qM_85 : qM 85 8 = 6148914691236517205 := by decide
theorem qM_51 : qM 51 8 = 3689348814741910323 := by decide
theorem qM_15 : qM 15 8 = 1085102592571150095 := by decide
theorem c_b1 {n : Nat} (hn : n < 2 ^ 64) : qc1 (lN n) = lN (qv1 8 n) ∧ qv1 8 n < 2 ^ 64 := by
  unfold qc1 qv1
  have l1 : (n / 2) &&& qM 85 8 ≤ n := Nat.le_trans Nat.and_le_left (Nat.div_le_self _ _)
  have l2 : n / 2 < 2 ^ 64 := Nat.lt_of_le_of_lt (Nat.div_le_self _ _) hn
  refine ⟨?_, Nat.lt_of_le_of_lt (Nat.sub_le _ _) hn⟩
  rw [show (1 : Int32) = nI 1 from rfl, wb_shr hn (by decide), show (6148914691236517205 : Int64) = lN 6148914691236517205 from rfl, show n / 2 ^ 1 = n / 2 from rfl, wb_and l2 (by decide), ← qM_85, lN_sub l1]
theorem c_b2 {m : Nat} (hm : m < 2 ^ 64) : qc2 (lN m) = lN (qv2 8 m) ∧ qv2 8 m < 2 ^ 63 := by
  unfold qc2 qv2
  have l2 : m / 4 < 2 ^ 64 := Nat.lt_of_le_of_lt (Nat.div_le_self _ _) hm
  have l3 : m &&& qM 51 8 ≤ 3689348814741910323 := by rw [← qM_51]; exact Nat.and_le_right
  have l4 : m / 4 &&& qM 51 8 ≤ 3689348814741910323 := by rw [← qM_51]; exact Nat.and_le_right
  refine ⟨?_, Nat.lt_of_le_of_lt (Nat.add_le_add l3 l4) (by decide)⟩
  rw [show (2 : Int32) = nI 2 from rfl, wb_shr hm (by decide), show (3689348814741910323 : Int64) = lN 3689348814741910323 from rfl, show m / 2 ^ 2 = m / 4 from rfl, wb_and hm (by decide), wb_and l2 (by decide), ← qM_51, lN_add]
theorem c_b3 {m : Nat} (hm : m < 2 ^ 63) : qc3 (lN m) = lN (qv3 8 m) := by
  unfold qc3 qv3
  have l1 : m < 2 ^ 64 := Nat.lt_trans hm (by decide)
  have l2 : m + m / 16 < 2 ^ 64 := by omega
  rw [show (4 : Int32) = nI 4 from rfl, wb_shr l1 (by decide), lN_add, show (1085102592571150095 : Int64) = lN 1085102592571150095 from rfl, show m / 2 ^ 4 = m / 16 from rfl, wb_and l2 (by decide), ← qM_15]
theorem c_b4 {x : Nat} (s1 : x + x / 256 < 2 ^ 62) (s2 : (x + x / 256) + (x + x / 256) / 65536 < 2 ^ 62) {r : Nat} (s4 : (((x + x / 256) + (x + x / 256) / 65536) + ((x + x / 256) + (x + x / 256) / 65536) / 4294967296) % 128 = r) : (qc6 (qc5 (qc4 (lN x)))).toInt32 &&& (127 : Int32) = nI r := by
  have l0 : x < 2 ^ 64 := Nat.lt_of_le_of_lt (Nat.le_add_right _ _) (Nat.lt_trans s1 (by decide))
  unfold qc4
  rw [show (8 : Int32) = nI 8 from rfl, wb_shr l0 (by decide), show x / 2 ^ 8 = x / 256 from rfl, lN_add]
  generalize x + x / 256 = y at s1 s2 s4 ⊢
  unfold qc5
  rw [show (16 : Int32) = nI 16 from rfl, wb_shr (Nat.lt_trans s1 (by decide)) (by decide), show y / 2 ^ 16 = y / 65536 from rfl, lN_add]
  generalize y + y / 65536 = z at s2 s4 ⊢
  unfold qc6
  rw [show (32 : Int32) = nI 32 from rfl, wb_shr (Nat.lt_trans s2 (by decide)) (by decide), show z / 2 ^ 32 = z / 4294967296 from rfl, lN_add, lN_i, show (127 : Int32) = nI (2 ^ 7 - 1) from rfl, fa_mask, show (2 : Nat) ^ 7 = 128 from rfl, s4]
theorem k_bc64 {n : Nat} (hn : n < 2 ^ 64) (h : zH) : s_J13_bitCount_95d88 (lN n) h = some (nI (fb_ct (fun i => n.testBit i) 64)) := by
  obtain ⟨c1, b1⟩ := c_b1 hn
  obtain ⟨c2, b2⟩ := c_b2 b1
  have c3 := c_b3 b2
  obtain ⟨q1, -⟩ := qv_all 8 n (by rw [show (256 : Nat) ^ 8 = 2 ^ 64 from rfl]; exact hn)
  rw [qc_eq, c1, c2, c3, q1]
  obtain ⟨p0, p1, p2, p3, p4, p5, p6, p7, h0, h1, h2, h3, h4, h5, h6, h7, eb, ep⟩ := qBs_8 n
  obtain ⟨s1, s2, s3, s4⟩ := v_sum h0 h1 h2 h3 h4 h5 h6 h7 eb
  have ec := qPk_ct 8 n
  rw [show 8 * 8 = 64 from rfl] at ec
  rw [← ep, ← ec] at s4
  rw [c_b4 s1 s2 s4]
