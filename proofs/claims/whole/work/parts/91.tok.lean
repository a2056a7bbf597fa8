/-! ===== tokens ===== -/
theorem nI_ne {a b : Nat} (n : a ≠ b) (ha : a < 2 ^ 31) (hb : b < 2 ^ 31) : ¬ nI a = nI b := fun e => n ((nI_eq ha hb).mp e)
def qBk (c : Nat) : Bool := decide (c = 32 ∨ c = 10)
def qLet (c : Nat) : Bool := decide (97 ≤ c ∧ c ≤ 122)
def qDig (c : Nat) : Bool := decide (48 ≤ c ∧ c ≤ 57)
def qMrk (c : Nat) : Bool := decide (c = 59 ∨ c = 40 ∨ c = 41 ∨ c = 43 ∨ c = 45 ∨ c = 42 ∨ c = 47 ∨ c = 60 ∨ c = 61)
/-- 1 a blank, 2 a letter, 3 a digit, 4 a sign, 5 nothing -/
def qKi (c : Nat) : Nat := if qBk c = true then 1 else if qLet c = true then 2 else if qDig c = true then 3 else if qMrk c = true then 4 else 5
theorem qKi_b (c : Nat) : 1 ≤ qKi c ∧ qKi c ≤ 5 := by
  unfold qKi
  split
  · omega
  · split
    · omega
    · split
      · omega
      · split <;> omega
def tRw (B : Nat → Nat) (k : Nat) : Nat → Nat → Nat
  | 0, i => i
  | m + 1, i => if qKi (B i) = k then tRw B k m (i + 1) else i
theorem tRw_le (B : Nat → Nat) (k : Nat) : ∀ m i, i ≤ tRw B k m i ∧ tRw B k m i ≤ i + m := by
  intro m
  induction m with
  | zero => intro i; rw [tRw]; omega
  | succ m ih =>
    intro i
    have := ih (i + 1)
    rw [tRw]
    split <;> omega
theorem tRw_in (B : Nat → Nat) (k : Nat) : ∀ m i j, i ≤ j → j < tRw B k m i → qKi (B j) = k := by
  intro m
  induction m with
  | zero => intro i j h1 h2; rw [tRw] at h2; omega
  | succ m ih =>
    intro i j h1 h2
    rw [tRw] at h2
    by_cases q : qKi (B i) = k
    · rw [if_pos q] at h2
      by_cases e : j = i
      · rw [e]; exact q
      · exact ih (i + 1) j (by omega) h2
    · rw [if_neg q] at h2; omega
theorem tRw_out (B : Nat → Nat) (k : Nat) : ∀ m i, tRw B k m i < i + m → qKi (B (tRw B k m i)) ≠ k := by
  intro m
  induction m with
  | zero => intro i h; rw [tRw] at h; omega
  | succ m ih =>
    intro i h
    rw [tRw] at h ⊢
    by_cases q : qKi (B i) = k
    · rw [if_pos q] at h ⊢
      exact ih (i + 1) (by omega)
    · rw [if_neg q]; exact q
def tP (B : Nat → Nat) (N x : Nat) : Nat := tRw B 1 (N - x) x
def tK (B : Nat → Nat) (N x : Nat) : Nat := if tP B N x < N then qKi (B (tP B N x)) else 0
def tE (B : Nat → Nat) (N x : Nat) : Nat := if tK B N x = 0 then tP B N x else if tK B N x = 2 ∨ tK B N x = 3 then tRw B (tK B N x) (N - tP B N x) (tP B N x) else tP B N x + 1
def qDv (B : Nat → Nat) (p : Nat) : Nat → Nat
  | 0 => 0
  | k + 1 => 10 * qDv B p k + (B (p + k) - 48)
def tV (B : Nat → Nat) (N x : Nat) : Nat := qDv B (tP B N x) (if tE B N x - tP B N x < 4 then tE B N x - tP B N x else 4)
section TK
variable {B : Nat → Nat} {N x : Nat}
theorem tP_le (hx : x ≤ N) : x ≤ tP B N x ∧ tP B N x ≤ N := by
  have := tRw_le B 1 (N - x) x
  unfold tP
  omega
theorem tK_0 (hx : x ≤ N) (h : tK B N x = 0) : tP B N x = N := by
  have h1 := tP_le (B := B) hx
  unfold tK at h
  split at h
  · have := qKi_b (B (tP B N x)); omega
  · omega
theorem tK_p (h : tK B N x ≠ 0) : tP B N x < N ∧ tK B N x = qKi (B (tP B N x)) := by
  unfold tK at h ⊢
  split at h
  · rename_i q; exact ⟨q, if_pos q⟩
  · exact absurd rfl h
theorem tK_1 : tK B N x ≠ 1 := by
  intro e
  obtain ⟨h1, h2⟩ := tK_p (B := B) (N := N) (x := x) (by omega)
  have h3 := tRw_le B 1 (N - x) x
  have h4 : tP B N x < x + (N - x) := by unfold tP at h1 ⊢; omega
  exact tRw_out B 1 (N - x) x h4 (by unfold tP at h2; omega)
theorem tK_le : tK B N x ≤ 5 := by
  by_cases q : tK B N x = 0
  · omega
  · rw [(tK_p q).2]; exact (qKi_b _).2
theorem tE_le (hx : x ≤ N) : tP B N x ≤ tE B N x ∧ tE B N x ≤ N ∧ (tK B N x ≠ 0 → tP B N x < tE B N x) := by
  have h1 := tP_le (B := B) hx
  unfold tE
  by_cases q : tK B N x = 0
  · rw [if_pos q]; omega
  · rw [if_neg q]
    obtain ⟨h2, h3⟩ := tK_p q
    by_cases q2 : tK B N x = 2 ∨ tK B N x = 3
    · rw [if_pos q2]
      have h4 := tRw_le B (tK B N x) (N - tP B N x) (tP B N x)
      have h5 : tP B N x + 1 ≤ tRw B (tK B N x) (N - tP B N x) (tP B N x) := by
        rw [show N - tP B N x = (N - tP B N x - 1) + 1 by omega, tRw, if_pos h3.symm]
        exact (tRw_le B _ _ _).1
      omega
    · rw [if_neg q2]; omega
theorem tE_0 (hx : x ≤ N) (h : tK B N x = 0) : tE B N x = N := by
  unfold tE
  rw [if_pos h]; exact tK_0 hx h
theorem tE_1 (hx : x ≤ N) (h : tK B N x ≠ 0) : x + 1 ≤ tE B N x := by
  have h1 := tP_le (B := B) hx
  have h2 := (tE_le (B := B) hx).2.2 h
  omega
theorem tE_w (h : tK B N x = 2 ∨ tK B N x = 3) : tE B N x = tRw B (tK B N x) (N - tP B N x) (tP B N x) := by
  unfold tE
  rw [if_neg (by omega), if_pos h]
theorem tE_s (h : tK B N x = 4 ∨ tK B N x = 5) : tE B N x = tP B N x + 1 := by
  unfold tE
  rw [if_neg (by omega), if_neg (by omega)]
theorem qKi_3 {c : Nat} (h : qKi c = 3) : 48 ≤ c ∧ c ≤ 57 := by
  unfold qKi at h
  split at h
  · omega
  · split at h
    · omega
    · split at h
      · rename_i q; exact of_decide_eq_true q
      · split at h <;> omega
theorem qDv_lt {p : Nat} : ∀ k, (∀ j, j < k → qKi (B (p + j)) = 3) → qDv B p k < 10 ^ k := by
  intro k
  induction k with
  | zero => intro _; rw [qDv]; decide
  | succ k ih =>
    intro h
    have h1 := ih (fun j hj => h j (by omega))
    have h2 := qKi_3 (h k (by omega))
    rw [qDv, Nat.pow_succ]
    omega
theorem tV_lt (h : tK B N x = 3) : tV B N x < 10000 := by
  have e := tE_w (Or.inr h)
  unfold tV
  have hb : ∀ k, k ≤ tE B N x - tP B N x → qDv B (tP B N x) k < 10 ^ k := fun k hk => qDv_lt k (fun j hj => by
    rw [h] at e
    exact tRw_in B 3 (N - tP B N x) (tP B N x) _ (by omega) (by omega))
  split
  · rename_i q
    refine Nat.lt_of_lt_of_le (hb _ (Nat.le_refl _)) ?_
    exact Nat.le_trans (Nat.pow_le_pow_right (by omega) (show tE B N x - tP B N x ≤ 4 by omega)) (by decide)
  · rename_i q
    exact hb 4 (by omega)
end TK
/-! ===== tokens in the class ===== -/
def zTbc (h : zH) (B : Nat → Nat) (N : Nat) : Prop := N ≤ 700 ∧ zI h 16 1 = nI N ∧ ∀ i, i < N → B i < 256 ∧ zI h 1 i = (nI (B i)).toInt8.toInt32
def zTC (h : zH) (B : Nat → Nat) (N x : Nat) : Prop := zI h 16 3 = nI (tP B N x) ∧ zI h 16 4 = nI (tE B N x) ∧ zI h 16 5 = nI (tK B N x) ∧ (tK B N x = 3 → zI h 16 6 = nI (tV B N x))
theorem k_ki1 : (List.range 256).all (fun b => decide (((nI b).toInt8.toInt32 = 32 ↔ b = 32) ∧ ((nI b).toInt8.toInt32 = 10 ↔ b = 10) ∧ ((nI b).toInt8.toInt32 < 97 ∨ 122 < (nI b).toInt8.toInt32 ↔ ¬ (97 ≤ b ∧ b ≤ 122)) ∧ ((nI b).toInt8.toInt32 < 48 ∨ 57 < (nI b).toInt8.toInt32 ↔ ¬ (48 ≤ b ∧ b ≤ 57)) ∧ (((nI b).toInt8.toInt32 &&& (255 : Int32)).toUInt32 % 65536).toInt32 = nI b)) = true := by decide +kernel
theorem k_ki2 : (List.range 256).all (fun b => decide ((List.range 9).any (fun j => decide (zby zTX 1 j = (nI b).toInt8.toInt32)) = qMrk b)) = true := by decide +kernel
theorem k_ioc (x : Int32) (h : zH) : ∀ k i n, i + k = 9 → k < n → ∃ v, s_J1_indexOfChar_4cfef_L5 1 9 n (nI 9) x (nI i) h = some v ∧ (v < 0 ↔ ∀ j, i ≤ j → j < 9 → ¬ zby zTX 1 j = x) := by
  intro k
  induction k with
  | zero =>
    intro i n e hn
    obtain ⟨n, rfl, -⟩ := zq_suc hn
    refine ⟨-1, ?_, fun _ j j1 j2 => by omega, fun _ => by decide⟩
    rw [s_J1_indexOfChar_4cfef_L5, if_pos (nI_le (by omega) (by omega))]
  | succ k ih =>
    intro i n e hn
    obtain ⟨n, rfl, hn2⟩ := zq_suc hn
    rw [s_J1_indexOfChar_4cfef_L5, if_neg (nI_ge (by omega) (by omega)), zq_ix (by omega) (by omega), show nI i + 1 = nI (i + 1) from nI_1 i]
    by_cases q : zby zTX 1 i = x
    · rw [if_neg (fun n => n q)]
      exact ⟨nI i, rfl, fun n => absurd n (nI_pos (by omega)), fun n => absurd q (n i (by omega) (by omega))⟩
    · rw [if_pos q]
      obtain ⟨v, e1, e2⟩ := ih (i + 1) n (by omega) (by omega)
      refine ⟨v, e1, e2.trans ⟨fun g j j1 j2 => ?_, fun g j j1 j2 => g j (by omega) j2⟩⟩
      by_cases z : j = i
      · rw [z]; exact q
      · exact g j (by omega) j2
theorem k_kind {b : Nat} (hb : b < 256) (tp : Nat) (h : zH) : s_X4_kindOf tp (nI b).toInt8.toInt32 h = some (nI (qKi b)) := by
  obtain ⟨k1, k2, k3, k4, k5⟩ := of_decide_eq_true (v_all k_ki1 hb)
  have k6 := of_decide_eq_true (v_all k_ki2 hb)
  have j24 : s_X4_kindOf_J24 tp (nI b).toInt8.toInt32 h = some (nI (if qMrk b = true then 4 else 5)) := by
    rw [s_X4_kindOf_J24, k5, s_J0_indexOf_0f7a4, s_J0_indexOf_7cf53, s_J0_isLatin1_aae02, ob_e, if_neg (by decide), s_J0_length_8abf5, s_J0_coder_7d493, ob_e, ob_e, show (Int32.ofNat (zbl zTX 1)) >>> ((0 : Int32) &&& 31) = nI 9 by decide +kernel, s_J1_indexOf_4cfef, s_J1_canEncode_9a6ad, if_neg (nI_pos (by omega)), if_neg (show ¬ (255 : Int32) < nI b from nI_nlt (a := 255) (by omega) (by omega)), ob_e, if_pos (by decide), show s_J9_max_7cf53 (0 : Int32) 0 h = some (nI 0) from k_max2 (a := 0) (b := 0) (by omega) (by omega) h, ob_e, show zbl zTX 1 = 9 by decide +kernel, show s_J9_min_7cf53 (nI 9) (Int32.ofNat 9) h = some (nI 9) from k_min2 (a := 9) (b := 9) (by omega) (by omega) h, ob_e, if_pos (by decide), s_J1_indexOfChar_4cfef]
    obtain ⟨v, e1, e2⟩ := k_ioc (nI b).toInt8.toInt32 h 9 0 zfu (by omega) (zq_fu (by omega))
    rw [e1, ob_e, ob_e, ob_e, ob_e]
    cases hm : qMrk b with
    | true =>
      rw [hm, List.any_eq_true] at k6
      obtain ⟨j, j1, j2⟩ := k6
      rw [if_neg (fun n => e2.mp n j (by omega) (List.mem_range.mp j1) (of_decide_eq_true j2)), if_pos rfl]
      rfl
    | false =>
      rw [hm, List.any_eq_false] at k6
      rw [if_pos (e2.mpr (fun j _ j2 e => k6 j (List.mem_range.mpr j2) (decide_eq_true e))), if_neg (by decide)]
      rfl
  have j16 : s_X4_kindOf_J16 tp (nI b).toInt8.toInt32 h = some (nI (if qDig b = true then 3 else if qMrk b = true then 4 else 5)) := by
    rw [s_X4_kindOf_J16]
    by_cases q : 48 ≤ b ∧ b ≤ 57
    · have z : ¬ ((nI b).toInt8.toInt32 < 48 ∨ 57 < (nI b).toInt8.toInt32) := fun n => k4.mp n q
      rw [if_neg (fun n => z (Or.inl n)), if_neg (fun n => z (Or.inr n)), if_pos (show qDig b = true from decide_eq_true q)]
      rfl
    · have z := k4.mpr q
      rw [if_neg (show ¬ qDig b = true from fun n => q (of_decide_eq_true n))]
      by_cases z1 : (nI b).toInt8.toInt32 < 48
      · rw [if_pos z1]; exact j24
      · rw [if_neg z1, if_pos (z.resolve_left z1)]; exact j24
  rw [s_X4_kindOf, qKi]
  by_cases q1 : b = 32
  · rw [if_pos (k1.mpr q1), if_pos (show qBk b = true from decide_eq_true (Or.inl q1))]
    rfl
  · rw [if_neg (fun n => q1 (k1.mp n))]
    by_cases q2 : b = 10
    · rw [if_neg (fun n => n (k2.mpr q2)), if_pos (show qBk b = true from decide_eq_true (Or.inr q2))]
      rfl
    · rw [if_pos (fun n => q2 (k2.mp n)), if_neg (show ¬ qBk b = true from fun n => (of_decide_eq_true n).elim q1 q2)]
      by_cases q : 97 ≤ b ∧ b ≤ 122
      · have z : ¬ ((nI b).toInt8.toInt32 < 97 ∨ 122 < (nI b).toInt8.toInt32) := fun n => k3.mp n q
        rw [if_neg (fun n => z (Or.inl n)), if_neg (fun n => z (Or.inr n)), if_pos (show qLet b = true from decide_eq_true q)]
        rfl
      · have z := k3.mpr q
        rw [if_neg (show ¬ qLet b = true from fun n => q (of_decide_eq_true n))]
        by_cases z1 : (nI b).toInt8.toInt32 < 97
        · rw [if_pos z1]; exact j16
        · rw [if_neg z1, if_pos (z.resolve_left z1)]; exact j16
section TC
variable {A : Nat → Nat → Prop} {h h1 : zH} {B : Nat → Nat} {N x tp : Nat}
theorem zTbc.fr (w : zTbc h B N) (f : zfr A h h1) (q : ∀ b k, (b = 16 ∧ k = 1) ∨ b = 1 → ¬ A b k) : zTbc h1 B N := by
  obtain ⟨w1, w2, w3⟩ := w
  refine ⟨w1, by rw [f.i (q _ _ (by omega))]; exact w2, fun i hi => ⟨(w3 i hi).1, ?_⟩⟩
  rw [f.i (q _ _ (by omega))]; exact (w3 i hi).2
theorem zTC.fr (w : zTC h B N x) (f : zfr A h h1) (q : ∀ b k, b = 16 ∧ 3 ≤ k ∧ k ≤ 6 → ¬ A b k) : zTC h1 B N x := by
  obtain ⟨w1, w2, w3, w4⟩ := w
  exact ⟨by rw [f.i (q _ _ (by omega))]; exact w1, by rw [f.i (q _ _ (by omega))]; exact w2, by rw [f.i (q _ _ (by omega))]; exact w3, fun e => by rw [f.i (q _ _ (by omega))]; exact w4 e⟩
theorem k_eor (w : zTbc h B N) (k : Nat) (hk : k ≤ 5) : ∀ m i n, i + m = N → m < n → s_X4_endOfRow_L2 tp n (nI k) (nI i) h = some (nI (tRw B k m i)) := by
  intro m
  obtain ⟨w1, w2, w3⟩ := w
  induction m with
  | zero =>
    intro i n e hn
    obtain ⟨n, rfl, -⟩ := zq_suc hn
    rw [s_X4_endOfRow_L2, w2, if_pos (nI_le (by omega) (by omega)), tRw]
  | succ m ih =>
    intro i n e hn
    obtain ⟨n, rfl, hn2⟩ := zq_suc hn
    have hb := (qKi_b (B i)).2
    rw [s_X4_endOfRow_L2, w2, if_neg (nI_ge (by omega) (by omega)), zq_ix (by omega) (by omega), (w3 i (by omega)).2, k_kind (w3 i (by omega)).1, ob_e, tRw, show nI i + 1 = nI (i + 1) from nI_1 i]
    by_cases q : qKi (B i) = k
    · rw [if_neg (fun n => n (by rw [q])), if_pos q]
      exact ih (i + 1) n (by omega) (by omega)
    · rw [if_pos (fun e => q ((nI_eq (by omega) (by omega)).mp e)), if_neg q]
theorem k_eor0 (w : zTbc h B N) {k : Nat} (hk : k ≤ 5) {i : Nat} (hi : i ≤ N) : s_X4_endOfRow tp (nI i) (nI k) h = some (nI (tRw B k (N - i) i)) := by
  rw [s_X4_endOfRow]
  exact k_eor w k hk (N - i) i zfu (by omega) (zq_fu (by have := w.1; omega))
theorem k_dig {c : Nat} (v : Nat) (h : qKi c = 3) : (((10 : Int32) * nI v) + (nI c).toInt8.toInt32) - (48 : Int32) = nI (10 * v + (c - 48)) := by
  have h1 := qKi_3 h
  rw [fa_byte_small (by omega), show (10 : Int32) * nI v = nI (10 * v) from pk_mul 10 v, nI_add, show (48 : Int32) = nI 48 from rfl, zq_sub (by omega), show 10 * v + c - 48 = 10 * v + (c - 48) by omega]
theorem k_nu (B : Nat → Nat) {p e : Nat} (he : e ≤ 700) (hp : p ≤ e) (hd : ∀ j, p ≤ j → j < e → qKi (B j) = 3) : ∀ m i n h, p + i + m = (if e - p < 4 then e else p + 4) → m < n → zI h 16 3 = nI p → zI h 16 4 = nI e → (∀ j, p ≤ j → j < e → zI h 1 j = (nI (B j)).toInt8.toInt32) → zI h 16 6 = nI (qDv B p i) → ∃ h', s_X4_advance_L60 tp n (nI (p + i)) h = some h' ∧ zI h' 16 6 = nI (qDv B p (if e - p < 4 then e - p else 4)) ∧ zfr (fun b k => b = 16 ∧ k = 6) h h' := by
  intro m
  induction m with
  | zero =>
    intro i n h em hn a3 a4 ab a6
    obtain ⟨n, rfl, -⟩ := zq_suc hn
    refine ⟨h, ?_, ?_, zfr.rf _ h⟩
    · rw [s_X4_advance_L60, a4, a3]
      by_cases q : e - p < 4
      · rw [if_pos q] at em
        rw [if_pos (nI_le (by omega) (by omega))]
      · rw [if_neg q] at em
        by_cases z : nI e ≤ nI (p + i)
        · rw [if_pos z]
        · rw [if_neg z, if_pos (show nI p + (4 : Int32) ≤ nI (p + i) by rw [show nI p + (4 : Int32) = nI (p + 4) from nI_add p 4]; exact nI_le (by omega) (by omega))]
    · rw [a6]
      split at em
      · rename_i q; rw [if_pos q, show i = e - p by omega]
      · rename_i q; rw [if_neg q, show i = 4 by omega]
  | succ m ih =>
    intro i n h em hn a3 a4 ab a6
    obtain ⟨n, rfl, hn2⟩ := zq_suc hn
    have l1 : p + i < e ∧ i < 4 := by split at em <;> omega
    have d1 := hd (p + i) (by omega) l1.1
    rw [s_X4_advance_L60, a4, a3, if_neg (nI_ge l1.1 (by omega)), show nI p + (4 : Int32) = nI (p + 4) from nI_add p 4, if_neg (nI_ge (by omega) (by omega)), zq_ix (by omega) (by omega), ab (p + i) (by omega) l1.1, a6, k_dig _ d1, zlt_e, show nI (p + i) + 1 = nI (p + i + 1) from nI_1 _]
    have f1 : zfr (fun b k => b = 16 ∧ k = 6) h (zwI h 16 6 (nI (10 * qDv B p i + (B (p + i) - 48)))) := zfr.wI _ _ _ ⟨rfl, rfl⟩
    have c1 : zI (zwI h 16 6 (nI (10 * qDv B p i + (B (p + i) - 48)))) 16 6 = nI (qDv B p (i + 1)) := by rw [zI_wI, if_pos rfl, if_pos rfl, qDv]
    generalize zwI h 16 6 (nI (10 * qDv B p i + (B (p + i) - 48))) = h1 at f1 c1 ⊢
    obtain ⟨h2, e2, g2, f2⟩ := ih (i + 1) n h1 (by omega) (by omega) (by rw [f1.i (by omega)]; exact a3) (by rw [f1.i (by omega)]; exact a4) (fun j j1 j2 => by rw [f1.i (by omega)]; exact ab j j1 j2) c1
    exact ⟨h2, e2, g2, f1.tr f2⟩
theorem k_adv (w : zTbc h B N) (hx : x ≤ N) (h4 : zI h 16 4 = nI x) : ∃ h', s_X4_advance tp h = some h' ∧ zTC h' B N x ∧ zfr (fun b k => b = 16 ∧ 3 ≤ k ∧ k ≤ 6) h h' := by
  have hN := w.1
  have p1 := tP_le (B := B) hx
  have e1 := tE_le (B := B) hx
  rw [s_X4_advance, h4, show s_X4_endOfRow tp (nI x) (1 : Int32) h = some (nI (tP B N x)) from k_eor0 w (k := 1) (by omega) hx, ob_e, zlt_e, zlt_e, show zI (zwI h 16 3 (nI (tP B N x))) 16 3 = nI (tP B N x) by rw [zI_wI, if_pos rfl, if_pos rfl]]
  generalize g1 : zwI (zwI h 16 3 (nI (tP B N x))) 16 4 (nI (tP B N x)) = h3
  have f3 : zfr (fun b k => b = 16 ∧ 3 ≤ k ∧ k ≤ 6) h h3 := by rw [← g1]; exact (zfr.wI 16 3 _ (by omega)).w 16 4 _ (by omega)
  have a3 : zI h3 16 3 = nI (tP B N x) := by rw [← g1, zI_wI, if_pos rfl, if_neg (by decide), zI_wI, if_pos rfl, if_pos rfl]
  have a4 : zI h3 16 4 = nI (tP B N x) := by rw [← g1, zI_wI, if_pos rfl, if_pos rfl]
  have w3 : zTbc h3 B N := w.fr f3 (fun b k e => by omega)
  rw [a3, w3.2.1]
  by_cases q : tP B N x < N
  · have hk : tK B N x = qKi (B (tP B N x)) := by unfold tK; rw [if_pos q]
    have hkb := qKi_b (B (tP B N x))
    rw [if_pos (nI_lt q (by omega)), zq_ix (by omega) (by omega), (w3.2.2 _ q).2, k_kind (w3.2.2 _ q).1, ob_e, zlt_e, ← hk]
    generalize g2 : zwI h3 16 5 (nI (tK B N x)) = h6
    have f6 : zfr (fun b k => b = 16 ∧ k = 5) h3 h6 := by rw [← g2]; exact zfr.wI 16 5 _ ⟨rfl, rfl⟩
    have a5 : zI h6 16 5 = nI (tK B N x) := by rw [← g2, zI_wI, if_pos rfl, if_pos rfl]
    have w6 : zTbc h6 B N := w3.fr f6 (fun b k e => by omega)
    have b3 : zI h6 16 3 = nI (tP B N x) := by rw [f6.i (by omega)]; exact a3
    have j49 : ∀ s : Int32, s = nI (tE B N x) → ∃ h', s_X4_advance_J49 tp s h6 = some h' ∧ zTC h' B N x ∧ zfr (fun b k => b = 16 ∧ 3 ≤ k ∧ k ≤ 6) h h' := by
      intro s es
      subst es
      rw [s_X4_advance_J49, zlt_e]
      have f7 : zfr (fun b k => b = 16 ∧ k = 4) h6 (zwI h6 16 4 (nI (tE B N x))) := zfr.wI 16 4 _ ⟨rfl, rfl⟩
      have c4 : zI (zwI h6 16 4 (nI (tE B N x))) 16 4 = nI (tE B N x) := by rw [zI_wI, if_pos rfl, if_pos rfl]
      generalize zwI h6 16 4 (nI (tE B N x)) = h7 at f7 c4 ⊢
      have f07 : zfr (fun b k => b = 16 ∧ 3 ≤ k ∧ k ≤ 6) h h7 := (f3.tr (f6.mo (fun b k e => by omega))).tr (f7.mo (fun b k e => by omega))
      have c5 : zI h7 16 5 = nI (tK B N x) := by rw [f7.i (by omega)]; exact a5
      have c3 : zI h7 16 3 = nI (tP B N x) := by rw [f7.i (by omega)]; exact b3
      rw [c5]
      by_cases q3 : tK B N x = 3
      · rw [if_neg (fun n => n (by rw [q3]; rfl)), zlt_e]
        have f8 : zfr (fun b k => b = 16 ∧ k = 6) h7 (zwI h7 16 6 (0 : Int32)) := zfr.wI 16 6 _ ⟨rfl, rfl⟩
        have c6 : zI (zwI h7 16 6 (0 : Int32)) 16 6 = nI (qDv B (tP B N x) 0) := by rw [zI_wI, if_pos rfl, if_pos rfl, qDv]; rfl
        generalize zwI h7 16 6 (0 : Int32) = h8 at f8 c6 ⊢
        have ew := tE_w (Or.inr q3)
        rw [q3] at ew
        have w8 : zTbc h8 B N := w.fr (f07.tr (f8.mo (fun b k e => by omega))) (fun b k e => by omega)
        obtain ⟨h9, e9, d9, f9⟩ := k_nu (tp := tp) B (p := tP B N x) (e := tE B N x) (by omega) (by omega) (fun j j1 j2 => tRw_in B 3 (N - tP B N x) (tP B N x) j j1 (by omega)) (if tE B N x - tP B N x < 4 then tE B N x - tP B N x else 4) 0 zfu h8 (by split <;> omega) (zq_fu (by split <;> omega)) (by rw [f8.i (by omega)]; exact c3) (by rw [f8.i (by omega)]; exact c4) (fun j j1 j2 => (w8.2.2 j (by omega)).2) c6
        rw [f8.i (by omega), c3]
        refine ⟨h9, e9, ⟨?_, ?_, ?_, fun _ => d9⟩, (f07.tr (f8.mo (fun b k e => by omega))).tr (f9.mo (fun b k e => by omega))⟩
        · rw [f9.i (by omega), f8.i (by omega)]; exact c3
        · rw [f9.i (by omega), f8.i (by omega)]; exact c4
        · rw [f9.i (by omega), f8.i (by omega)]; exact c5
      · rw [if_pos (show ¬ nI (tK B N x) = (3 : Int32) from nI_ne (b := 3) q3 (by omega) (by omega))]
        exact ⟨h7, rfl, ⟨c3, c4, c5, fun e => absurd e q3⟩, f07⟩
    have j38 : tK B N x = 2 ∨ tK B N x = 3 → ∃ h', s_X4_advance_J38 tp h6 = some h' ∧ zTC h' B N x ∧ zfr (fun b k => b = 16 ∧ 3 ≤ k ∧ k ≤ 6) h h' := by
      intro q2
      rw [s_X4_advance_J38, b3, a5, k_eor0 w6 (by omega) p1.2, ob_e, ← tE_w q2]
      exact j49 _ rfl
    rw [a5]
    by_cases q2 : tK B N x = 2
    · rw [if_pos (by rw [q2]; rfl)]
      exact j38 (Or.inl q2)
    · rw [if_neg (show ¬ nI (tK B N x) = (2 : Int32) from nI_ne (b := 2) q2 (by omega) (by omega))]
      by_cases q3 : tK B N x = 3
      · rw [if_neg (fun n => n (by rw [q3]; rfl))]
        exact j38 (Or.inr q3)
      · rw [if_pos (show ¬ nI (tK B N x) = (3 : Int32) from nI_ne (b := 3) q3 (by omega) (by omega)), b3]
        have h1 := tK_1 (B := B) (N := N) (x := x)
        exact j49 _ (by rw [tE_s (by omega)]; exact nI_1 _)
  · have k0 : tK B N x = 0 := by unfold tK; rw [if_neg q]
    rw [if_neg (nI_nlt (by omega) (by omega)), zlt_e]
    have f7 : zfr (fun b k => b = 16 ∧ k = 5) h3 (zwI h3 16 5 (0 : Int32)) := zfr.wI 16 5 _ ⟨rfl, rfl⟩
    refine ⟨_, rfl, ⟨?_, ?_, ?_, fun e => by omega⟩, f3.tr (f7.mo (fun b k e => by omega))⟩
    · rw [f7.i (by omega)]; exact a3
    · rw [f7.i (by omega), a4]; unfold tE; rw [if_pos k0]
    · rw [zI_wI, if_pos rfl, if_pos rfl, k0]; rfl
end TC
