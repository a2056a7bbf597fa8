/-! ===== words and signs ===== -/
def tM (B : Nat → Nat) (N x c : Nat) : Bool := decide (tK B N x = 4 ∧ B (tP B N x) = c)
def tW (B : Nat → Nat) (N x d : Nat) : Bool := decide (tK B N x = 2 ∧ tE B N x - tP B N x = zbl zTX d ∧ ∀ j, j < zbl zTX d → nI (B (tP B N x + j)) = zby zTX d j)
theorem t_good : (List.range 45).all (fun d => decide ((2 ≤ d ∧ d ≤ 17) ∨ (29 ≤ d ∧ d ≤ 44) → zbl zTX d ≤ 8 ∧ (List.range 9).all (fun j => decide (j < zbl zTX d → (zby zTX d j).toNatClampNeg < 128 ∧ zby zTX d j = nI (zby zTX d j).toNatClampNeg)) = true)) = true := by decide +kernel
theorem t_ch {d : Nat} (hd : (2 ≤ d ∧ d ≤ 17) ∨ (29 ≤ d ∧ d ≤ 44)) : zbl zTX d ≤ 8 ∧ ∀ j, j < zbl zTX d → ∃ c, c < 128 ∧ zby zTX d j = nI c := by
  obtain ⟨h1, h2⟩ := of_decide_eq_true (v_all t_good (show d < 45 by omega)) hd
  refine ⟨h1, fun j hj => ?_⟩
  obtain ⟨h3, h4⟩ := of_decide_eq_true (v_all h2 (show j < 9 by omega)) hj
  exact ⟨_, h3, h4⟩
theorem t_zr : (List.range 128).all (fun c => decide (zrp 2 (((nI c &&& (255 : Int32)).toUInt32 % 65536).toInt32) = some (nI c) ∧ zrp 2 (nI c) = some (nI c))) = true := by decide +kernel
theorem t_sg : (List.range 256).all (fun b => decide (128 ≤ b → (nI b).toInt8.toInt32 < 0)) = true := by decide +kernel
theorem t_by {b c : Nat} (hb : b < 256) (hc : c < 128) : (nI b).toInt8.toInt32 = nI c ↔ b = c := by
  rcases Nat.lt_or_ge b 128 with q | q
  · rw [fa_byte_small q]
    exact nI_eq (by omega) (by omega)
  · have := of_decide_eq_true (v_all t_sg hb) q
    constructor
    · intro e
      rw [e] at this
      exact absurd this (nI_pos (by omega))
    · intro e; omega
theorem k_len {d : Nat} (hd : zbl zTX d ≤ 8) (h : zH) : s_J0_length_8abf5 d h = some (nI (zbl zTX d)) := by
  rw [s_J0_length_8abf5, s_J0_coder_7d493, ob_e]
  have := zq_shr (a := zbl zTX d) (r := 0) (by omega) (by omega)
  rw [Nat.pow_zero, Nat.div_one] at this
  rw [show Int32.ofNat (zbl zTX d) >>> ((0 : Int32) &&& 31) = nI (zbl zTX d) from this]
theorem k_chr {d j c : Nat} (hd : zbl zTX d ≤ 8) (hj : j < zbl zTX d) (hc : c < 128) (e : zby zTX d j = nI c) (h : zH) : s_J0_charAt_5068e d (nI j) h = some (nI c) := by
  obtain ⟨z1, z2⟩ := of_decide_eq_true (v_all t_zr hc)
  rw [s_J0_charAt_5068e, s_J0_isLatin1_aae02, ob_e, if_neg (by decide), s_J1_charAt_3b067, s_J0_checkIndex_df160, s_J3_checkIndex_8e157, if_neg (nI_pos (by omega)), if_pos (show nI j < Int32.ofNat (zbl zTX d) from nI_lt hj (by omega)), ob_e, ob_e, zq_ix hj (by omega), e, z1, ob_e, z2]
theorem tW_eq {B : Nat → Nat} {N x a b : Nat} (e : zTX.getD a [] = zTX.getD b []) : tW B N x a = tW B N x b := by
  have e1 : zbl zTX a = zbl zTX b := by unfold zbl; rw [e]
  have e2 : ∀ j, zby zTX a j = zby zTX b j := fun j => by unfold zby; rw [e]
  unfold tW
  rw [e1]
  simp only [e2]
theorem tW_ex {B : Nat → Nat} {N x a b : Nat} (n : zTX.getD a [] ≠ zTX.getD b []) (h : tW B N x a = true) : tW B N x b = false := by
  cases hb : tW B N x b with
  | false => rfl
  | true =>
    exfalso
    obtain ⟨-, a2, a3⟩ := of_decide_eq_true h
    obtain ⟨-, b2, b3⟩ := of_decide_eq_true hb
    apply n
    have hl : (zTX.getD a []).length = (zTX.getD b []).length := a2.symm.trans b2
    apply List.ext_getElem hl
    intro i h1 h2
    have e1 := a3 i h1
    have e2 := b3 i h2
    unfold zby at e1 e2
    rw [List.getD_eq_getElem?_getD, List.getElem?_eq_getElem h1] at e1
    rw [List.getD_eq_getElem?_getD, List.getElem?_eq_getElem h2] at e2
    exact e1.symm.trans e2
section WC
variable {h : zH} {B : Nat → Nat} {N x tp : Nat}
theorem k_isW (w : zTbc h B N) (t : zTC h B N x) (hx : x ≤ N) {d : Nat} (hd : (2 ≤ d ∧ d ≤ 17) ∨ (29 ≤ d ∧ d ≤ 44)) : s_X4_isWord tp d h = some (nI (tW B N x d).toNat) := by
  obtain ⟨t1, t2, t3, t4⟩ := t
  obtain ⟨l8, lc⟩ := t_ch hd
  have e1 := tE_le (B := B) hx
  have hk := tK_le (B := B) (N := N) (x := x)
  have hN := w.1
  rw [s_X4_isWord, t3]
  by_cases q : tK B N x = 2
  · rw [if_neg (fun n => n (by rw [q]; rfl)), k_len l8, ob_e, t2, t1, zq_sub e1.1]
    by_cases q2 : tE B N x - tP B N x = zbl zTX d
    · rw [if_pos (by rw [q2])]
      have loop : ∀ k j n, j + k = zbl zTX d → k < n → (∀ i, i < j → nI (B (tP B N x + i)) = zby zTX d i) → s_X4_isWord_L16 tp d n (nI j) h = some (nI (tW B N x d).toNat) := by
        intro k
        induction k with
        | zero =>
          intro j n e hn g
          obtain ⟨n, rfl, -⟩ := zq_suc hn
          rw [s_X4_isWord_L16, k_len l8, ob_e, if_pos (nI_le (by omega) (by omega)), show tW B N x d = true from decide_eq_true ⟨q, q2, fun i hi => g i (by omega)⟩]
          rfl
        | succ k ih =>
          intro j n e hn g
          obtain ⟨n, rfl, hn2⟩ := zq_suc hn
          obtain ⟨c, c1, c2⟩ := lc j (by omega)
          have hb := w.2.2 (tP B N x + j) (by omega)
          rw [s_X4_isWord_L16, k_len l8, ob_e, if_neg (nI_ge (by omega) (by omega)), t1, nI_add, zq_ix (by omega) (by omega), k_chr l8 (by omega) c1 c2, ob_e, hb.2, show nI j + 1 = nI (j + 1) from nI_1 j]
          by_cases z : B (tP B N x + j) = c
          · rw [if_pos ((t_by hb.1 c1).mpr z)]
            exact ih (j + 1) n (by omega) (by omega) (fun i hi => by
              by_cases y : i = j
              · rw [y, z, c2]
              · exact g i (by omega))
          · rw [if_neg (fun n => z ((t_by hb.1 c1).mp n)), show tW B N x d = false from decide_eq_false (fun n => z (by
              have := n.2.2 j (by omega)
              rw [c2] at this
              exact (nI_eq (by omega) (by omega)).mp this))]
            rfl
      exact loop (zbl zTX d) 0 zfu (by omega) (zq_fu (by omega)) (fun i hi => by omega)
    · rw [if_neg (nI_ne q2 (by omega) (by omega)), show tW B N x d = false from decide_eq_false (fun n => q2 n.2.1)]
      rfl
  · rw [if_pos (show ¬ nI (tK B N x) = (2 : Int32) from nI_ne (b := 2) q (by omega) (by omega)), show tW B N x d = false from decide_eq_false (fun n => q n.1)]
    rfl
theorem k_isS (w : zTbc h B N) (t : zTC h B N x) (hx : x ≤ N) {c : Nat} (hc : c < 128) : s_X4_isSign tp (nI c) h = some (nI (tM B N x c).toNat) := by
  obtain ⟨t1, t2, t3, t4⟩ := t
  have hk := tK_le (B := B) (N := N) (x := x)
  have hN := w.1
  rw [s_X4_isSign, t3]
  by_cases q : tK B N x = 4
  · have p := (tK_p (B := B) (N := N) (x := x) (by omega)).1
    have hb := w.2.2 _ p
    rw [if_neg (fun n => n (by rw [q]; rfl)), t1, zq_ix (by omega) (by omega), hb.2]
    by_cases z : B (tP B N x) = c
    · rw [if_neg (fun n => n ((t_by hb.1 hc).mpr z)), show tM B N x c = true from decide_eq_true ⟨q, z⟩]; rfl
    · rw [if_pos (fun n => z ((t_by hb.1 hc).mp n)), show tM B N x c = false from decide_eq_false (fun n => z n.2)]; rfl
  · rw [if_pos (show ¬ nI (tK B N x) = (4 : Int32) from nI_ne (b := 4) q (by omega) (by omega)), show tM B N x c = false from decide_eq_false (fun n => q n.1)]
    rfl
theorem k_is0 {d : Nat} (h : zH) : s_X11_is_L21 d zfu (0 : Int32) (0 : Int32) h = some (nI 0) := by
  obtain ⟨m, em, -⟩ := zq_suc (show 0 < zfu from zq_fu (by omega))
  rw [em, s_X11_is_L21, if_pos (show (0 : Int32) = 0 from rfl)]
  rfl
theorem k_isB {d : Nat} (b : ¬ zI h 52 20 = 0) : s_X11_is d h = some (nI 0) := by
  rw [s_X11_is, if_pos b]
  exact k_is0 h
theorem k_isM (w : zTbm h B N) (t : zTM h B N x) (b : zI h 52 20 = nI 0) (hx : x ≤ N) {d : Nat} (hd : (2 ≤ d ∧ d ≤ 17) ∨ (29 ≤ d ∧ d ≤ 44)) : s_X11_is d h = some (nI (tW B N x d).toNat) := by
  obtain ⟨t1, t2, t3, t4, t5⟩ := t
  obtain ⟨l8, lc⟩ := t_ch hd
  have e1 := tE_le (B := B) hx
  have hk := tK_le (B := B) (N := N) (x := x)
  have hk1 := tK_1 (B := B) (N := N) (x := x)
  have hN := w.1
  rw [s_X11_is, if_neg (fun n => n b), t2]
  by_cases q : tK B N x = 2
  · rw [if_neg (fun n => n (by rw [q]; rfl)), k_len l8, ob_e, t4, t3, zq_sub e1.1]
    by_cases q2 : tE B N x - tP B N x = zbl zTX d
    · rw [if_neg (fun n => n (by rw [q2]))]
      have loop : ∀ k j n, j + k = zbl zTX d → k < n → (∀ i, i < j → nI (B (tP B N x + i)) = zby zTX d i) → s_X11_is_L21 d n (1 : Int32) (nI j) h = some (nI (tW B N x d).toNat) := by
        intro k
        induction k with
        | zero =>
          intro j n e hn g
          obtain ⟨n, rfl, -⟩ := zq_suc hn
          rw [s_X11_is_L21, if_neg (by decide), k_len l8, ob_e, if_pos (nI_le (by omega) (by omega)), show tW B N x d = true from decide_eq_true ⟨q, q2, fun i hi => g i (by omega)⟩]
          rfl
        | succ k ih =>
          intro j n e hn g
          obtain ⟨n, rfl, hn2⟩ := zq_suc hn
          obtain ⟨c, c1, c2⟩ := lc j (by omega)
          have hb := w.2.2 (tP B N x + j) (by omega)
          rw [s_X11_is_L21, if_neg (by decide), k_len l8, ob_e, if_neg (nI_ge (by omega) (by omega)), k_chr l8 (by omega) c1 c2, ob_e, t3, nI_add, zq_ix (by omega) (by omega), hb.2, show nI j + 1 = nI (j + 1) from nI_1 j]
          by_cases z : B (tP B N x + j) = c
          · rw [if_neg (fun n => n (by rw [z]))]
            exact ih (j + 1) n (by omega) (by omega) (fun i hi => by
              by_cases y : i = j
              · rw [y, z, c2]
              · exact g i (by omega))
          · rw [if_pos (nI_ne (fun e => z e.symm) (by omega) (by omega)), show tW B N x d = false from decide_eq_false (fun n => z (by
              have := n.2.2 j (by omega)
              rw [c2] at this
              exact (nI_eq (by omega) (by omega)).mp this))]
            obtain ⟨m, rfl, -⟩ := zq_suc (show k < n by omega)
            rw [s_X11_is_L21, if_pos (show (0 : Int32) = 0 from rfl)]
            rfl
      exact loop (zbl zTX d) 0 zfu (by omega) (zq_fu (by omega)) (fun i hi => by omega)
    · rw [if_pos (nI_ne (fun e => q2 e.symm) (by omega) (by omega)), show tW B N x d = false from decide_eq_false (fun n => q2 n.2.1)]
      exact k_is0 h
  · rw [if_pos (show ¬ nI (tK B N x - 1) = (1 : Int32) from nI_ne (b := 1) (by omega) (by omega) (by omega)), show tW B N x d = false from decide_eq_false (fun n => q n.1)]
    exact k_is0 h
theorem k_imB (b : ¬ zI h 52 20 = 0) (c : Int32) : s_X11_isMarked c h = some (nI 0) := by
  rw [s_X11_isMarked, if_pos b]
  rfl
theorem k_im (w : zTbm h B N) (t : zTM h B N x) (b : zI h 52 20 = nI 0) {c : Nat} (hc : c < 128) : s_X11_isMarked (nI c) h = some (nI (tM B N x c).toNat) := by
  obtain ⟨t1, t2, t3, t4, t5⟩ := t
  have hk := tK_le (B := B) (N := N) (x := x)
  have hN := w.1
  rw [s_X11_isMarked, if_neg (fun n => n b), t2]
  by_cases q : tK B N x = 4
  · have p := (tK_p (B := B) (N := N) (x := x) (by omega)).1
    have hb := w.2.2 _ p
    rw [if_neg (fun n => n (by rw [q]; rfl)), t3, zq_ix (by omega) (by omega), hb.2]
    by_cases z : B (tP B N x) = c
    · rw [if_neg (fun n => n (by rw [z])), show tM B N x c = true from decide_eq_true ⟨q, z⟩]; rfl
    · rw [if_pos (nI_ne z (by omega) (by omega)), show tM B N x c = false from decide_eq_false (fun n => z n.2)]; rfl
  · rw [if_pos (show ¬ nI (tK B N x - 1) = (3 : Int32) from nI_ne (b := 3) (by omega) (by omega) (by omega)), show tM B N x c = false from decide_eq_false (fun n => q n.1)]
    rfl
end WC
/-- a value's number as the class has it; 5: none -/
def pVl (B : Nat → Nat) (N x a b : Nat) : Nat := if tW B N x 8 = true then 0 else if tW B N x 9 = true then 1 else if tW B N x 10 = true then 2 else if tW B N x a = true then 3 else if tW B N x b = true then 4 else 5
def pVal (wv : Bool) (B : Nat → Nat) (N x : Nat) : Nat := pVl B N x (if wv = true then 12 else 11) (if wv = true then 14 else 13)
theorem pVal_le (wv : Bool) (B : Nat → Nat) (N x : Nat) : pVal wv B N x ≤ 5 := by
  unfold pVal
  generalize (if wv = true then 12 else 11) = a
  generalize (if wv = true then 14 else 13) = b
  unfold pVl
  split
  · omega
  · split
    · omega
    · split
      · omega
      · split
        · omega
        · split <;> omega
section VA
variable {h : zH} {B : Nat → Nat} {N x tp : Nat} {wv : Bool}
theorem k_val (w : zTbc h B N) (t : zTC h B N x) (hx : x ≤ N) (h11 : zI h 16 11 = nI (if wv = true then 0 else 1)) : s_X4_valueNamed tp h = some (if pVal wv B N x = 5 then nM else nI (pVal wv B N x)) := by
  have i := fun d hd => k_isW (tp := tp) w t hx (d := d) hd
  have n0 : ¬ nI true.toNat = 0 := by decide
  have n1 : nI false.toNat = 0 := rfl
  have n2 : ¬ false = true := by decide
  rw [s_X4_valueNamed, i 8 (by omega), ob_e]
  unfold pVal pVl
  cases h8 : tW B N x 8 with
  | true => rw [if_neg n0, if_pos (rfl : true = true), if_neg (by decide)]; rfl
  | false =>
    rw [if_pos n1, if_neg n2, i 9 (by omega), ob_e]
    cases h9 : tW B N x 9 with
    | true => rw [if_neg n0, if_pos (rfl : true = true), if_neg (by decide)]; rfl
    | false =>
      rw [if_pos n1, if_neg n2, i 10 (by omega), ob_e]
      cases h10 : tW B N x 10 with
      | true => rw [if_neg n0, if_pos (rfl : true = true), if_neg (by decide)]; rfl
      | false =>
        rw [if_pos n1, if_neg n2, h11]
        cases wv with
        | true =>
          rw [if_pos (show nI (if true = true then 0 else 1) = 0 from rfl), i 12 (by omega), ob_e, show tW B N x (if true = true then 12 else 11) = tW B N x 12 from rfl, show tW B N x (if true = true then 14 else 13) = tW B N x 14 from rfl]
          cases h12 : tW B N x 12 with
          | true => rw [if_neg n0, if_pos (rfl : true = true), if_neg (by decide)]; rfl
          | false =>
            rw [if_pos n1, if_neg n2, if_pos (show nI (if true = true then 0 else 1) = 0 from rfl), i 14 (by omega), ob_e]
            cases h14 : tW B N x 14 with
            | true => rw [if_neg n0, if_pos (rfl : true = true), if_neg (by decide)]; rfl
            | false => rw [if_pos n1, if_neg n2, if_pos rfl]; rfl
        | false =>
          rw [if_neg (show ¬ nI (if false = true then 0 else 1) = 0 by decide), i 11 (by omega), ob_e, show tW B N x (if false = true then 12 else 11) = tW B N x 11 from rfl, show tW B N x (if false = true then 14 else 13) = tW B N x 13 from rfl]
          cases h12 : tW B N x 11 with
          | true => rw [if_neg n0, if_pos (rfl : true = true), if_neg (by decide)]; rfl
          | false =>
            rw [if_pos n1, if_neg (show ¬ nI (if false = true then 0 else 1) = 0 by decide), if_neg n2, i 13 (by omega), ob_e]
            cases h14 : tW B N x 13 with
            | true => rw [if_neg n0, if_pos (rfl : true = true), if_neg (by decide)]; rfl
            | false => rw [if_pos n1, if_neg n2, if_pos rfl]; rfl
end VA
