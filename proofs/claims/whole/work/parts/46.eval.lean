/-! ===== rules: a code at work on a stack ===== -/
def qOp (o : Nat) (a b : Int32) : Int32 := if o = 1 then (if ¬ a = 0 then 1 else if b = 0 then 0 else 1) else if o = 2 then (if a = 0 then 0 else if b = 0 then 0 else 1) else if o = 4 then (if b ≤ a then 0 else 1) else if o = 5 then (if ¬ a = b then 0 else 1) else if o = 6 then a + b else if o = 7 then a - b else if o = 8 then a * b else (if b = 0 then 0 else a / b)
def qSt (vals : Nat → Int32) (s : Nat × (Nat → Int32)) (c : Nat) : Nat × (Nat → Int32) :=
  if c < 10000 then (s.1 + 1, upd s.2 s.1 (nI c)) else if c < 20000 then (s.1 + 1, upd s.2 s.1 (vals (c - 10000))) else if c = 20003 then (s.1, upd s.2 (s.1 - 1) (if s.2 (s.1 - 1) = 0 then 1 else 0)) else (s.1 - 1, upd s.2 (s.1 - 2) (qOp (c - 20000) (s.2 (s.1 - 2)) (s.2 (s.1 - 1))))
def qEv (vals : Nat → Int32) : List Nat → Nat × (Nat → Int32) → Nat × (Nat → Int32)
  | [], s => s
  | c :: C, s => qEv vals C (qSt vals s c)
def qVal (vals : Nat → Int32) (C : List Nat) : Int32 := (qEv vals C (0, fun _ => 0)).2 0
theorem zI_wIr (h : zH) (a k : Nat) (v : Int32) : zI (zwI h a k v) a = upd (zI h a) k v := by
  funext j
  rw [zI_wI, if_pos rfl]
  rfl
theorem zI_wIo (h : zH) {a b : Nat} (k : Nat) (v : Int32) (n : b ≠ a) : zI (zwI h a k v) b = zI h b := by
  funext j
  rw [zI_wI, if_neg n]
theorem upd_at (f : Nat → Int32) (k : Nat) (v : Int32) (j : Nat) : upd f k v j = if j = k then v else f j := rfl
/-- what lies above doesn't count -/
theorem qEv_cong (vals : Nat → Int32) : ∀ (C : List Nat) (d : Nat) (f g : Nat → Int32), qDp C d = true → (∀ i, i < d → f i = g i) → (qEv vals C (d, f)).2 0 = (qEv vals C (d, g)).2 0 := by
  intro C
  induction C with
  | nil =>
    intro d f g hd e
    have : d = 1 := by simpa [qDp] using hd
    exact e 0 (by omega)
  | cons c C ih =>
    intro d f g hd e
    rw [qDp] at hd
    rw [qEv, qEv, qSt, qSt]
    try dsimp only
    split at hd
    · rename_i q
      rw [if_pos q, if_pos q]
      rw [Bool.and_eq_true] at hd
      refine ih _ _ _ hd.2 (fun i hi => ?_)
      rw [upd_at, upd_at]
      split
      · rfl
      · exact e i (by omega)
    · rename_i q
      rw [if_neg q, if_neg q]
      split at hd
      · rename_i q2
        rw [if_pos q2, if_pos q2]
        rw [Bool.and_eq_true] at hd
        refine ih _ _ _ hd.2 (fun i hi => ?_)
        rw [upd_at, upd_at]
        split
        · rfl
        · exact e i (by omega)
      · rename_i q2
        rw [if_neg q2, if_neg q2]
        split at hd
        · rename_i q3
          rw [if_pos q3, if_pos q3]
          rw [Bool.and_eq_true, decide_eq_true_eq] at hd
          refine ih _ _ _ hd.2 (fun i hi => ?_)
          have e1 := e (d - 1) (by omega)
          simp only [upd_at, e1]
          split
          · rfl
          · exact e i (by omega)
        · rename_i q3
          rw [if_neg q3, if_neg q3]
          simp only [Bool.and_eq_true, decide_eq_true_eq] at hd
          refine ih _ _ _ hd.2 (fun i hi => ?_)
          rw [upd_at, upd_at, e (d - 2) (by omega), e (d - 1) (by omega)]
          split
          · rfl
          · exact e i (by omega)
theorem qEv_val (vals : Nat → Int32) (C : List Nat) (f : Nat → Int32) (h : qDp C 0 = true) : (qEv vals C (0, f)).2 0 = qVal vals C := qEv_cong vals C 0 f _ h (fun i hi => absurd hi (Nat.not_lt_zero i))
theorem qEv_vals {v w : Nat → Int32} : ∀ (C : List Nat) (d : Nat) (f : Nat → Int32), qDp C d = true → (∀ i, i < 5 → v i = w i) → qEv v C (d, f) = qEv w C (d, f) := by
  intro C
  induction C with
  | nil => intro d f _ _; rfl
  | cons c C ih =>
    intro d f hd e
    rw [qDp] at hd
    rw [qEv, qEv, qSt, qSt]
    try dsimp only
    split at hd
    · rename_i q
      rw [if_pos q, if_pos q]
      rw [Bool.and_eq_true] at hd
      exact ih _ _ hd.2 e
    · rename_i q
      rw [if_neg q, if_neg q]
      split at hd
      · rename_i q2
        rw [if_pos q2, if_pos q2]
        simp only [Bool.and_eq_true, decide_eq_true_eq] at hd
        rw [e (c - 10000) (by omega)]
        exact ih _ _ hd.2 e
      · rename_i q2
        rw [if_neg q2, if_neg q2]
        split at hd
        · rename_i q3
          rw [if_pos q3]
          rw [Bool.and_eq_true] at hd
          exact ih _ _ hd.2 e
        · rename_i q3
          rw [if_neg q3]
          rw [Bool.and_eq_true] at hd
          exact ih _ _ hd.2 e
theorem qVal_vals {v w : Nat → Int32} {C : List Nat} (h : qDp C 0 = true) (e : ∀ i, i < 5 → v i = w i) : qVal v C = qVal w C := by
  rw [qVal, qVal, qEv_vals C 0 _ h e]
theorem q_drop {C : List Nat} {i c : Nat} {D : List Nat} (e : C.drop i = c :: D) : i < C.length ∧ C.getD i 0 = c ∧ C.drop (i + 1) = D := by
  have h1 : i < C.length := by
    rcases Nat.lt_or_ge i C.length with q | q
    · exact q
    · rw [List.drop_eq_nil_of_le q] at e; cases e
  have h2 := List.drop_eq_getElem_cons h1
  rw [e] at h2
  have h3 := (List.cons.inj h2)
  refine ⟨h1, ?_, h3.2.symm⟩
  rw [List.getD_eq_getElem?_getD, List.getElem?_eq_getElem h1]
  exact h3.1.symm
theorem q_op (o : Nat) (a b : Int32) (h : zH) (h1 : 1 ≤ o) (h2 : o < 10) (h3 : o ≠ 3) : s_X9_operate (nI o) a b h = some (qOp o a b) := by
  have e : o = 1 ∨ o = 2 ∨ o = 4 ∨ o = 5 ∨ o = 6 ∨ o = 7 ∨ o = 8 ∨ o = 9 := by omega
  rcases e with e | e | e | e | e | e | e | e <;> subst e
  · show (if ¬ a = 0 then some (1 : Int32) else if b = 0 then some 0 else some 1) = some (if ¬ a = 0 then (1 : Int32) else if b = 0 then 0 else 1)
    split
    · rfl
    · split <;> rfl
  · show (if a = 0 then some (0 : Int32) else if b = 0 then some 0 else some 1) = some (if a = 0 then (0 : Int32) else if b = 0 then 0 else 1)
    split
    · rfl
    · split <;> rfl
  · show (if b ≤ a then some (0 : Int32) else some 1) = some (if b ≤ a then (0 : Int32) else 1)
    split <;> rfl
  · show (if ¬ a = b then some (0 : Int32) else some 1) = some (if ¬ a = b then (0 : Int32) else 1)
    split <;> rfl
  · rfl
  · rfl
  · rfl
  · show (if ¬ b = 0 then (zdv a b).bind (fun v => some v) else some (0 : Int32)) = some (if b = 0 then (0 : Int32) else a / b)
    by_cases q : b = 0
    · rw [if_neg (fun n => n q), if_pos q]
    · rw [if_pos q, if_neg q]
      unfold zdv
      have : (b == 0) = false := by simp [q]
      rw [this]
      rfl
theorem q_opM (o : Nat) (a b : Int32) (h : zH) (h1 : 1 ≤ o) (h2 : o < 10) (h3 : o ≠ 3) : s_X11_reckon (qEp o) a b h = some (qOp o a b) := by
  have e : o = 1 ∨ o = 2 ∨ o = 4 ∨ o = 5 ∨ o = 6 ∨ o = 7 ∨ o = 8 ∨ o = 9 := by omega
  rcases e with e | e | e | e | e | e | e | e <;> subst e
  · show (if ¬ a = 0 then some (1 : Int32) else if b = 0 then some 0 else some 1) = some (if ¬ a = 0 then (1 : Int32) else if b = 0 then 0 else 1)
    split
    · rfl
    · split <;> rfl
  · show (if a = 0 then some (0 : Int32) else if b = 0 then some 0 else some 1) = some (if a = 0 then (0 : Int32) else if b = 0 then 0 else 1)
    split
    · rfl
    · split <;> rfl
  · show (if b ≤ a then some (0 : Int32) else some 1) = some (if b ≤ a then (0 : Int32) else 1)
    split <;> rfl
  · show (if ¬ a = b then some (0 : Int32) else some 1) = some (if ¬ a = b then (0 : Int32) else 1)
    split <;> rfl
  · rfl
  · rfl
  · rfl
  · show (if ¬ b = 0 then (zdv a b).bind (fun v => some v) else some (0 : Int32)) = some (if b = 0 then (0 : Int32) else a / b)
    by_cases q : b = 0
    · rw [if_neg (fun n => n q), if_pos q]
    · rw [if_pos q, if_neg q]
      unfold zdv
      have : (b == 0) = false := by simp [q]
      rw [this]
      rfl
/-- the class at work -/
theorem k_eval_L {p r f : Nat} {C : List Nat} {vals : Nat → Int32} (hp : p + 4 ≠ 38) (hr : r ≠ 38) (hf : f + C.length ≤ 700) : ∀ (rest : List Nat) (i d n : Nat) (h : zH), C.drop i = rest → i ≤ C.length → zI h r 2 = nI (f + C.length) → (∀ j, j < C.length → zI h (p + 4) (f + j) = nI (C.getD j 0)) → zI h 37 = vals → rest.length < n → qDp rest d = true → d ≤ 50 →
    ∃ h', s_X9_evaluate_L5 p r n (nI d) (nI (f + i)) h = some ((qEv vals rest (d, zI h 38)).2 0, h') ∧ zfr (fun a _ => a = 38) h h' := by
  intro rest
  induction rest with
  | nil =>
    intro i d n h e hi hto hc hv hn hd _
    obtain ⟨m, rfl, -⟩ := zq_suc hn
    have e1 : C.length ≤ i := by
      rcases Nat.lt_or_ge i C.length with q | q
      · rw [List.drop_eq_getElem_cons q] at e; cases e
      · exact q
    have hd1 : d = 1 := by simpa [qDp] using hd
    subst hd1
    refine ⟨h, ?_, zfr.rf _ h⟩
    rw [s_X9_evaluate_L5, hto, if_pos (nI_le (by omega) (by omega)), if_neg (by decide)]
    rfl
  | cons c rest ih =>
    intro i d n h e hi hto hc hv hn hd hd50
    obtain ⟨m, rfl, hm⟩ := zq_suc hn
    obtain ⟨hi2, hget, hdrop⟩ := q_drop e
    have hm2 : rest.length < m := by rw [List.length_cons] at hm; omega
    rw [s_X9_evaluate_L5, hto, if_neg (nI_ge (by omega) (by omega)), zq_ix (k := f + i) (by omega) (by omega)]
    try dsimp only
    rw [hc i hi2, hget]
    rw [qEv, qSt]
    try dsimp only
    rw [qDp] at hd
    have go : ∀ (k : Nat) (v : Int32) (d2 : Nat), qDp rest d2 = true → d2 ≤ 50 → ∃ h', s_X9_evaluate_L5 p r m (nI d2) (nI (f + i + 1)) (zwI h 38 k v) = some ((qEv vals rest (d2, upd (zI h 38) k v)).2 0, h') ∧ zfr (fun a _ => a = 38) h h' := by
      intro k v d2 q1 q2
      obtain ⟨h', e1, f1⟩ := ih (i + 1) d2 m (zwI h 38 k v) hdrop (by omega) (by rw [zI_wIo h k v hr]; exact hto) (fun j hj => by rw [zI_wIo h k v hp]; exact hc j hj) (by rw [zI_wIo h k v (by decide)]; exact hv) hm2 q1 q2
      rw [zI_wIr] at e1
      exact ⟨h', e1, (zfr.wI 38 k v rfl).tr f1⟩
    split at hd
    · rename_i q
      rw [if_pos q]
      simp only [Bool.and_eq_true, decide_eq_true_eq] at hd
      have q1 : ¬ 20000 ≤ c := by omega
      have q2 : ¬ 10000 ≤ c := by omega
      have q3 : ¬ 50 ≤ d := by omega
      simp (disch := omega) only [zq_0, zq_1, zq_2, zq_3, zq_4, zq_5, zq_6, zq_7, zq_8, zq_9, zq_10, zq_12, zq_13, zq_16, zq_18, zq_20, zq_24, zq_30, zq_31, zq_32, zq_38, zq_39, zq_40, zq_41, zq_42, zq_43, zq_45, zq_47, zq_48, zq_57, zq_59, zq_60, zq_61, zq_63, zq_64, zq_96, zq_97, zq_99, zq_100, zq_122, zq_127, zq_255, zq_700, zq_999, zq_1000, zq_1482, zq_4095, zq_9999, zq_10000, zq_20000, zq_20003, zq_32767, zq_100000, zq_m1, nI_add, nI_leI, nI_ltI, nI_eq, zq_sub, pk_mul, zq_ix, zq_a31, zs_shl, zs_shr, zq_tb, fa_or, fa_and, fb_xorI, zq_pm, zq_eM, zq_Me, zq_MM, zq_of, zlt_e, q1, q2, q3, if_false]
      exact go d (nI c) (d + 1) hd.2 (by omega)
    · rename_i q
      rw [if_neg q]
      split at hd
      · rename_i q0
        rw [if_pos q0]
        simp only [Bool.and_eq_true, decide_eq_true_eq] at hd
        have q1 : ¬ 20000 ≤ c := by omega
        have q2 : 10000 ≤ c := by omega
        have q3 : ¬ 50 ≤ d := by omega
        simp (disch := omega) only [zq_0, zq_1, zq_2, zq_3, zq_4, zq_5, zq_6, zq_7, zq_8, zq_9, zq_10, zq_12, zq_13, zq_16, zq_18, zq_20, zq_24, zq_30, zq_31, zq_32, zq_38, zq_39, zq_40, zq_41, zq_42, zq_43, zq_45, zq_47, zq_48, zq_57, zq_59, zq_60, zq_61, zq_63, zq_64, zq_96, zq_97, zq_99, zq_100, zq_122, zq_127, zq_255, zq_700, zq_999, zq_1000, zq_1482, zq_4095, zq_9999, zq_10000, zq_20000, zq_20003, zq_32767, zq_100000, zq_m1, nI_add, nI_leI, nI_ltI, nI_eq, zq_sub, pk_mul, zq_ix, zq_a31, zs_shl, zs_shr, zq_tb, fa_or, fa_and, fb_xorI, zq_pm, zq_eM, zq_Me, zq_MM, zq_of, zlt_e, q1, q2, q3, if_false, if_true]
        rw [hv]
        exact go d (vals (c - 10000)) (d + 1) hd.2 (by omega)
      · rename_i q0
        rw [if_neg q0]
        have q1 : 20000 ≤ c := by omega
        split at hd
        · rename_i q4
          subst q4
          rw [if_pos rfl]
          simp only [Bool.and_eq_true, decide_eq_true_eq] at hd
          have q3 : ¬ d ≤ 0 := by omega
          by_cases q5 : zI h 38 (d - 1) = 0
          · rw [if_pos q5]
            have q6 : zI h 38 (d - 1) = nI 0 := q5
            simp (disch := omega) only [zq_0, zq_1, zq_2, zq_3, zq_4, zq_5, zq_6, zq_7, zq_8, zq_9, zq_10, zq_12, zq_13, zq_16, zq_18, zq_20, zq_24, zq_30, zq_31, zq_32, zq_38, zq_39, zq_40, zq_41, zq_42, zq_43, zq_45, zq_47, zq_48, zq_57, zq_59, zq_60, zq_61, zq_63, zq_64, zq_96, zq_97, zq_99, zq_100, zq_122, zq_127, zq_255, zq_700, zq_999, zq_1000, zq_1482, zq_4095, zq_9999, zq_10000, zq_20000, zq_20003, zq_32767, zq_100000, zq_m1, nI_add, nI_leI, nI_ltI, nI_eq, zq_sub, pk_mul, zq_ix, zq_a31, zs_shl, zs_shr, zq_tb, fa_or, fa_and, fb_xorI, zq_pm, zq_eM, zq_Me, zq_MM, zq_of, zlt_e, q1, q3, q6, not_true, if_false, if_true]
            exact go (d - 1) (nI 1) d hd.2 (by omega)
          · rw [if_neg q5]
            have q6 : ¬ zI h 38 (d - 1) = nI 0 := q5
            simp (disch := omega) only [zq_0, zq_1, zq_2, zq_3, zq_4, zq_5, zq_6, zq_7, zq_8, zq_9, zq_10, zq_12, zq_13, zq_16, zq_18, zq_20, zq_24, zq_30, zq_31, zq_32, zq_38, zq_39, zq_40, zq_41, zq_42, zq_43, zq_45, zq_47, zq_48, zq_57, zq_59, zq_60, zq_61, zq_63, zq_64, zq_96, zq_97, zq_99, zq_100, zq_122, zq_127, zq_255, zq_700, zq_999, zq_1000, zq_1482, zq_4095, zq_9999, zq_10000, zq_20000, zq_20003, zq_32767, zq_100000, zq_m1, nI_add, nI_leI, nI_ltI, nI_eq, zq_sub, pk_mul, zq_ix, zq_a31, zs_shl, zs_shr, zq_tb, fa_or, fa_and, fb_xorI, zq_pm, zq_eM, zq_Me, zq_MM, zq_of, zlt_e, q1, q3, q6, not_true, not_false_iff, if_false, if_true]
            exact go (d - 1) (nI 0) d hd.2 (by omega)
        · rename_i q4
          rw [if_neg q4]
          simp only [Bool.and_eq_true, decide_eq_true_eq] at hd
          have q3 : ¬ d ≤ 1 := by omega
          have q7 := q_op (c - 20000) (zI h 38 (d - 2)) (zI h 38 (d - 1)) h (by omega) (by omega) (by omega)
          have e9 : d - 1 - 1 = d - 2 := by omega
          simp (disch := omega) only [zq_0, zq_1, zq_2, zq_3, zq_4, zq_5, zq_6, zq_7, zq_8, zq_9, zq_10, zq_12, zq_13, zq_16, zq_18, zq_20, zq_24, zq_30, zq_31, zq_32, zq_38, zq_39, zq_40, zq_41, zq_42, zq_43, zq_45, zq_47, zq_48, zq_57, zq_59, zq_60, zq_61, zq_63, zq_64, zq_96, zq_97, zq_99, zq_100, zq_122, zq_127, zq_255, zq_700, zq_999, zq_1000, zq_1482, zq_4095, zq_9999, zq_10000, zq_20000, zq_20003, zq_32767, zq_100000, zq_m1, nI_add, nI_leI, nI_ltI, nI_eq, zq_sub, pk_mul, zq_ix, zq_a31, zs_shl, zs_shr, zq_tb, fa_or, fa_and, fb_xorI, zq_pm, zq_eM, zq_Me, zq_MM, zq_of, zlt_e, q1, q3, q4, e9, q7, not_false_iff, if_false, if_true, Option.bind]
          exact go (d - 2) _ (d - 1) hd.2 (by omega)
theorem k_eval {h : zH} {p r : Nat} {C : List Nat} (hp : p + 4 ≠ 38) (hr : r ≠ 38) (hC : C ≠ []) (hok : qOk C) (w : zRu h p r C) : ∃ h', s_X9_evaluate p r h = some (qVal (zI h 37) C, h') ∧ zfr (fun a _ => a = 38) h h' := by
  obtain ⟨hd, -⟩ := hok.resolve_left hC
  obtain ⟨f, hf, h1, h2, h3⟩ := w.2 hC
  obtain ⟨h', e, q⟩ := k_eval_L (vals := zI h 37) hp hr hf C 0 0 zfu h rfl (by omega) h2 h3 rfl (zq_fu (by omega)) hd (by omega)
  rw [qEv_val _ _ _ hd] at e
  refine ⟨h', ?_, q⟩
  rw [s_X9_evaluate, h1]
  exact e
/-- the reference at work: row b of signs, its values in another order -/
theorem q_en1 {p : Nat → Nat} {c : Nat} (h : c < 10000) : qEn p c = nI c := if_pos h
theorem q_en2 {p : Nat → Nat} {c : Nat} (h : 10000 ≤ c) (h2 : c < 20000) : qEn p c = (-1 : Int32) - nI (p (c - 10000)) := by
  rw [qEn, if_neg (by omega), if_pos h2]
theorem q_en3 {p : Nat → Nat} {c : Nat} (h : 20000 ≤ c) : qEn p c = qEp (c - 20000) := by
  rw [qEn, if_neg (by omega), if_neg (by omega)]
theorem q_ep (o : Nat) : qEp o ≤ (-20 : Int32) := by
  unfold qEp
  split <;> decide
theorem q_epn {o : Nat} (h : o ≠ 3) : ¬ qEp o = (-28 : Int32) := by
  unfold qEp
  split <;> first | decide | exact absurd rfl h
theorem q_neg (k : Nat) (h : k < 5) : ¬ ((-1 : Int32) - nI k) ≤ (-20 : Int32) ∧ ((-1 : Int32) - nI k) < 0 ∧ (-1 : Int32) - ((-1 : Int32) - nI k) = nI k := by
  have e : k = 0 ∨ k = 1 ∨ k = 2 ∨ k = 3 ∨ k = 4 := by omega
  rcases e with e | e | e | e | e <;> subst e <;> decide
theorem q_npos {c : Nat} (h : c < 10000) : ¬ nI c ≤ (-20 : Int32) ∧ ¬ nI c < 0 := by
  refine ⟨fun q => ?_, nI_pos (by omega)⟩
  rw [fa_le, nI_toInt (by omega)] at q
  have : ((-20 : Int32)).toInt = -20 := rfl
  omega
theorem q_ep3 : qEp 3 = (-28 : Int32) := rfl
theorem k_evalM_L {b : Nat} {g : Nat → Nat} {C : List Nat} {vals : Nat → Int32} (hb : b ≠ 70) (hg : ∀ v, v < 5 → g v < 5) (hC : C.length ≤ 700) : ∀ (rest : List Nat) (i d n : Nat) (h : zH), C.drop i = rest → i ≤ C.length → (∀ j, j < C.length → zI h b j = qEn g (C.getD j 0)) → (∀ v, v < 5 → zI h 69 (g v) = vals v) → rest.length < n → qDp rest d = true → d ≤ 50 →
    ∃ h', s_X11_valueNow_L4 b 1400 n (nI C.length) (nI d) (nI i) h = some ((qEv vals rest (d, zI h 70)).2 0, h') ∧ zfr (fun a _ => a = 70) h h' := by
  intro rest
  induction rest with
  | nil =>
    intro i d n h e hi hc hv hn hd _
    obtain ⟨m, rfl, -⟩ := zq_suc hn
    have e1 : C.length ≤ i := by
      rcases Nat.lt_or_ge i C.length with q | q
      · rw [List.drop_eq_getElem_cons q] at e; cases e
      · exact q
    refine ⟨h, ?_, zfr.rf _ h⟩
    rw [s_X11_valueNow_L4, if_pos (nI_le (by omega) (by omega))]
    rfl
  | cons c rest ih =>
    intro i d n h e hi hc hv hn hd hd50
    obtain ⟨m, rfl, hm⟩ := zq_suc hn
    obtain ⟨hi2, hget, hdrop⟩ := q_drop e
    have hm2 : rest.length < m := by rw [List.length_cons] at hm; omega
    rw [s_X11_valueNow_L4, if_neg (nI_ge (by omega) (by omega)), zq_ix (k := i) (by omega) (by omega)]
    try dsimp only
    rw [hc i hi2, hget]
    rw [qEv, qSt]
    try dsimp only
    rw [qDp] at hd
    have go : ∀ (k : Nat) (v : Int32) (d2 : Nat), qDp rest d2 = true → d2 ≤ 50 → ∃ h', s_X11_valueNow_L4 b 1400 m (nI C.length) (nI d2) (nI (i + 1)) (zwI h 70 k v) = some ((qEv vals rest (d2, upd (zI h 70) k v)).2 0, h') ∧ zfr (fun a _ => a = 70) h h' := by
      intro k v d2 q1 q2
      obtain ⟨h', e1, f1⟩ := ih (i + 1) d2 m (zwI h 70 k v) hdrop (by omega) (fun j hj => by rw [zI_wIo h k v hb]; exact hc j hj) (fun u hu => by rw [zI_wIo h k v (by decide)]; exact hv u hu) hm2 q1 q2
      rw [zI_wIr] at e1
      exact ⟨h', e1, (zfr.wI 70 k v rfl).tr f1⟩
    split at hd
    · rename_i q
      rw [if_pos q]
      simp only [Bool.and_eq_true, decide_eq_true_eq] at hd
      obtain ⟨q1, q2⟩ := q_npos q
      rw [q_en1 q, if_neg q1, if_neg q2]
      simp (disch := omega) only [zq_0, zq_1, zq_2, zq_3, zq_4, zq_5, zq_6, zq_7, zq_8, zq_9, zq_10, zq_12, zq_13, zq_16, zq_18, zq_20, zq_24, zq_30, zq_31, zq_32, zq_38, zq_39, zq_40, zq_41, zq_42, zq_43, zq_45, zq_47, zq_48, zq_57, zq_59, zq_60, zq_61, zq_63, zq_64, zq_96, zq_97, zq_99, zq_100, zq_122, zq_127, zq_255, zq_700, zq_999, zq_1000, zq_1482, zq_4095, zq_9999, zq_10000, zq_20000, zq_20003, zq_32767, zq_100000, zq_m1, nI_add, nI_leI, nI_ltI, nI_eq, zq_sub, pk_mul, zq_ix, zq_a31, zs_shl, zs_shr, zq_tb, fa_or, fa_and, fb_xorI, zq_pm, zq_eM, zq_Me, zq_MM, zq_of, zlt_e]
      exact go d (nI c) (d + 1) hd.2 (by omega)
    · rename_i q
      rw [if_neg q]
      split at hd
      · rename_i q0
        rw [if_pos q0]
        simp only [Bool.and_eq_true, decide_eq_true_eq] at hd
        have hg1 := hg (c - 10000) (by omega)
        obtain ⟨q1, q2, q3⟩ := q_neg (g (c - 10000)) hg1
        rw [q_en2 (by omega) q0, if_neg q1, if_pos q2, q3]
        simp (disch := omega) only [zq_0, zq_1, zq_2, zq_3, zq_4, zq_5, zq_6, zq_7, zq_8, zq_9, zq_10, zq_12, zq_13, zq_16, zq_18, zq_20, zq_24, zq_30, zq_31, zq_32, zq_38, zq_39, zq_40, zq_41, zq_42, zq_43, zq_45, zq_47, zq_48, zq_57, zq_59, zq_60, zq_61, zq_63, zq_64, zq_96, zq_97, zq_99, zq_100, zq_122, zq_127, zq_255, zq_700, zq_999, zq_1000, zq_1482, zq_4095, zq_9999, zq_10000, zq_20000, zq_20003, zq_32767, zq_100000, zq_m1, nI_add, nI_leI, nI_ltI, nI_eq, zq_sub, pk_mul, zq_ix, zq_a31, zs_shl, zs_shr, zq_tb, fa_or, fa_and, fb_xorI, zq_pm, zq_eM, zq_Me, zq_MM, zq_of, zlt_e]
        rw [hv (c - 10000) (by omega)]
        exact go d (vals (c - 10000)) (d + 1) hd.2 (by omega)
      · rename_i q0
        rw [if_neg q0]
        rw [q_en3 (by omega), if_pos (q_ep _)]
        split at hd
        · rename_i q4
          rw [if_pos q4]
          simp only [Bool.and_eq_true, decide_eq_true_eq] at hd
          have q41 : c - 20000 = 3 := by omega
          rw [q41, if_neg (fun n => n q_ep3)]
          by_cases q5 : zI h 70 (d - 1) = 0
          · rw [if_pos q5]
            have q6 : zI h 70 (d - 1) = nI 0 := q5
            simp (disch := omega) only [zq_0, zq_1, zq_2, zq_3, zq_4, zq_5, zq_6, zq_7, zq_8, zq_9, zq_10, zq_12, zq_13, zq_16, zq_18, zq_20, zq_24, zq_30, zq_31, zq_32, zq_38, zq_39, zq_40, zq_41, zq_42, zq_43, zq_45, zq_47, zq_48, zq_57, zq_59, zq_60, zq_61, zq_63, zq_64, zq_96, zq_97, zq_99, zq_100, zq_122, zq_127, zq_255, zq_700, zq_999, zq_1000, zq_1482, zq_4095, zq_9999, zq_10000, zq_20000, zq_20003, zq_32767, zq_100000, zq_m1, nI_add, nI_leI, nI_ltI, nI_eq, zq_sub, pk_mul, zq_ix, zq_a31, zs_shl, zs_shr, zq_tb, fa_or, fa_and, fb_xorI, zq_pm, zq_eM, zq_Me, zq_MM, zq_of, zlt_e, q6, if_true]
            exact go (d - 1) (nI 1) d hd.2 (by omega)
          · rw [if_neg q5]
            have q6 : ¬ zI h 70 (d - 1) = nI 0 := q5
            simp (disch := omega) only [zq_0, zq_1, zq_2, zq_3, zq_4, zq_5, zq_6, zq_7, zq_8, zq_9, zq_10, zq_12, zq_13, zq_16, zq_18, zq_20, zq_24, zq_30, zq_31, zq_32, zq_38, zq_39, zq_40, zq_41, zq_42, zq_43, zq_45, zq_47, zq_48, zq_57, zq_59, zq_60, zq_61, zq_63, zq_64, zq_96, zq_97, zq_99, zq_100, zq_122, zq_127, zq_255, zq_700, zq_999, zq_1000, zq_1482, zq_4095, zq_9999, zq_10000, zq_20000, zq_20003, zq_32767, zq_100000, zq_m1, nI_add, nI_leI, nI_ltI, nI_eq, zq_sub, pk_mul, zq_ix, zq_a31, zs_shl, zs_shr, zq_tb, fa_or, fa_and, fb_xorI, zq_pm, zq_eM, zq_Me, zq_MM, zq_of, zlt_e, q6, if_false]
            exact go (d - 1) (nI 0) d hd.2 (by omega)
        · rename_i q4
          rw [if_neg q4]
          simp only [Bool.and_eq_true, decide_eq_true_eq] at hd
          have q7 := q_opM (c - 20000) (zI h 70 (d - 2)) (zI h 70 (d - 1)) h (by omega) (by omega) (by omega)
          have i1 : nI d + (-1) = nI (d - 1) := zq_pm (by omega)
          have i2 : nI (d - 1) - 1 = nI (d - 2) := zq_sub (a := d - 1) (b := 1) (by omega)
          rw [if_pos (q_epn (by omega)), i1, i2, zq_ix (by omega) (by omega), zq_ix (by omega) (by omega), q7]
          simp only [Option.bind]
          rw [zq_ix (by omega) (by omega), show nI i + 1 = nI (i + 1) from nI_1 i]
          exact go (d - 2) _ (d - 1) hd.2 (by omega)
theorem k_evalM {h : zH} {b : Nat} {g : Nat → Nat} {C : List Nat} {vals : Nat → Int32} (hb : b ≠ 70) (hg : ∀ v, v < 5 → g v < 5) (hC : C ≠ []) (hok : qOk C) (hc : ∀ j, j < C.length → zI h b j = qEn g (C.getD j 0)) (hv : ∀ v, v < 5 → zI h 69 (g v) = vals v) : ∃ h', s_X11_valueNow b 1400 (nI C.length) h = some (qVal vals C, h') ∧ zfr (fun a _ => a = 70) h h' := by
  obtain ⟨hd, hl⟩ := hok.resolve_left hC
  obtain ⟨h', e, q⟩ := k_evalM_L (vals := vals) hb hg hl C 0 0 zfu h rfl (by omega) hc hv (zq_fu (by omega)) hd (by omega)
  rw [qEv_val _ _ _ hd] at e
  exact ⟨h', e, q⟩
theorem qPr_lt (v : Nat) (h : v < 5) : qPr v < 5 := by
  unfold qPr
  split <;> omega
theorem qPw_lt (v : Nat) (h : v < 5) : qPw v < 5 := by
  unfold qPw
  split <;> omega
