/-! ===== the parser in the class: its steps ===== -/
def rk (o : Nat) : Nat := ([0, 1, 2, 3, 4, 4, 5, 5, 6, 6] : List Nat).getD o 0
theorem zrk_e : (List.range 10).all (fun o => decide (zrk o = nI (rk o) ∧ rk o ≤ 6)) = true := by decide +kernel
theorem zrk_n {o : Nat} (h : o < 10) : zrk o = nI (rk o) ∧ rk o ≤ 6 := of_decide_eq_true (v_all zrk_e h)
/-- pending operations, as they come out -/
def pFl (S : List Nat) : List Nat := (S.map (fun o => 20000 + o)).reverse
theorem pFl_nil : pFl [] = [] := rfl
theorem pFl_c (o : Nat) (S : List Nat) : pFl (o :: S) = pFl S ++ [20000 + o] := by unfold pFl; rw [List.map_cons, List.reverse_cons]
theorem pFl_a (S : List Nat) (o : Nat) : pFl (S ++ [o]) = (20000 + o) :: pFl S := by
  unfold pFl
  rw [List.map_append, List.reverse_append]
  rfl
theorem pFl_len (S : List Nat) : (pFl S).length = S.length := by unfold pFl; rw [List.length_reverse, List.length_map]
theorem pFl_app (S T : List Nat) : pFl (S ++ T) = pFl T ++ pFl S := by unfold pFl; rw [List.map_append, List.reverse_append]
theorem pFl_n (m : Nat) : pFl (List.replicate m 3) = List.replicate m 20003 := by unfold pFl; rw [List.map_replicate, List.reverse_replicate]
def zAr (tp c0 : Nat) : Nat → Nat → Prop := fun b k => (b = 16 ∧ ((3 ≤ k ∧ k ≤ 6) ∨ (8 ≤ k ∧ k ≤ 10) ∨ (12 ≤ k ∧ k ≤ 14))) ∨ b = 17 ∨ (b = tp ∧ k = 9) ∨ (b = tp + 4 ∧ c0 ≤ k)
def zBc (wv : Bool) (h0 : zH) (B : Nat → Nat) (N tp : Nat) : Prop := zTbc h0 B N ∧ zI h0 16 11 = nI (if wv = true then 0 else 1) ∧ (tp = 2 ∨ tp = 9)
def zCS (h0 : zH) (B : Nat → Nat) (N tp c0 : Nat) (h : zH) (x : Nat) (W C : List Nat) (a : Nat) : Prop := zfr (zAr tp c0) h0 h ∧ zTC h B N x ∧ zI h 16 8 = nI W.length ∧ (∀ i, i < W.length → zI h 17 i = nI (W.getD i 0)) ∧ zI h 16 9 = nI a ∧ zI h tp 9 = nI (c0 + C.length) ∧ ∀ i, i < C.length → zI h (tp + 4) (c0 + i) = nI (C.getD i 0)
def zDu (h : zH) (nf m bg : Nat) : Prop := zI h 16 12 = nI 1 ∧ zI h 16 13 = nI nf ∧ zI h 16 10 = nI m ∧ zI h 16 14 = nI bg
section PC
variable {wv : Bool} {h0 h : zH} {B : Nat → Nat} {N tp c0 x a : Nat} {W C : List Nat}
theorem zBc.tb (w : zBc wv h0 B N tp) (s : zCS h0 B N tp c0 h x W C a) : zTbc h B N := w.1.fr s.1 (fun b k e => by have := w.2.2; unfold zAr; omega)
theorem zBc.fl (w : zBc wv h0 B N tp) (s : zCS h0 B N tp c0 h x W C a) : zI h 16 11 = nI (if wv = true then 0 else 1) := by
  rw [s.1.i (by have := w.2.2; unfold zAr; omega)]; exact w.2.1
theorem v_emit (w : zBc wv h0 B N tp) (s : zCS h0 B N tp c0 h x W C a) (hC : c0 + C.length < 700) (c : Nat) : ∃ h', s_X4_emit tp (nI c) h = some h' ∧ zCS h0 B N tp c0 h' x W (C ++ [c]) a ∧ zfr (fun b k => (b = tp ∧ k = 9) ∨ (b = tp + 4 ∧ c0 ≤ k)) h h' := by
  obtain ⟨s1, s2, s3, s4, s5, s6, s7⟩ := s
  have w3 := w.2.2
  have en : (C ++ [c]).length = C.length + 1 := by rw [List.length_append, List.length_singleton]
  rw [s_X4_emit, s6, if_neg (show ¬ (700 : Int32) ≤ nI (c0 + C.length) from nI_ge (b := 700) hC (by omega)), zq_ix hC (by omega), zlt_e, zlt_e, zI_wI, if_neg (by omega), s6, show nI (c0 + C.length) + 1 = nI (c0 + (C.length + 1)) by rw [← Nat.add_assoc]; exact nI_1 _]
  have f1 : zfr (fun b k => (b = tp ∧ k = 9) ∨ (b = tp + 4 ∧ k = c0 + C.length)) h (zwI (zwI h (tp + 4) (c0 + C.length) (nI c)) tp 9 (nI (c0 + (C.length + 1)))) := (zfr.wI (tp + 4) _ _ (Or.inr ⟨rfl, rfl⟩)).w tp 9 _ (Or.inl ⟨rfl, rfl⟩)
  refine ⟨_, rfl, ⟨s1.tr (f1.mo (fun b k e => by unfold zAr; omega)), s2.fr f1 (fun b k e => by omega), ?_, fun i hi => ?_, ?_, ?_, fun i hi => ?_⟩, f1.mo (fun b k e => by omega)⟩
  · rw [f1.i (by omega)]; exact s3
  · rw [f1.i (by omega)]; exact s4 i hi
  · rw [f1.i (by omega)]; exact s5
  · rw [zI_wI, if_pos rfl, if_pos rfl, en]
  · rw [en] at hi
    rw [l_getD, zI_wI, if_neg (by omega), zI_wI, if_pos rfl]
    by_cases q : i < C.length
    · rw [if_pos q, if_neg (by omega)]; exact s7 i q
    · rw [if_neg q, if_pos (by omega), if_pos (by omega)]
theorem v_hold (w : zBc wv h0 B N tp) (s : zCS h0 B N tp c0 h x W C a) (hW : W.length < 100) (o : Nat) : ∃ h', s_X4_hold tp (nI o) h = some h' ∧ zCS h0 B N tp c0 h' x (W ++ [o]) C a ∧ zfr (fun b k => b = 17 ∨ (b = 16 ∧ k = 8)) h h' := by
  obtain ⟨s1, s2, s3, s4, s5, s6, s7⟩ := s
  have w3 := w.2.2
  have en : (W ++ [o]).length = W.length + 1 := by rw [List.length_append, List.length_singleton]
  rw [s_X4_hold, s3, zq_of, if_neg (nI_ge hW (by omega)), zq_ix hW (by omega), zlt_e, zlt_e, zI_wI, if_neg (by omega), s3, show nI W.length + 1 = nI (W.length + 1) from nI_1 _]
  have f1 : zfr (fun b k => (b = 17 ∧ k = W.length) ∨ (b = 16 ∧ k = 8)) h (zwI (zwI h 17 W.length (nI o)) 16 8 (nI (W.length + 1))) := (zfr.wI 17 _ _ (Or.inl ⟨rfl, rfl⟩)).w 16 8 _ (Or.inr ⟨rfl, rfl⟩)
  refine ⟨_, rfl, ⟨s1.tr (f1.mo (fun b k e => by unfold zAr; omega)), s2.fr f1 (fun b k e => by omega), ?_, fun i hi => ?_, ?_, ?_, fun i hi => ?_⟩, f1.mo (fun b k e => by omega)⟩
  · rw [zI_wI, if_pos rfl, if_pos rfl, en]
  · rw [en] at hi
    rw [l_getD, zI_wI, if_neg (by omega), zI_wI, if_pos rfl]
    by_cases q : i < W.length
    · rw [if_pos q, if_neg (by omega)]; exact s4 i q
    · rw [if_neg q, if_pos (by omega), if_pos (by omega)]
  · rw [f1.i (by omega)]; exact s5
  · rw [f1.i (by omega)]; exact s6
  · rw [f1.i (by omega)]; exact s7 i hi
theorem v_adv (w : zBc wv h0 B N tp) (s : zCS h0 B N tp c0 h x W C a) (hx : x ≤ N) : ∃ h', s_X4_advance tp h = some h' ∧ zCS h0 B N tp c0 h' (tE B N x) W C a ∧ zfr (fun b k => b = 16 ∧ 3 ≤ k ∧ k ≤ 6) h h' := by
  have tb := w.tb s
  obtain ⟨s1, s2, s3, s4, s5, s6, s7⟩ := s
  have w3 := w.2.2
  obtain ⟨h1, e1, t1, f1⟩ := k_adv (tp := tp) tb (tE_le (B := B) hx).2.1 s2.2.1
  refine ⟨h1, e1, ⟨s1.tr (f1.mo (fun b k e => by unfold zAr; omega)), t1, ?_, fun i hi => ?_, ?_, ?_, fun i hi => ?_⟩, f1⟩
  · rw [f1.i (by omega)]; exact s3
  · rw [f1.i (by omega)]; exact s4 i hi
  · rw [f1.i (by omega)]; exact s5
  · rw [f1.i (by omega)]; exact s6
  · rw [f1.i (by omega)]; exact s7 i hi
/-- some other cells are written -/
theorem zCS.fr {A : Nat → Nat → Prop} {h1 : zH} (w : zBc wv h0 B N tp) (s : zCS h0 B N tp c0 h x W C a) (f : zfr A h h1) (q : ∀ b k, A b k → b = 16 ∧ (k = 10 ∨ (12 ≤ k ∧ k ≤ 14))) : zCS h0 B N tp c0 h1 x W C a := by
  obtain ⟨s1, s2, s3, s4, s5, s6, s7⟩ := s
  have w3 := w.2.2
  have n : ∀ b k, ¬ (b = 16 ∧ (k = 10 ∨ (12 ≤ k ∧ k ≤ 14))) → ¬ A b k := fun b k z e => z (q b k e)
  refine ⟨s1.tr (f.mo (fun b k e => by have := q b k e; unfold zAr; omega)), s2.fr f (fun b k e => n b k (by omega)), ?_, fun i hi => ?_, ?_, ?_, fun i hi => ?_⟩
  · rw [f.i (n _ _ (by omega))]; exact s3
  · rw [f.i (n _ _ (by omega))]; exact s4 i hi
  · rw [f.i (n _ _ (by omega))]; exact s5
  · rw [f.i (n _ _ (by omega))]; exact s6
  · rw [f.i (n _ _ (by omega))]; exact s7 i hi
theorem zCS.dep {h1 : zH} {v : Nat} (w : zBc wv h0 B N tp) (s : zCS h0 B N tp c0 h x W C a) (e1 : h1 = zwI h 16 9 (nI v)) : zCS h0 B N tp c0 h1 x W C v := by
  subst e1
  obtain ⟨s1, s2, s3, s4, s5, s6, s7⟩ := s
  have w3 := w.2.2
  have f : zfr (fun b k => b = 16 ∧ k = 9) h (zwI h 16 9 (nI v)) := zfr.wI _ _ _ ⟨rfl, rfl⟩
  refine ⟨s1.tr (f.mo (fun b k e => by unfold zAr; omega)), s2.fr f (fun b k e => by omega), ?_, fun i hi => ?_, ?_, ?_, fun i hi => ?_⟩
  · rw [f.i (by omega)]; exact s3
  · rw [f.i (by omega)]; exact s4 i hi
  · rw [zI_wI, if_pos rfl, if_pos rfl]
  · rw [f.i (by omega)]; exact s6
  · rw [f.i (by omega)]; exact s7 i hi
theorem v_exp (w : zBc wv h0 B N tp) (s : zCS h0 B N tp c0 h x W C a) {nf : Nat} (hn : nf ≤ 1) : ∃ h', s_X4_expectPart tp (nI nf) h = some h' ∧ zCS h0 B N tp c0 h' x W C a ∧ zDu h' nf 0 0 := by
  have zb : ∀ X : Option zH, zbo (nI nf) X = X := by
    intro X
    have e : nf = 0 ∨ nf = 1 := by omega
    rcases e with e | e <;> subst e <;> rfl
  rw [s_X4_expectPart, zlt_e, zb, zlt_e, zlt_e, zlt_e]
  have f1 : zfr (fun b k => b = 16 ∧ (k = 10 ∨ (12 ≤ k ∧ k ≤ 14))) h (zwI (zwI (zwI (zwI h 16 12 1) 16 13 (nI nf)) 16 10 0) 16 14 0) := (((zfr.wI 16 12 _ (by omega)).w 16 13 _ (by omega)).w 16 10 _ (by omega)).w 16 14 _ (by omega)
  refine ⟨_, rfl, s.fr w f1 (fun b k e => e), ?_, ?_, ?_, ?_⟩
  · rw [zI_wI, if_pos rfl, if_neg (by decide), zI_wI, if_pos rfl, if_neg (by decide), zI_wI, if_pos rfl, if_neg (by decide), zI_wI, if_pos rfl, if_pos rfl]; rfl
  · rw [zI_wI, if_pos rfl, if_neg (by decide), zI_wI, if_pos rfl, if_neg (by decide), zI_wI, if_pos rfl, if_pos rfl]
  · rw [zI_wI, if_pos rfl, if_neg (by decide), zI_wI, if_pos rfl, if_pos rfl]; rfl
  · rw [zI_wI, if_pos rfl, if_pos rfl]; rfl
/-- the top of a stack -/
theorem l_last {W : List Nat} (n : W ≠ []) : ∃ V o, W = V ++ [o] := ⟨W.dropLast, W.getLast n, (List.dropLast_concat_getLast n).symm⟩
/-- a stack of operations whose top has a rank below r -/
def pTop (W : List Nat) (r : Nat) : Prop := (∀ o, o ∈ W → o < 10) ∧ ∀ V o, W = V ++ [o] → rk o < r
theorem v_pop {o : Nat} (s : zCS h0 B N tp c0 h x (W ++ [o]) C a) : zI h 16 8 = nI (W.length + 1) ∧ zI h 17 W.length = nI o := by
  obtain ⟨s1, s2, s3, s4, s5, s6, s7⟩ := s
  have en : (W ++ [o]).length = W.length + 1 := by rw [List.length_append, List.length_singleton]
  rw [en] at s3 s4
  refine ⟨s3, ?_⟩
  rw [s4 W.length (by omega), l_getD, if_neg (by omega), if_pos rfl]
theorem v_wo (w : zBc wv h0 B N tp) {r : Nat} (hr : r ≤ 6) : ∀ k S n h C, S.length = k → k < n → zCS h0 B N tp c0 h x (W ++ S) C a → (∀ o, o ∈ S → o < 10 ∧ r ≤ rk o) → pTop W r → (W ++ S).length ≤ 100 → c0 + C.length + S.length ≤ 700 → ∃ h', s_X4_workOut_L0 tp n (nI r) h = some h' ∧ zCS h0 B N tp c0 h' x W (C ++ pFl S) a ∧ zfr (fun b k => (b = 16 ∧ k = 8) ∨ (b = tp ∧ k = 9) ∨ (b = tp + 4 ∧ c0 ≤ k)) h h' := by
  have w3 := w.2.2
  intro k
  induction k with
  | zero =>
    intro S n h C hS hn s hb ht hl hc
    obtain ⟨n, rfl, -⟩ := zq_suc hn
    have e : S = [] := List.length_eq_zero_iff.mp hS
    subst e
    rw [List.append_nil] at s hl
    refine ⟨h, ?_, by rw [pFl_nil, List.append_nil]; exact s, zfr.rf _ h⟩
    rw [s_X4_workOut_L0]
    by_cases q : W = []
    · rw [s.2.2.1, q, if_pos (by decide)]
    · obtain ⟨V, o, rfl⟩ := l_last q
      obtain ⟨p1, p2⟩ := v_pop s
      have o10 := ht.1 o (by simp)
      have or := ht.2 V o rfl
      obtain ⟨z1, z2⟩ := zrk_n o10
      rw [List.length_append, List.length_singleton] at hl
      rw [p1, if_neg (nI_nle (by omega) (by omega)), nI_pred, zq_ix (by omega) (by omega), p2, zq_ix o10 (by omega), z1, if_pos (nI_lt or (by omega))]
  | succ k ih =>
    intro S n h C hS hn s hb ht hl hc
    obtain ⟨n, rfl, hn2⟩ := zq_suc hn
    have ne : S ≠ [] := by intro e; rw [e] at hS; cases hS
    obtain ⟨T, o, rfl⟩ := l_last ne
    rw [← List.append_assoc] at s hl
    obtain ⟨p1, p2⟩ := v_pop s
    obtain ⟨o10, or⟩ := hb o (by simp)
    obtain ⟨z1, z2⟩ := zrk_n o10
    rw [List.length_append, List.length_singleton] at hl hS
    rw [List.length_append, List.length_singleton] at hc
    have f1 : zfr (fun b k => b = 16 ∧ k = 8) h (zwI h 16 8 (nI (W ++ T).length)) := zfr.wI _ _ _ ⟨rfl, rfl⟩
    have s1 : zCS h0 B N tp c0 (zwI h 16 8 (nI (W ++ T).length)) x (W ++ T) C a := by
      obtain ⟨s1, s2, s3, s4, s5, s6, s7⟩ := s
      refine ⟨s1.tr (f1.mo (fun b k e => by unfold zAr; omega)), s2.fr f1 (fun b k e => by omega), ?_, fun i hi => ?_, ?_, ?_, fun i hi => ?_⟩
      · rw [zI_wI, if_pos rfl, if_pos rfl]
      · have := s4 i (by rw [List.length_append, List.length_singleton]; omega)
        rw [l_getD, if_pos hi] at this
        rw [f1.i (by omega)]; exact this
      · rw [f1.i (by omega)]; exact s5
      · rw [f1.i (by omega)]; exact s6
      · rw [f1.i (by omega)]; exact s7 i hi
    rw [s_X4_workOut_L0, p1, if_neg (nI_nle (by omega) (by omega)), nI_pred, zq_ix (by omega) (by omega), p2, zq_ix o10 (by omega), z1, if_neg (nI_nlt or (by omega)), zlt_e, zI_wI, if_pos rfl, if_pos rfl, zq_ix (by omega) (by omega), f1.i (by omega), p2, show (20000 : Int32) + nI o = nI (20000 + o) from nI_add 20000 o]
    generalize zwI h 16 8 (nI (W ++ T).length) = h1 at f1 s1 ⊢
    obtain ⟨h2, e2, s2, f2⟩ := v_emit w s1 (by omega) (20000 + o)
    obtain ⟨h3, e3, s3, f3⟩ := ih T n h2 (C ++ [20000 + o]) (by omega) (by omega) s2 (fun o ho => hb o (List.mem_append_left _ ho)) ht (by omega) (by rw [List.length_append, List.length_singleton]; omega)
    refine ⟨h3, by rw [e2, ob_e]; exact e3, ?_, ((f1.mo (fun b k e => by omega)).tr (f2.mo (fun b k e => by omega))).tr f3⟩
    rw [pFl_a]
    rw [List.append_assoc] at s3
    exact s3
theorem v_wo0 (w : zBc wv h0 B N tp) {r : Nat} (hr : r ≤ 6) {S : List Nat} (s : zCS h0 B N tp c0 h x (W ++ S) C a) (hb : ∀ o, o ∈ S → o < 10 ∧ r ≤ rk o) (ht : pTop W r) (hl : (W ++ S).length ≤ 100) (hc : c0 + C.length + S.length ≤ 700) : ∃ h', s_X4_workOut tp (nI r) h = some h' ∧ zCS h0 B N tp c0 h' x W (C ++ pFl S) a ∧ zfr (fun b k => (b = 16 ∧ k = 8) ∨ (b = tp ∧ k = 9) ∨ (b = tp + 4 ∧ c0 ≤ k)) h h' := by
  rw [s_X4_workOut]
  exact v_wo w hr S.length S zfu h C rfl (zq_fu (by rw [List.length_append] at hl; omega)) s hb ht hl hc
end PC
