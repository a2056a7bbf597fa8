/-! ===== the parser in the class: a loop's steps ===== -/
def qSgn (c : Nat) : Nat := if c = 42 then 8 else if c = 43 then 6 else if c = 45 then 7 else if c = 47 then 9 else if c = 60 then 4 else if c = 61 then 5 else 0
def tOn (B : Nat → Nat) (N x : Nat) : Nat := if tK B N x = 2 then (if tW B N x 15 = true then 1 else if tW B N x 16 = true then 2 else 0) else if tK B N x = 4 then qSgn (B (tP B N x)) else 0
theorem qSgn_all : (List.range 256).all (fun b => decide ((if (nI b).toInt8.toInt32 = 42 then (some (8 : Int32)) else if (nI b).toInt8.toInt32 = 43 then (some (6 : Int32)) else if (nI b).toInt8.toInt32 = 44 then (some (-1 : Int32)) else if (nI b).toInt8.toInt32 = 45 then (some (7 : Int32)) else if (nI b).toInt8.toInt32 = 46 then (some (-1 : Int32)) else if (nI b).toInt8.toInt32 = 47 then (some (9 : Int32)) else if (nI b).toInt8.toInt32 = 48 then (some (-1 : Int32)) else if (nI b).toInt8.toInt32 = 49 then (some (-1 : Int32)) else if (nI b).toInt8.toInt32 = 50 then (some (-1 : Int32)) else if (nI b).toInt8.toInt32 = 51 then (some (-1 : Int32)) else if (nI b).toInt8.toInt32 = 52 then (some (-1 : Int32)) else if (nI b).toInt8.toInt32 = 53 then (some (-1 : Int32)) else if (nI b).toInt8.toInt32 = 54 then (some (-1 : Int32)) else if (nI b).toInt8.toInt32 = 55 then (some (-1 : Int32)) else if (nI b).toInt8.toInt32 = 56 then (some (-1 : Int32)) else if (nI b).toInt8.toInt32 = 57 then (some (-1 : Int32)) else if (nI b).toInt8.toInt32 = 58 then (some (-1 : Int32)) else if (nI b).toInt8.toInt32 = 59 then (some (-1 : Int32)) else if (nI b).toInt8.toInt32 = 60 then (some (4 : Int32)) else if (nI b).toInt8.toInt32 = 61 then (some (5 : Int32)) else (some (-1 : Int32))) = some (if qSgn b = 0 then nM else nI (qSgn b)))) = true := by decide +kernel
theorem qSgn_lt (c : Nat) : qSgn c < 10 := by
  unfold qSgn
  split
  · omega
  · split
    · omega
    · split
      · omega
      · split
        · omega
        · split
          · omega
          · split <;> omega
theorem tOn_lt (B : Nat → Nat) (N x : Nat) : tOn B N x < 10 := by
  unfold tOn
  split
  · split
    · omega
    · split <;> omega
  · split
    · exact qSgn_lt _
    · omega
def pGo (tp ru M i : Nat) (h : zH) : Option (Int32 × zH) := s_X4_readRule_L32 tp ru (M - i) (nI i) h
section PL
variable {wv : Bool} {h0 h : zH} {B : Nat → Nat} {N tp c0 x a ru M i : Nat} {W C : List Nat}
theorem v_opn (w : zBc wv h0 B N tp) (s : zCS h0 B N tp c0 h x W C a) (hx : x ≤ N) : s_X4_operationNamed tp h = some (if tOn B N x = 0 then nM else nI (tOn B N x)) := by
  have tb := w.tb s
  have t := s.2.1
  have hk := tK_le (B := B) (N := N) (x := x)
  rw [s_X4_operationNamed, t.2.2.1]
  unfold tOn
  by_cases q2 : tK B N x = 2
  · rw [if_neg (fun n => n (by rw [q2]; rfl)), if_pos q2, k_isW tb t hx (d := 15) (by omega), ob_e, k_isW tb t hx (d := 16) (by omega), ob_e]
    cases h15 : tW B N x 15 with
    | true => rw [if_neg (by decide)]; rfl
    | false =>
      rw [if_pos (show nI false.toNat = 0 from rfl)]
      cases h16 : tW B N x 16 with
      | true => rw [if_neg (by decide)]; rfl
      | false => rw [if_pos (show nI false.toNat = 0 from rfl)]; rfl
  · rw [if_pos (show ¬ nI (tK B N x) = (2 : Int32) from nI_ne (b := 2) q2 (by omega) (by omega)), if_neg q2]
    by_cases q4 : tK B N x = 4
    · have p := (tK_p (B := B) (N := N) (x := x) (by omega)).1
      have hb := tb.2.2 _ p
      have hN := tb.1
      rw [if_neg (fun n => n (by rw [q4]; rfl)), if_pos q4, t.1, tb.2.1, if_pos (nI_lt p (by omega)), zq_ix (by omega) (by omega), hb.2]
      exact of_decide_eq_true (v_all qSgn_all hb.1)
    · rw [if_pos (show ¬ nI (tK B N x) = (4 : Int32) from nI_ne (b := 4) q4 (by omega) (by omega)), if_neg q4]
      rfl
/-- it goes on behind a token -/
theorem v_J65 (w : zBc wv h0 B N tp) (hM : 800 ≤ M) (hi : i < 700) (s : zCS h0 B N tp c0 h x W C a) (hx : x ≤ N) : ∃ h4, s_X4_readRule_J65 tp ru (s_X4_readRule_L32 tp ru (M - (i + 1))) (nI i) (nI 0) h = pGo tp ru M (i + 1) h4 ∧ zCS h0 B N tp c0 h4 (tE B N x) W C a ∧ zfr (fun b k => b = 16 ∧ 3 ≤ k ∧ k ≤ 6) h h4 := by
  obtain ⟨h4, e4, s4, f4⟩ := v_adv w s hx
  refine ⟨h4, ?_, s4, f4⟩
  rw [s_X4_readRule_J65, if_pos (show nI 0 = 0 from rfl), e4, ob_e, show nI i + 1 = nI (i + 1) from nI_1 i]
  rfl
theorem v_J65n {k : Nat} (hk : 1 ≤ k) (hk2 : k ≤ 5) : s_X4_readRule_J65 tp ru (s_X4_readRule_L32 tp ru (M - (i + 1))) (nI i) (nI k) h = some (nI k, h) := by
  rw [s_X4_readRule_J65, if_neg (nI_ne0 (by omega) (by omega))]
theorem v_due (hM : 800 ≤ M) (hi : i < 700) (d : zI h 16 12 = nI 1) : pGo tp ru M i h = zbd (s_X4_readPart tp h) fun v4 h3 => s_X4_readRule_J65 tp ru (s_X4_readRule_L32 tp ru (M - (i + 1))) (nI i) v4 h3 := by
  unfold pGo
  rw [show M - i = (M - (i + 1)) + 1 by omega, s_X4_readRule_L32, if_neg (show ¬ (700 : Int32) ≤ nI i from nI_ge (b := 700) hi (by omega)), d, if_pos (by decide), s_X4_readRule_J57, d, if_neg (by decide)]
theorem v_nd (w : zBc wv h0 B N tp) (hM : 800 ≤ M) (hi : i < 700) (s : zCS h0 B N tp c0 h x W C a) (hx : x ≤ N) (ha : a ≤ 6) (d : zI h 16 12 = nI 0) (q : a ≠ 0 ∨ tM B N x 59 = false) : pGo tp ru M i h = zbd (s_X4_readOperation tp h) fun v4 h3 => s_X4_readRule_J65 tp ru (s_X4_readRule_L32 tp ru (M - (i + 1))) (nI i) v4 h3 := by
  unfold pGo
  have tb := w.tb s
  have j57 : s_X4_readRule_J57 tp ru (s_X4_readRule_L32 tp ru (M - (i + 1))) (nI i) h = zbd (s_X4_readOperation tp h) fun v4 h3 => s_X4_readRule_J65 tp ru (s_X4_readRule_L32 tp ru (M - (i + 1))) (nI i) v4 h3 := by
    rw [s_X4_readRule_J57, d, if_pos (show nI 0 = 0 from rfl)]
  rw [show M - i = (M - (i + 1)) + 1 by omega, s_X4_readRule_L32, if_neg (show ¬ (700 : Int32) ≤ nI i from nI_ge (b := 700) hi (by omega)), d, if_neg (fun n => n rfl), s.2.2.2.2.1]
  by_cases qa : a = 0
  · rw [if_neg (fun n => n (by rw [qa]; rfl)), show s_X4_isSign tp (59 : Int32) h = _ from k_isS tb s.2.1 hx (c := 59) (by omega), ob_e, q.resolve_left (fun n => n qa), if_pos (show nI false.toNat = 0 from rfl), j57]
  · rw [if_pos (nI_ne0 (by omega) (by omega)), j57]
/-- an operation that isn't a parenthesis -/
theorem v_rop (w : zBc wv h0 B N tp) (s : zCS h0 B N tp c0 h x W C a) (hx : x ≤ N) (ha : a ≤ 6) (q : a = 0 ∨ tM B N x 41 = false) : s_X4_readOperation tp h = s_X4_readOperation_J26 tp h := by
  have tb := w.tb s
  rw [s_X4_readOperation, s.2.2.2.2.1]
  by_cases qa : a = 0
  · rw [qa, if_pos (by decide)]
  · rw [if_neg (nI_nle (by omega) (by omega)), show s_X4_isSign tp (41 : Int32) h = _ from k_isS tb s.2.1 hx (c := 41) (by omega), ob_e, q.resolve_left qa, if_pos (show nI false.toNat = 0 from rfl)]
theorem v_J67 (w : zBc wv h0 B N tp) (s : zCS h0 B N tp c0 h x W C a) (hW : W.length < 100) {o r : Nat} (hr : r ≤ 6) : ∃ h', s_X4_readOperation_J67 tp (nI o) (nI r) h = some (nI 0, h') ∧ zCS h0 B N tp c0 h' x (W ++ [o]) C a ∧ zDu h' (if r ≤ 2 then 1 else 0) 0 0 := by
  obtain ⟨h1, e1, s1, -⟩ := v_hold w s hW o
  rw [s_X4_readOperation_J67, e1, ob_e]
  by_cases q : r ≤ 2
  · obtain ⟨h2, e2, s2, d2⟩ := v_exp w s1 (nf := 1) (by omega)
    rw [if_neg (show ¬ (2 : Int32) < nI r from nI_nlt (a := 2) q (by omega)), s_X4_readOperation_J77, show s_X4_expectPart tp (1 : Int32) h1 = some h2 from e2, ob_e, if_pos q]
    exact ⟨h2, rfl, s2, d2⟩
  · obtain ⟨h2, e2, s2, d2⟩ := v_exp w s1 (nf := 0) (by omega)
    rw [if_pos (show (2 : Int32) < nI r from nI_lt (a := 2) (by omega) (by omega)), s_X4_readOperation_J77, show s_X4_expectPart tp (0 : Int32) h1 = some h2 from e2, ob_e, if_neg q]
    exact ⟨h2, rfl, s2, d2⟩
theorem nI_nM {n : Nat} (h : n < 2 ^ 31) : ¬ nI n = (-1 : Int32) := fun e => by
  have : (nI n = nM) = False := zq_eM h
  rw [← this]; exact e
/-- an operation of rank r is read -/
theorem v_op (w : zBc wv h0 B N tp) (hM : 800 ≤ M) (hi : i < 700) {S : List Nat} (s : zCS h0 B N tp c0 h x (W ++ S) C a) (hx : x ≤ N) (ha : a ≤ 6) (d : zI h 16 12 = nI 0) {o r : Nat} (ho : tOn B N x = o) (o1 : 1 ≤ o) (hr : rk o = r) (r1 : 1 ≤ r) (q59 : tM B N x 59 = false) (q41 : tM B N x 41 = false)
    (hb : ∀ o, o ∈ S → o < 10 ∧ r ≤ rk o ∧ (r = 4 → 5 ≤ rk o)) (ht : pTop W r) (hl : (W ++ S).length < 100) (hc : c0 + C.length + S.length ≤ 700) : ∃ h', pGo tp ru M i h = pGo tp ru M (i + 1) h' ∧ zCS h0 B N tp c0 h' (tE B N x) (W ++ [o]) (C ++ pFl S) a ∧ zDu h' (if r ≤ 2 then 1 else 0) 0 0 := by
  have o10 : o < 10 := by rw [← ho]; exact tOn_lt B N x
  obtain ⟨z1, z2⟩ := zrk_n o10
  rw [hr] at z1 z2
  have hW : W.length < 100 := by rw [List.length_append] at hl; omega
  have key : ∃ h3, s_X4_readOperation_J26 tp h = some (nI 0, h3) ∧ zCS h0 B N tp c0 h3 x (W ++ [o]) (C ++ pFl S) a ∧ zDu h3 (if r ≤ 2 then 1 else 0) 0 0 := by
    rw [s_X4_readOperation_J26, v_opn w s hx, ob_e, ho, if_neg (show ¬ o = 0 by omega), if_pos (nI_nM (by omega)), zq_ix o10 (by omega), z1]
    by_cases q4 : r = 4
    · subst q4
      obtain ⟨h1, e1, s1, -⟩ := v_wo0 w (r := 5) (by omega) s (fun o ho => ⟨(hb o ho).1, (hb o ho).2.2 rfl⟩) ⟨ht.1, fun V o e => by have := ht.2 V o e; omega⟩ (by omega) hc
      obtain ⟨h2, e2, s2, d2⟩ := v_J67 w s1 hW (o := o) (r := 4) (by omega)
      rw [if_neg (fun n => n rfl), s_X4_readOperation_J47, show nI 4 + (1 : Int32) = nI 5 from rfl, e1, ob_e, if_neg (fun n => n rfl)]
      by_cases qW : W = []
      · rw [s1.2.2.1, qW, if_pos (by decide), e2]
        rw [qW] at s2
        exact ⟨h2, rfl, s2, d2⟩
      · obtain ⟨V, t, rfl⟩ := l_last qW
        obtain ⟨p1, p2⟩ := v_pop s1
        have t10 := ht.1 t (by simp)
        have tr := ht.2 V t rfl
        obtain ⟨y1, y2⟩ := zrk_n t10
        rw [List.length_append, List.length_singleton] at hW
        rw [p1, if_neg (nI_nle (by omega) (by omega)), nI_pred, zq_ix (by omega) (by omega), p2, zq_ix t10 (by omega), y1, if_pos (nI_ne (by omega) (by omega) (by omega)), e2]
        exact ⟨h2, rfl, s2, d2⟩
    · obtain ⟨h1, e1, s1, -⟩ := v_wo0 w (r := r) (by omega) s (fun o ho => ⟨(hb o ho).1, (hb o ho).2.1⟩) ht (by omega) hc
      obtain ⟨h2, e2, s2, d2⟩ := v_J67 w s1 hW (o := o) (r := r) (by omega)
      rw [if_pos (show ¬ nI r = (4 : Int32) from nI_ne (b := 4) q4 (by omega) (by omega)), s_X4_readOperation_J47, e1, ob_e, if_pos (show ¬ nI r = (4 : Int32) from nI_ne (b := 4) q4 (by omega) (by omega)), e2]
      exact ⟨h2, rfl, s2, d2⟩
  obtain ⟨h3, e3, s3, d3⟩ := key
  obtain ⟨h4, e4, s4, f4⟩ := v_J65 (ru := ru) w hM hi s3 hx
  refine ⟨h4, ?_, s4, ?_⟩
  · rw [v_nd w hM hi s hx ha d (Or.inr q59), v_rop w s hx ha (Or.inr q41), e3, zbd_e]
    exact e4
  · obtain ⟨d1, d2, d5, d6⟩ := d3
    exact ⟨by rw [f4.i (by omega)]; exact d1, by rw [f4.i (by omega)]; exact d2, by rw [f4.i (by omega)]; exact d5, by rw [f4.i (by omega)]; exact d6⟩
/-- a second test: what waits ends in a test, and operations of a higher rank -/
def pQ (B : Nat → Nat) (N : Nat) (S : List Nat) (y : Nat) : Prop := tOt B N y ≠ 0 → ∃ S4 t S5, S = S4 ++ t :: S5 ∧ rk t = 4 ∧ ∀ o, o ∈ S5 → 5 ≤ rk o
theorem pQ_c {S : List Nat} {y o : Nat} (h : pQ B N S y) : pQ B N (o :: S) y := by
  intro z
  obtain ⟨S4, t, S5, e1, e2, e3⟩ := h z
  exact ⟨o :: S4, t, S5, by rw [e1]; rfl, e2, e3⟩
theorem pQ_a {S T : List Nat} {y : Nat} (h : pQ B N S y) : pQ B N (T ++ S) y := by
  intro z
  obtain ⟨S4, t, S5, e1, e2, e3⟩ := h z
  exact ⟨T ++ S4, t, S5, by rw [e1, List.append_assoc], e2, e3⟩
theorem tOn_t (h1 : tOp B N x = 0) (h2 : tOs B N x = 0) (h3 : tOa B N x = 0) (h4 : tOo B N x = 0) : tOn B N x = tOt B N x := by
  unfold tOp at h1
  unfold tOs at h2
  unfold tOa at h3
  unfold tOo at h4
  unfold tOn tOt
  have m := fun c => show tM B N x c = decide (tK B N x = 4 ∧ B (tP B N x) = c) from rfl
  by_cases q2 : tK B N x = 2
  · rw [if_pos q2]
    have n := fun c => show tM B N x c = false from decide_eq_false (fun z => by omega)
    cases h15 : tW B N x 15 with
    | true => rw [h15, if_pos rfl] at h4; cases h4
    | false =>
      cases h16 : tW B N x 16 with
      | true => rw [h16, if_pos rfl] at h3; cases h3
      | false => rw [n 60, n 61]; rfl
  · rw [if_neg q2]
    by_cases q4 : tK B N x = 4
    · rw [if_pos q4]
      have y := fun c => show (tM B N x c = true) = (B (tP B N x) = c) by rw [m c, decide_eq_true_eq]; exact propext ⟨fun z => z.2, fun z => ⟨q4, z⟩⟩
      simp only [y] at h1 h2 ⊢
      generalize B (tP B N x) = c at h1 h2 ⊢
      unfold qSgn
      by_cases c1 : c = 42
      · rw [if_pos c1] at h1; cases h1
      rw [if_neg c1] at h1 ⊢
      by_cases c2 : c = 47
      · rw [if_pos c2] at h1; cases h1
      by_cases c3 : c = 43
      · rw [if_pos c3] at h2; cases h2
      rw [if_neg c3] at h2 ⊢
      by_cases c4 : c = 45
      · rw [if_pos c4] at h2; cases h2
      rw [if_neg c4, if_neg c2]
    · have n := fun c => show tM B N x c = false from decide_eq_false (fun z => q4 z.1)
      rw [if_neg q4, n 60, n 61]
      rfl
/-- nothing that can stand there -/
theorem v_end (w : zBc wv h0 B N tp) (hM : 800 ≤ M) (hi : i < 700) {S : List Nat} (s : zCS h0 B N tp c0 h x (W ++ S) C a) (hx : x ≤ N) (ha : a ≤ 6) (d : zI h 16 12 = nI 0) (q0 : (a ≠ 0 ∧ tM B N x 41 = false) ∨ (a = 0 ∧ tM B N x 59 = false)) (h1 : tOp B N x = 0) (h2 : tOs B N x = 0) (h3 : tOa B N x = 0) (h4 : tOo B N x = 0) (hq : pQ B N S x)
    (hb : ∀ o, o ∈ S → o < 10) (hl : (W ++ S).length ≤ 100) (hW : ∀ o, o ∈ W → o < 10) (hc : c0 + C.length + S.length ≤ 700) : ∃ h', pGo tp ru M i h = some (nI 1, h') ∧ zI h' 16 3 = nI (tP B N x) ∧ zfr (zAr tp c0) h0 h' := by
  have key : ∃ h3, s_X4_readOperation_J26 tp h = some (nI 1, h3) ∧ zI h3 16 3 = nI (tP B N x) ∧ zfr (zAr tp c0) h0 h3 := by
    rw [s_X4_readOperation_J26, v_opn w s hx, ob_e, tOn_t h1 h2 h3 h4]
    by_cases q : tOt B N x = 0
    · rw [if_pos q, if_neg (fun n => n rfl)]
      exact ⟨h, rfl, s.2.1.1, s.1⟩
    · obtain ⟨S4, t, S5, e1, e2, e3⟩ := hq q
      have ov := tOt_v (B := B) (N := N) x q
      have r4 : rk (tOt B N x) = 4 := by
        unfold tOt at q ⊢
        split
        · rfl
        · split
          · rfl
          · rename_i z1 z2; rw [if_neg z1, if_neg z2] at q; exact absurd rfl q
      obtain ⟨z1, z2⟩ := zrk_n ov.2.1
      rw [r4] at z1
      have s5 : zCS h0 B N tp c0 h x (((W ++ S4) ++ [t]) ++ S5) C a := by
        have : ((W ++ S4) ++ [t]) ++ S5 = W ++ S := by rw [e1]; simp only [List.append_assoc, List.singleton_append]
        rw [this]; exact s
      have ls : S.length = S4.length + 1 + S5.length := by rw [e1, List.length_append, List.length_cons]; omega
      have hl2 := hl
      rw [List.length_append] at hl2
      have t10 : t < 10 := hb t (by rw [e1]; simp)
      obtain ⟨h6, e6, s6, f6⟩ := v_wo0 w (r := 5) (by omega) s5 (fun o ho => ⟨hb o (by rw [e1]; simp [ho]), e3 o ho⟩) ⟨fun o ho => by
        rcases List.mem_append.mp ho with z | z
        · rcases List.mem_append.mp z with y | y
          · exact hW o y
          · exact hb o (by rw [e1]; simp [y])
        · rw [List.mem_singleton.mp z]; exact t10, fun V o e => by
        have := (List.append_inj' e rfl).2
        cases this
        omega⟩ (by rw [List.length_append, List.length_append, List.length_append, List.length_singleton]; omega) (by omega)
      obtain ⟨p1, p2⟩ := v_pop s6
      obtain ⟨y1, y2⟩ := zrk_n t10
      have lw : (W ++ S4).length < 100 := by rw [List.length_append]; omega
      rw [if_neg q, if_pos (nI_nM (by omega)), zq_ix ov.2.1 (by omega), z1, if_neg (fun n => n rfl), s_X4_readOperation_J47, show nI 4 + (1 : Int32) = nI 5 from rfl, e6, ob_e, if_neg (fun n => n rfl), p1, if_neg (nI_nle (by omega) (by omega)), nI_pred, zq_ix lw (by omega), p2, zq_ix t10 (by omega), y1, e2, if_neg (fun n => n rfl)]
      exact ⟨h6, rfl, s6.2.1.1, s6.1⟩
  obtain ⟨h5, e5, g5, f5⟩ := key
  refine ⟨h5, ?_, g5, f5⟩
  rw [v_nd w hM hi s hx ha d (by rcases q0 with z | z; exact Or.inl z.1; exact Or.inr z.2), v_rop w s hx ha (by rcases q0 with z | z; exact Or.inr z.2; exact Or.inl z.1), e5, zbd_e, v_J65n (by omega) (by omega)]
end PL
