/-! ===== the parser in the reference ===== -/
def zAv (ti ri : Nat) : Nat → Nat → Prop := fun b k => zAu b k ∨ (b = 52 ∧ (k = 20 ∨ k = 21)) ∨ (b = 56 ∧ k = ti) ∨ (b = ri ∧ 700 ≤ k)
/-- the names of values -/
def zVls (wv : Bool) (h : zH) : Prop := match wv with
  | false => zR h 52 3 = some (54, 24, 5) ∧ zR h 54 0 = some (31, 30, 0) ∧ zR h 54 1 = some (32, 30, 0) ∧ zR h 54 2 = some (33, 30, 0) ∧ zR h 54 3 = some (34, 30, 0) ∧ zR h 54 4 = some (35, 30, 0)
  | true => zR h 52 3 = some (55, 24, 5) ∧ zR h 55 0 = some (36, 30, 0) ∧ zR h 55 1 = some (31, 30, 0) ∧ zR h 55 2 = some (32, 30, 0) ∧ zR h 55 3 = some (37, 30, 0) ∧ zR h 55 4 = some (35, 30, 0)
def zBa (wv : Bool) (h0 : zH) (B : Nat → Nat) (N ti ri : Nat) (g : Nat → Nat) : Prop := zTbm h0 B N ∧ zI h0 52 23 = nI wv.toNat ∧ ((wv = false ∧ ti = 10 ∧ ri = 60 ∧ g = qPr) ∨ (wv = true ∧ ti = 11 ∧ ri = 61 ∧ g = qPw)) ∧ zVls wv h0
def zRS (h0 : zH) (B : Nat → Nat) (N ti ri : Nat) (g : Nat → Nat) (h : zH) (x : Nat) (C : List Nat) : Prop := zfr (zAv ti ri) h0 h ∧ zTM h B N x ∧ zI h 52 20 = nI 0 ∧ zI h 56 ti = nI C.length ∧ ∀ i, i < C.length → zI h ri (700 + i) = qEn g (C.getD i 0)
def zBS (h0 : zH) (ti ri : Nat) (h : zH) (k p : Nat) : Prop := zfr (zAv ti ri) h0 h ∧ zI h 52 20 = nI k ∧ zI h 52 21 = nI p
def zOut (h0 : zH) (B : Nat → Nat) (N ti ri : Nat) (g : Nat → Nat) (F : Option zH) (C : List Nat) (r : pRs) : Prop := match r with
  | Sum.inl q => ∃ h', F = some h' ∧ zBS h0 ti ri h' q.1 q.2
  | Sum.inr q => ∃ h', F = some h' ∧ zRS h0 B N ti ri g h' q.1 (C ++ q.2)
def zLv (h0 : zH) (B : Nat → Nat) (N ti ri : Nat) (g : Nat → Nat) (sub : Nat → pRs) (F : zH → Option zH) : Prop := ∀ h x C, zRS h0 B N ti ri g h x C → x ≤ N → C.length ≤ x → zOut h0 B N ti ri g (F h) C (sub x)
theorem l_getD {C : List Nat} {c i : Nat} : (C ++ [c]).getD i 0 = if i < C.length then C.getD i 0 else if i = C.length then c else 0 := by
  rw [List.getD_eq_getElem?_getD, List.getD_eq_getElem?_getD, List.getElem?_append]
  split
  · rfl
  · rename_i q
    split
    · rename_i e; rw [e, Nat.sub_self]; rfl
    · rename_i e
      rw [List.getElem?_eq_none (by rw [List.length_singleton]; omega)]
      rfl
/-! what is at fault stays so -/
section BD
variable {h : zH} (b : ¬ zI h 52 20 = 0)
theorem b_lay (b : ¬ zI h 52 20 = 0) (c : Int32) : s_X11_lay c h = some h := by rw [s_X11_lay, if_neg b]
theorem b_mark (b : ¬ zI h 52 20 = 0) (c : Int32) : s_X11_mark c h = some h := by rw [s_X11_mark, if_pos b, s_X11_mark_J10, if_pos b]
theorem b_part (b : ¬ zI h 52 20 = 0) (rx : Int32 → zH → Option zH) (a : Int32) : s_X11_readPart rx a h = some h := by rw [s_X11_readPart, if_neg b]
theorem b_prodL (b : ¬ zI h 52 20 = 0) (rx : Int32 → zH → Option zH) (a : Int32) (n : Nat) : s_X11_readProduct_L3 rx (n + 1) a h = some h := by rw [s_X11_readProduct_L3, k_imB b, ob_e, if_neg (fun n => n rfl), k_imB b, ob_e, if_pos (show nI 0 = 0 from rfl)]
theorem b_zf : ∃ m, zfu = m + 1 := by
  obtain ⟨m, em, -⟩ := zq_suc (show 0 < zfu from zq_fu (by omega))
  exact ⟨m, em⟩
theorem b_prod (b : ¬ zI h 52 20 = 0) (rx : Int32 → zH → Option zH) (a : Int32) : s_X11_readProduct rx a h = some h := by
  obtain ⟨m, em⟩ := b_zf
  rw [s_X11_readProduct, b_part b, ob_e, em, b_prodL b]
theorem b_sumL (b : ¬ zI h 52 20 = 0) (rx : Int32 → zH → Option zH) (a : Int32) (n : Nat) : s_X11_readSum_L3 rx (n + 1) a h = some h := by rw [s_X11_readSum_L3, k_imB b, ob_e, if_neg (fun n => n rfl), k_imB b, ob_e, if_pos (show nI 0 = 0 from rfl)]
theorem b_sum (b : ¬ zI h 52 20 = 0) (rx : Int32 → zH → Option zH) (a : Int32) : s_X11_readSum rx a h = some h := by
  obtain ⟨m, em⟩ := b_zf
  rw [s_X11_readSum, b_prod b, ob_e, em, b_sumL b]
theorem b_nots (b : ¬ zI h 52 20 = 0) (rx : Int32 → zH → Option zH) {m : Nat} (hm : m ≤ 7) : ∀ k i n, i + k = m → k < n → s_X11_readNot_L48 rx n (nI m) (nI i) h = some h := by
  intro k
  induction k with
  | zero =>
    intro i n e hn
    obtain ⟨n, rfl, -⟩ := zq_suc hn
    rw [s_X11_readNot_L48, if_pos (nI_le (by omega) (by omega))]
  | succ k ih =>
    intro i n e hn
    obtain ⟨n, rfl, hn2⟩ := zq_suc hn
    rw [s_X11_readNot_L48, if_neg (nI_ge (by omega) (by omega)), b_lay b, ob_e, show nI i + 1 = nI (i + 1) from nI_1 i]
    exact ih (i + 1) n (by omega) (by omega)
theorem b_nots0 (b : ¬ zI h 52 20 = 0) (rx : Int32 → zH → Option zH) {m : Nat} (hm : m ≤ 7) : s_X11_readNot_L48 rx zfu (nI m) (0 : Int32) h = some h := b_nots b rx hm m 0 zfu (by omega) (zq_fu (by omega))
theorem b_notL (b : ¬ zI h 52 20 = 0) (rx : Int32 → zH → Option zH) (a : Int32) {m : Nat} (hm : m ≤ 7) (n : Nat) : s_X11_readNot_L2 rx (n + 1) a (nI m) h = some h := by
  rw [s_X11_readNot_L2, k_isB b, ob_e, if_pos (show nI 0 = 0 from rfl), b_sum b, ob_e, k_imB b, ob_e, if_neg (fun n => n rfl), k_imB b, ob_e, if_pos (show nI 0 = 0 from rfl), b_nots0 b rx hm]
theorem b_not (b : ¬ zI h 52 20 = 0) (rx : Int32 → zH → Option zH) (a : Int32) : s_X11_readNot rx a h = some h := by
  obtain ⟨m, em⟩ := b_zf
  rw [s_X11_readNot, em]
  exact b_notL b rx a (m := 0) (by omega) m
theorem b_andL (b : ¬ zI h 52 20 = 0) (rx : Int32 → zH → Option zH) (a : Int32) (n : Nat) : s_X11_readAnd_L3 rx (n + 1) a h = some h := by rw [s_X11_readAnd_L3, k_isB b, ob_e, if_pos (show nI 0 = 0 from rfl)]
theorem b_andx (b : ¬ zI h 52 20 = 0) (rx : Int32 → zH → Option zH) (a : Int32) : s_X11_readAnd rx a h = some h := by
  obtain ⟨m, em⟩ := b_zf
  rw [s_X11_readAnd, b_not b, ob_e, em, b_andL b]
theorem b_exL (b : ¬ zI h 52 20 = 0) (rx : Int32 → zH → Option zH) (a : Int32) (n : Nat) : s_X11_readExpression_L35 rx (n + 1) a h = some h := by rw [s_X11_readExpression_L35, k_isB b, ob_e, if_pos (show nI 0 = 0 from rfl)]
theorem b_ex32 (b : ¬ zI h 52 20 = 0) (rx : Int32 → zH → Option zH) (a : Int32) : s_X11_readExpression_J32 rx a h = some h := by
  obtain ⟨m, em⟩ := b_zf
  rw [s_X11_readExpression_J32, b_andx b, ob_e, em, b_exL b]
end BD
section UM
variable {wv : Bool} {h0 : zH} {B : Nat → Nat} {N ti ri : Nat} {g : Nat → Nat}
theorem zBS.bad {h : zH} {k p : Nat} (w : zBS h0 ti ri h k p) (h1 : 1 ≤ k) (h2 : k ≤ 5) : ¬ zI h 52 20 = 0 := by
  rw [w.2.1]
  exact nI_ne0 (by omega) (by omega)
theorem zBa.tb {h : zH} (w : zBa wv h0 B N ti ri g) (f : zfr (zAv ti ri) h0 h) : zTbm h B N := by
  obtain ⟨w1, w2, w3, w4⟩ := w
  exact w1.fr f (fun b k e => by unfold zAv zAu; omega)
theorem zBa.fl {h : zH} (w : zBa wv h0 B N ti ri g) (f : zfr (zAv ti ri) h0 h) : zI h 52 23 = nI wv.toNat := by
  obtain ⟨w1, w2, w3, w4⟩ := w
  rw [f.i (by unfold zAv zAu; omega)]; exact w2
theorem u_step (w : zBa wv h0 B N ti ri g) {h : zH} {x : Nat} {C : List Nat} (s : zRS h0 B N ti ri g h x C) (hx : x ≤ N) : ∃ h', s_X11_stepOn h = some h' ∧ zRS h0 B N ti ri g h' (tE B N x) C := by
  obtain ⟨s1, s2, s3, s4, s5⟩ := s
  obtain ⟨h1, e1, t1, f1⟩ := k_step (w.tb s1) (tE_le (B := B) hx).2.1 s2.1
  have w3 := w.2.2.1
  refine ⟨h1, e1, s1.tr (f1.mo (fun b k e => Or.inl e)), t1, ?_, ?_, fun i hi => ?_⟩
  · rw [f1.i (by unfold zAu; omega)]; exact s3
  · rw [f1.i (by unfold zAu; omega)]; exact s4
  · rw [f1.i (by unfold zAu; omega)]; exact s5 i hi
theorem u_wrong {h : zH} {x : Nat} {C : List Nat} (s : zRS h0 B N ti ri g h x C) (k : Nat) : ∃ h', s_X11_wrong (nI k) h = some h' ∧ zBS h0 ti ri h' k (tP B N x) := by
  obtain ⟨s1, s2, s3, s4, s5⟩ := s
  rw [s_X11_wrong, if_pos (show zI h 52 20 = 0 from s3), zlt_e, zlt_e]
  refine ⟨_, rfl, (s1.w 52 20 _ (by unfold zAv; omega)).w 52 21 _ (by unfold zAv; omega), ?_, ?_⟩
  · rw [zI_wI, if_pos rfl, if_neg (by decide), zI_wI, if_pos rfl, if_pos rfl]
  · rw [zI_wI, if_pos rfl, if_pos rfl, zI_wI, if_pos rfl, if_neg (by decide)]; exact s2.2.2.1
theorem u_layx (w : zBa wv h0 B N ti ri g) {h : zH} {x : Nat} {C : List Nat} (s : zRS h0 B N ti ri g h x C) (hC : C.length < 700) (c : Nat) : ∃ h', s_X11_lay (qEn g c) h = some h' ∧ zRS h0 B N ti ri g h' x (C ++ [c]) := by
  have fl := w.fl s.1
  obtain ⟨s1, s2, s3, s4, s5⟩ := s
  have w3 := w.2.2.1
  have en : (C ++ [c]).length = C.length + 1 := by rw [List.length_append, List.length_singleton]
  have done : zRS h0 B N ti ri g (zwI (zwI h ri (700 + C.length) (qEn g c)) 56 ti (nI (C.length + 1))) x (C ++ [c]) := by
    have f1 : zfr (fun b k => (b = ri ∧ k = 700 + C.length) ∨ (b = 56 ∧ k = ti)) h (zwI (zwI h ri (700 + C.length) (qEn g c)) 56 ti (nI (C.length + 1))) := (zfr.wI ri _ _ (Or.inl ⟨rfl, rfl⟩)).w 56 ti _ (Or.inr ⟨rfl, rfl⟩)
    refine ⟨s1.tr (f1.mo (fun b k e => by unfold zAv; omega)), s2.fr f1 (fun b k e => by unfold zAu at e; omega), ?_, ?_, fun i hi => ?_⟩
    · rw [f1.i (by omega)]; exact s3
    · rw [zI_wI, if_pos rfl, if_pos rfl, en]
    · rw [en] at hi
      rw [l_getD, zI_wI, if_neg (by omega), zI_wI, if_pos rfl]
      by_cases q : i < C.length
      · rw [if_pos q, if_neg (by omega)]; exact s5 i q
      · rw [if_neg q, if_pos (by omega), if_pos (by omega)]
  rw [s_X11_lay, if_pos (show zI h 52 20 = 0 from s3), fl]
  rcases w3 with ⟨rfl, rfl, rfl, rfl⟩ | ⟨rfl, rfl, rfl, rfl⟩
  · rw [if_pos (show nI false.toNat = 0 from rfl), s_X11_lay_J11, fl, if_pos (show nI false.toNat = 0 from rfl), show (6 : Int32) + 4 = nI 10 from rfl, zq_ix (by omega) (by omega), s4, show (700 : Int32) + nI C.length = nI (700 + C.length) from nI_add 700 _, zq_ix (by omega) (by omega), zlt_e, zq_ix (by omega) (by omega), zq_ix (by omega) (by omega), zlt_e, zI_wI, if_neg (by decide), s4, show nI C.length + 1 = nI (C.length + 1) from nI_1 _]
    exact ⟨_, rfl, done⟩
  · rw [if_neg (by decide), s_X11_lay_J11, fl, if_neg (by decide), show (6 : Int32) + 5 = nI 11 from rfl, zq_ix (by omega) (by omega), s4, show (700 : Int32) + nI C.length = nI (700 + C.length) from nI_add 700 _, zq_ix (by omega) (by omega), zlt_e, zq_ix (by omega) (by omega), zq_ix (by omega) (by omega), zlt_e, zI_wI, if_neg (by decide), s4, show nI C.length + 1 = nI (C.length + 1) from nI_1 _]
    exact ⟨_, rfl, done⟩
theorem u_is (w : zBa wv h0 B N ti ri g) {h : zH} {x : Nat} {C : List Nat} (s : zRS h0 B N ti ri g h x C) (hx : x ≤ N) {d : Nat} (hd : (2 ≤ d ∧ d ≤ 17) ∨ (29 ≤ d ∧ d ≤ 44)) : s_X11_is d h = some (nI (tW B N x d).toNat) := k_isM (w.tb s.1) s.2.1 s.2.2.1 hx hd
theorem u_im (w : zBa wv h0 B N ti ri g) {h : zH} {x : Nat} {C : List Nat} (s : zRS h0 B N ti ri g h x C) {c : Nat} (hc : c < 128) : s_X11_isMarked (nI c) h = some (nI (tM B N x c).toNat) := k_im (w.tb s.1) s.2.1 s.2.2.1 hc
/-- a sign that must stand there -/
theorem u_mark (w : zBa wv h0 B N ti ri g) {h : zH} {x : Nat} {C : List Nat} (s : zRS h0 B N ti ri g h x C) (hx : x ≤ N) {c : Nat} (hc : c < 128) : zOut h0 B N ti ri g (s_X11_mark (nI c) h) C (if tM B N x c = true then Sum.inr (tE B N x, []) else Sum.inl (1, tP B N x)) := by
  rw [s_X11_mark, if_neg (fun n => n (show zI h 52 20 = 0 from s.2.2.1)), u_im w s hc, ob_e]
  cases hq : tM B N x c with
  | true =>
    obtain ⟨h1, e1, s1⟩ := u_step w s hx
    rw [if_pos (by decide), if_pos rfl, s_X11_mark_J10, if_neg (fun n => n (show zI h 52 20 = 0 from s.2.2.1)), e1, ob_e]
    exact ⟨h1, rfl, by rw [List.append_nil]; exact s1⟩
  | false =>
    obtain ⟨h1, e1, s1⟩ := u_wrong s 1
    rw [if_neg (fun n => n rfl), if_neg (by decide), show s_X11_wrong (1 : Int32) h = some h1 from e1, ob_e, s_X11_mark_J10, if_pos (s1.bad (by omega) (by omega))]
    exact ⟨h1, rfl, s1⟩
theorem u_whL {h : zH} {b n : Nat} {q : Nat → Nat} {r : Nat → Bool} (hn : n ≤ 5) (hR : ∀ j, j < n → zR h b j = some (q j, 30, 0)) (hi : ∀ j, j < n → s_X11_is (q j) h = some (nI (r j).toNat)) : ∀ k i f, i + k = n → k < f → (∀ j, j < i → r j = false) → s_X11_which_L2 b n f (nI i) h = some (if fa_first r n < n then nI (fa_first r n) else nM) := by
  intro k
  induction k with
  | zero =>
    intro i f e hf hj
    obtain ⟨f, rfl, -⟩ := zq_suc hf
    have h1 := fa_first_le r n
    have h2 : ¬ fa_first r n < n := fun z => by
      have := fa_first_yes r n z
      rw [hj _ (by omega)] at this
      cases this
    rw [s_X11_which_L2, zq_of, if_pos (nI_le (by omega) (by omega)), if_neg h2]
    rfl
  | succ k ih =>
    intro i f e hf hj
    obtain ⟨f, rfl, hf2⟩ := zq_suc hf
    rw [s_X11_which_L2, zq_of, if_neg (nI_ge (by omega) (by omega))]
    unfold zvS zin
    rw [nI_clamp (by omega), decide_eq_false (nI_pos (n := i) (by omega)), decide_eq_true (show i < n by omega), hR i (by omega)]
    show ((s_X11_is (q i) h).bind fun v2 => if v2 = 0 then (s_X11_which_L2 b n f (nI i + (1 : Int32)) h) else (some (nI i))) = _
    rw [hi i (by omega), ob_e, show nI i + 1 = nI (i + 1) from nI_1 i]
    cases hr : r i with
    | true => rw [if_neg (by decide), fa_first_eq hr hj (by omega), if_pos (by omega)]
    | false =>
      rw [if_pos (show nI false.toNat = 0 from rfl)]
      exact ih (i + 1) f (by omega) (by omega) (fun j hj2 => by
        by_cases z : j = i
        · rw [z]; exact hr
        · exact hj j (by omega))
theorem fa_first5 (r : Nat → Bool) : (if fa_first r 5 < 5 then nI (fa_first r 5) else nM) = if r 0 = true then nI 0 else if r 1 = true then nI 1 else if r 2 = true then nI 2 else if r 3 = true then nI 3 else if r 4 = true then nI 4 else nM := by
  cases h0 : r 0 with
  | true => rw [fa_first_eq h0 (fun o ho => by omega) (by omega)]; rfl
  | false =>
    cases h1 : r 1 with
    | true =>
      rw [fa_first_eq (x := 1) h1 (fun o ho => by have e : o = 0 := by omega
                                                  rw [e]; exact h0) (by omega)]; rfl
    | false =>
      cases h2 : r 2 with
      | true =>
        rw [fa_first_eq (x := 2) h2 (fun o ho => by
          have e : o = 0 ∨ o = 1 := by omega
          rcases e with e | e <;> rw [e] <;> assumption) (by omega)]; rfl
      | false =>
        cases h3 : r 3 with
        | true =>
          rw [fa_first_eq (x := 3) h3 (fun o ho => by
            have e : o = 0 ∨ o = 1 ∨ o = 2 := by omega
            rcases e with e | e | e <;> rw [e] <;> assumption) (by omega)]; rfl
        | false =>
          cases h4 : r 4 with
          | true =>
            rw [fa_first_eq (x := 4) h4 (fun o ho => by
              have e : o = 0 ∨ o = 1 ∨ o = 2 ∨ o = 3 := by omega
              rcases e with e | e | e | e <;> rw [e] <;> assumption) (by omega)]; rfl
          | false =>
            have : ¬ fa_first r 5 < 5 := fun z => by
              have y := fa_first_yes r 5 z
              have e : fa_first r 5 = 0 ∨ fa_first r 5 = 1 ∨ fa_first r 5 = 2 ∨ fa_first r 5 = 3 ∨ fa_first r 5 = 4 := by omega
              rcases e with e | e | e | e | e <;> rw [e] at y <;> simp_all
            rw [if_neg this]; rfl
theorem w_ne : zTX.getD 10 [] ≠ zTX.getD 11 [] ∧ zTX.getD 10 [] ≠ zTX.getD 13 [] ∧ zTX.getD 8 [] ≠ zTX.getD 12 [] ∧ zTX.getD 9 [] ≠ zTX.getD 12 [] ∧ zTX.getD 10 [] ≠ zTX.getD 12 [] ∧ zTX.getD 10 [] ≠ zTX.getD 14 [] := by decide +kernel
/-- which value it is, in the reference -/
theorem u_val (w : zBa wv h0 B N ti ri g) {h : zH} {x : Nat} {C : List Nat} (s : zRS h0 B N ti ri g h x C) (hx : x ≤ N) (K : Int32 → Option zH) : (zvA h 52 3 fun b4 n5 => (s_X11_which b4 n5 h).bind K) = K (if pVal wv B N x = 5 then nM else nI (g (pVal wv B N x))) := by
  have wr : zVls wv h := by
    have := w.2.2.2
    unfold zVls at this ⊢
    rw [s.1.2.1]; exact this
  obtain ⟨n1, n2, n3, n4, n5, n6⟩ := w_ne
  have x1 := fun a b (n : zTX.getD a [] ≠ zTX.getD b []) => tW_ex (B := B) (N := N) (x := x) n
  have i := fun d hd => u_is w s hx (d := d) hd
  rcases w.2.2.1 with ⟨rfl, rfl, rfl, rfl⟩ | ⟨rfl, rfl, rfl, rfl⟩
  · obtain ⟨r0, r1, r2, r3, r4, r5⟩ := wr
    unfold zvA
    rw [r0]
    show (s_X11_which 54 5 h).bind K = _
    have e1 := tW_eq (B := B) (N := N) (x := x) (a := 31) (b := 8) (by decide +kernel)
    have e2 := tW_eq (B := B) (N := N) (x := x) (a := 32) (b := 9) (by decide +kernel)
    have e3 := tW_eq (B := B) (N := N) (x := x) (a := 33) (b := 11) (by decide +kernel)
    have e4 := tW_eq (B := B) (N := N) (x := x) (a := 34) (b := 13) (by decide +kernel)
    have e5 := tW_eq (B := B) (N := N) (x := x) (a := 35) (b := 10) (by decide +kernel)
    rw [s_X11_which, show s_X11_which_L2 54 5 zfu 0 h = _ from u_whL (q := fun j => 31 + j) (r := fun j => tW B N x (31 + j)) (Nat.le_refl 5) (fun j hj => by
      have e : j = 0 ∨ j = 1 ∨ j = 2 ∨ j = 3 ∨ j = 4 := by omega
      rcases e with e | e | e | e | e <;> subst e <;> assumption) (fun j hj => i (31 + j) (by omega)) 5 0 zfu (by omega) (zq_fu (by omega)) (fun j hj => by omega), ob_e, fa_first5]
    show K (if tW B N x 31 = true then nI 0 else if tW B N x 32 = true then nI 1 else if tW B N x 33 = true then nI 2 else if tW B N x 34 = true then nI 3 else if tW B N x 35 = true then nI 4 else nM) = _
    rw [e1, e2, e3, e4, e5]
    unfold pVal pVl
    rw [show tW B N x (if false = true then 12 else 11) = tW B N x 11 from rfl, show tW B N x (if false = true then 14 else 13) = tW B N x 13 from rfl]
    cases h8 : tW B N x 8 with
    | true => rfl
    | false =>
      cases h9 : tW B N x 9 with
      | true => rfl
      | false =>
        cases h10 : tW B N x 10 with
        | true => rw [x1 10 11 n1 h10, x1 10 13 n2 h10]; rfl
        | false =>
          cases h11 : tW B N x 11 with
          | true => rfl
          | false =>
            cases h13 : tW B N x 13 with
            | true => rfl
            | false => rfl
  · obtain ⟨r0, r1, r2, r3, r4, r5⟩ := wr
    unfold zvA
    rw [r0]
    show (s_X11_which 55 5 h).bind K = _
    have e0 := tW_eq (B := B) (N := N) (x := x) (a := 36) (b := 12) (by decide +kernel)
    have e1 := tW_eq (B := B) (N := N) (x := x) (a := 31) (b := 8) (by decide +kernel)
    have e2 := tW_eq (B := B) (N := N) (x := x) (a := 32) (b := 9) (by decide +kernel)
    have e3 := tW_eq (B := B) (N := N) (x := x) (a := 37) (b := 14) (by decide +kernel)
    have e4 := tW_eq (B := B) (N := N) (x := x) (a := 35) (b := 10) (by decide +kernel)
    rw [s_X11_which, show s_X11_which_L2 55 5 zfu 0 h = _ from u_whL (q := fun j => if j = 0 then 36 else if j = 1 then 31 else if j = 2 then 32 else if j = 3 then 37 else 35) (r := fun j => tW B N x (if j = 0 then 36 else if j = 1 then 31 else if j = 2 then 32 else if j = 3 then 37 else 35)) (Nat.le_refl 5) (fun j hj => by
      have e : j = 0 ∨ j = 1 ∨ j = 2 ∨ j = 3 ∨ j = 4 := by omega
      rcases e with e | e | e | e | e <;> subst e <;> assumption) (fun j hj => i _ (by
      have e : j = 0 ∨ j = 1 ∨ j = 2 ∨ j = 3 ∨ j = 4 := by omega
      rcases e with e | e | e | e | e <;> subst e <;> decide)) 5 0 zfu (by omega) (zq_fu (by omega)) (fun j hj => by omega), ob_e, fa_first5]
    show K (if tW B N x 36 = true then nI 0 else if tW B N x 31 = true then nI 1 else if tW B N x 32 = true then nI 2 else if tW B N x 37 = true then nI 3 else if tW B N x 35 = true then nI 4 else nM) = _
    rw [e0, e1, e2, e3, e4]
    unfold pVal pVl
    rw [show tW B N x (if true = true then 12 else 11) = tW B N x 12 from rfl, show tW B N x (if true = true then 14 else 13) = tW B N x 14 from rfl]
    cases h8 : tW B N x 8 with
    | true => rw [x1 8 12 n3 h8]; rfl
    | false =>
      cases h9 : tW B N x 9 with
      | true => rw [x1 9 12 n4 h9]; rfl
      | false =>
        cases h10 : tW B N x 10 with
        | true => rw [x1 10 12 n5 h10, x1 10 14 n6 h10]; rfl
        | false =>
          cases h11 : tW B N x 12 with
          | true => rfl
          | false =>
            cases h13 : tW B N x 14 with
            | true => rfl
            | false => rfl
end UM
