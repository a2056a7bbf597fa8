/-! ===== the parser in the class, level by level ===== -/
/-! where it ends: no more of these operations -/
section PZ
variable {wv : Bool} {B : Nat → Nat} {N : Nat}
def pZ (R : Nat → Prop) (r : pRs) : Prop := ∀ y D, r = Sum.inr (y, D) → R y
theorem pL_Z {op : Nat → Nat} {sub : Nat → pRs} {R : Nat → Prop} (ho : pOpk B N op) (hG : ∀ y, y ≤ N → pG N y (sub y)) (hR : ∀ z, z ≤ N → pZ R (sub z)) : ∀ f x C, N - x < f → x ≤ N → R x → pZ (fun y => op y = 0 ∧ R y) (pL B N op sub f x C) := by
  intro f
  induction f with
  | zero => intro x C h; omega
  | succ f ih =>
    intro x C h1 h2 hx y D e
    rw [pL] at e
    by_cases q : op x = 0
    · rw [if_pos q] at e; cases e; exact ⟨q, hx⟩
    · rw [if_neg q] at e
      have e1 := tE_1 (B := B) h2 (ho x q)
      have e2 := (tE_le (B := B) h2).2.1
      have g := hG (tE B N x) e2
      cases hp : sub (tE B N x) with
      | inl p => rw [hp] at e; cases e
      | inr p =>
        rw [hp] at e g
        obtain ⟨g1, g2, g3⟩ := g
        exact ih p.1 _ (by omega) g2 (hR _ e2 p.1 p.2 hp) y D e
theorem pM_Z {op : Nat → Nat} {sub : Nat → pRs} {R : Nat → Prop} (ho : pOpk B N op) (hG : ∀ y, y ≤ N → pG N y (sub y)) (hR : ∀ z, z ≤ N → pZ R (sub z)) {x : Nat} (hx : x ≤ N) : pZ (fun y => op y = 0 ∧ R y) (pM B N op sub x) := by
  intro y D e
  unfold pM at e
  have g := hG x hx
  cases hp : sub x with
  | inl p => rw [hp] at e; cases e
  | inr p =>
    rw [hp] at e g
    obtain ⟨g1, g2, g3⟩ := g
    exact pL_Z ho hG hR _ p.1 p.2 (by omega) g2 (hR _ hx p.1 p.2 hp) y D e
end PZ
/-- what a run of the rule's loop comes to -/
def zOC (h0 : zH) (B : Nat → Nat) (N tp c0 ru M i : Nat) (h : zH) (W C : List Nat) (a r K : Nat) (Q : List Nat → Nat → Prop) (res : pRs) : Prop := match res with
  | Sum.inl q => ∃ h', pGo tp ru M i h = some (nI q.1, h') ∧ zI h' 16 3 = nI q.2 ∧ zfr (zAr tp c0) h0 h'
  | Sum.inr q => ∃ h' i' S D, pGo tp ru M i h = pGo tp ru M i' h' ∧ zCS h0 B N tp c0 h' q.1 (W ++ S) (C ++ D) a ∧ zI h' 16 12 = nI 0 ∧ D ++ pFl S = q.2 ∧ (∀ o, o ∈ S → o < 10 ∧ r ≤ rk o) ∧ S.length ≤ K ∧ i' + 4 ≤ q.1 ∧ Q S q.1
def zSv (h0 : zH) (B : Nat → Nat) (N tp c0 ru M a r cap K : Nat) (Q : List Nat → Nat → Prop) (E : Nat → Nat → Nat → Nat → Prop) (sub : Nat → pRs) : Prop := ∀ h x W C i nf m bg, zCS h0 B N tp c0 h x W C a → zDu h nf m bg → E x nf m bg → pTop W r → W.length ≤ cap → i + 4 ≤ x → x ≤ N → c0 + C.length + W.length ≤ x → zOC h0 B N tp c0 ru M i h W C a r K Q (sub x)
/-- no 'not' where none may be -/
def pE1 (B : Nat → Nat) (N x nf _m _bg : Nat) : Prop := nf = 0 ∨ tW B N x 7 = false
def pE3 (_x nf m _bg : Nat) : Prop := nf = 1 ∧ m = 0
section PV
variable {wv : Bool} {h0 : zH} {B : Nat → Nat} {N tp c0 a ru M : Nat}
theorem pTop_a {W : List Nat} {o r : Nat} (h : ∀ p, p ∈ W → p < 10) (ho : o < 10) (hr : rk o < r) : pTop (W ++ [o]) r := by
  refine ⟨fun p hp => ?_, fun V q e => ?_⟩
  · rcases List.mem_append.mp hp with z | z
    · exact h p z
    · rw [List.mem_singleton.mp z]; exact ho
  · have := (List.append_inj' e rfl).2
    cases this
    exact hr
theorem pTop_m {W : List Nat} {r s : Nat} (h : pTop W r) (e : r ≤ s) : pTop W s := ⟨h.1, fun V o x => by have := h.2 V o x; omega⟩
theorem v_part (w : zBc wv h0 B N tp) (hM : 800 ≤ M) (ha : a ≤ 5) {rp : Nat → Nat → pRs} (hG : ∀ y, y ≤ N → pG N y (rp (a + 1) y)) (hZ : ∀ z, z ≤ N → pZ (fun y => tOo B N y = 0 ∧ tOa B N y = 0 ∧ tOs B N y = 0 ∧ tOp B N y = 0) (rp (a + 1) z)) (hr : zSv h0 B N tp c0 ru M (a + 1) 1 (12 * (a + 1)) 11 (pQ B N) (fun _ nf m bg => nf = 1 ∧ m = 0 ∧ bg = 1) (rp (a + 1))) : zSv h0 B N tp c0 ru M a 7 (12 * a + 11) 0 (fun _ _ => True) (pE1 B N) (pPart wv B N rp a) := by
  intro h x W C i nf m bg s d e0 ht hcap hi hx hc
  have tb := w.tb s
  have hN := w.1.1
  have t := s.2.1
  have e1 := tE_le (B := B) hx
  have hk := tK_le (B := B) (N := N) (x := x)
  obtain ⟨d1, d2, d3, d4⟩ := id d
  have j16 : ∀ l : Int32, s_X4_readPart_J16 tp l h = s_X4_readPart_J25 tp l h := by
    intro l
    rw [s_X4_readPart_J16, d4, s.2.2.2.2.1]
    by_cases q : nI bg = 0
    · rw [if_pos q]
    · rw [if_neg q, if_pos (show nI a ≤ (5 : Int32) from nI_le (b := 5) ha (by omega))]
  rw [show pPart wv B N rp a x = _ from rfl]
  unfold pPart
  have go := v_due (tp := tp) (ru := ru) hM (show i < 700 by omega) d1
  have isS : s_X4_isSign tp (40 : Int32) h = some (nI (tM B N x 40).toNat) := k_isS tb t hx (c := 40) (by omega)
  have rd : tK B N x = 3 ∨ tK B N x = 2 ∨ tM B N x 40 = true → s_X4_readPart tp h = s_X4_readPart_J25 tp (nI (tM B N x 40).toNat) h := by
    intro q
    rw [s_X4_readPart, isS, ob_e, j16, t.2.2.1]
    by_cases z : tM B N x 40 = true
    · rw [z, if_pos (by decide)]
    · rw [if_neg (fun n => n (by rw [show tM B N x 40 = false by simpa using z]; rfl))]
      by_cases z3 : tK B N x = 3
      · rw [if_pos (by rw [z3]; rfl)]
      · rw [if_neg (show ¬ nI (tK B N x) = (3 : Int32) from nI_ne (b := 3) z3 (by omega) (by omega)), if_pos (show nI (tK B N x) = (2 : Int32) by rw [(q.resolve_left z3).resolve_right z]; rfl)]
  /- one code is told and the part is through -/
  have tell : ∀ c : Nat, tK B N x ≠ 0 → s_X4_readPart tp h = ((s_X4_emit tp (nI c) h).bind fun h1 => zlt (zwI h1 16 12 (0 : Int32)) fun h2 => some ((0 : Int32), h2)) → zOC h0 B N tp c0 ru M i h W C a 7 0 (fun _ _ => True) (Sum.inr (tE B N x, [c])) := by
    intro c hk0 er
    have e2 := tE_1 (B := B) hx hk0
    obtain ⟨h1, g1, s1, f1⟩ := v_emit w s (by omega) c
    rw [g1, ob_e, zlt_e] at er
    have f2 : zfr (fun b k => b = 16 ∧ k = 12) h1 (zwI h1 16 12 (0 : Int32)) := zfr.wI _ _ _ ⟨rfl, rfl⟩
    have c12 : zI (zwI h1 16 12 (0 : Int32)) 16 12 = nI 0 := by rw [zI_wI, if_pos rfl, if_pos rfl]; rfl
    generalize zwI h1 16 12 (0 : Int32) = h2 at er f2 c12
    have s2 := s1.fr w f2 (fun b k e => by omega)
    obtain ⟨h4, g4, s4, f4⟩ := v_J65 (ru := ru) w hM (show i < 700 by omega) s2 hx
    refine ⟨h4, i + 1, [], [c], ?_, by rw [List.append_nil]; exact s4, ?_, by rw [pFl_nil, List.append_nil], fun o ho => absurd ho (by simp), by simp, ?_, trivial⟩
    · rw [go, er, zbd_e]; exact g4
    · rw [f4.i (by omega)]; exact c12
    · show i + 1 + 4 ≤ tE B N x; omega
  have fault : ∀ k : Nat, 1 ≤ k → k ≤ 5 → s_X4_readPart tp h = some (nI k, h) → zOC h0 B N tp c0 ru M i h W C a 7 0 (fun _ _ => True) (Sum.inl (k, tP B N x)) := by
    intro k k1 k2 er
    refine ⟨h, ?_, t.1, s.1⟩
    rw [go, er, zbd_e, v_J65n k1 k2]
  by_cases q3 : tK B N x = 3
  · have n40 : tM B N x 40 = false := decide_eq_false (fun z => by omega)
    have hv := tV_lt (B := B) q3
    rw [if_pos q3]
    have er := rd (Or.inl q3)
    rw [s_X4_readPart_J25, t.2.2.1, if_pos (show ¬ nI (tK B N x) = (2 : Int32) from nI_ne (b := 2) (by omega) (by omega) (by omega)), n40, if_pos (show nI false.toNat = 0 from rfl), t.2.1, t.1, zq_sub e1.1] at er
    by_cases q : 4 < tE B N x - tP B N x
    · rw [if_neg (show ¬ nI (tE B N x - tP B N x) ≤ (4 : Int32) from nI_ge (a := 4) q (by omega))] at er
      rw [if_pos q]
      exact fault 2 (by omega) (by omega) er
    · rw [if_pos (show nI (tE B N x - tP B N x) ≤ (4 : Int32) from nI_le (b := 4) (by omega) (by omega)), t.2.2.2 q3] at er
      rw [if_neg q]
      exact tell _ (by omega) er
  · rw [if_neg q3]
    by_cases q2 : tK B N x = 2
    · have n40 : tM B N x 40 = false := decide_eq_false (fun z => by omega)
      have hv := pVal_le wv B N x
      rw [if_pos q2]
      have er := rd (Or.inr (Or.inl q2))
      have j27 : s_X4_readWordOfPart tp h = s_X4_readWordOfPart_J27 tp h := by
        rw [s_X4_readWordOfPart, d2]
        rcases e0 with z | z
        · rw [z, if_pos (show nI 0 = 0 from rfl)]
        · by_cases y : nI nf = 0
          · rw [if_pos y]
          · rw [if_neg y, k_isW tb t hx (d := 7) (by omega), ob_e, z, if_pos (show nI false.toNat = 0 from rfl)]
      have j27v := k_val (wv := wv) (tp := tp) tb t hx (w.fl s)
      rw [s_X4_readPart_J25, t.2.2.1, if_neg (fun n => n (by rw [q2]; rfl)), j27, s_X4_readWordOfPart_J27, j27v, ob_e] at er
      by_cases q5 : pVal wv B N x = 5
      · rw [if_pos q5, if_neg (fun n => n rfl), zbd_e] at er
        rw [if_pos q5]
        exact fault 3 (by omega) (by omega) er
      · rw [if_neg q5, if_pos (nI_nM (by omega)), show (10000 : Int32) + nI (pVal wv B N x) = nI (10000 + pVal wv B N x) from nI_add 10000 _] at er
        rw [if_neg q5]
        refine tell _ (by omega) ?_
        rw [er]
        obtain ⟨h1, g1, s1, f1⟩ := v_emit w s (by have := tE_1 (B := B) hx (by omega : tK B N x ≠ 0); omega) (10000 + pVal wv B N x)
        rw [g1, ob_e, zlt_e, zbd_e]
    · rw [if_neg q2]
      cases h40 : tM B N x 40 with
      | false =>
        rw [if_neg (by decide)]
        refine fault 1 (by omega) (by omega) ?_
        rw [s_X4_readPart, isS, ob_e, h40, if_neg (fun n => n rfl), t.2.2.1, if_neg (show ¬ nI (tK B N x) = (3 : Int32) from nI_ne (b := 3) q3 (by omega) (by omega)), if_neg (show ¬ nI (tK B N x) = (2 : Int32) from nI_ne (b := 2) q2 (by omega) (by omega))]
        rfl
      | true =>
        have k4 := (tM_k h40).1
        have e2 := tE_1 (B := B) hx (by omega)
        rw [if_pos rfl]
        have er := rd (Or.inr (Or.inr h40))
        obtain ⟨h3, g3, s3, f3⟩ := v_hold w s (by omega) 0
        have s4 := s3.dep w (v := a + 1) rfl
        obtain ⟨h5, g5, s5, du5⟩ := v_exp w s4 (nf := 1) (by omega)
        have f6 : zfr (fun b k => b = 16 ∧ k = 14) h5 (zwI h5 16 14 (1 : Int32)) := zfr.wI _ _ _ ⟨rfl, rfl⟩
        have c14 : zI (zwI h5 16 14 (1 : Int32)) 16 14 = nI 1 := by rw [zI_wI, if_pos rfl, if_pos rfl]; rfl
        rw [s_X4_readPart_J25, t.2.2.1, if_pos (show ¬ nI (tK B N x) = (2 : Int32) from nI_ne (b := 2) q2 (by omega) (by omega)), h40, if_neg (by decide), show s_X4_hold tp (0 : Int32) h = some h3 from g3, ob_e, zlt_e, s3.2.2.2.2.1, show nI a + 1 = nI (a + 1) from nI_1 a, show s_X4_expectPart tp (1 : Int32) (zwI h3 16 9 (nI (a + 1))) = some h5 from g5, ob_e, zlt_e] at er
        generalize zwI h5 16 14 (1 : Int32) = h6 at er f6 c14
        have s6 := s5.fr w f6 (fun b k e => by omega)
        obtain ⟨h7, g7, s7, f7⟩ := v_J65 (ru := ru) w hM (show i < 700 by omega) s6 hx
        have du7 : zDu h7 1 0 1 := by
          obtain ⟨u1, u2, u3, u4⟩ := du5
          refine ⟨?_, ?_, ?_, ?_⟩
          · rw [f7.i (by omega), f6.i (by omega)]; exact u1
          · rw [f7.i (by omega), f6.i (by omega)]; exact u2
          · rw [f7.i (by omega), f6.i (by omega)]; exact u3
          · rw [f7.i (by omega)]; exact c14
        have ge : pGo tp ru M i h = pGo tp ru M (i + 1) h7 := by rw [go, er, zbd_e]; exact g7
        have lw : (W ++ [0]).length = W.length + 1 := by rw [List.length_append, List.length_singleton]
        have r1 := hr h7 (tE B N x) (W ++ [0]) C (i + 1) 1 0 1 s7 du7 ⟨rfl, rfl, rfl⟩ (pTop_a ht.1 (by omega) (by decide)) (by omega) (by omega) e1.2.1 (by omega)
        have gG := hG (tE B N x) e1.2.1
        have gZ := hZ (tE B N x) e1.2.1
        cases hp : rp (a + 1) (tE B N x) with
        | inl p =>
          rw [hp] at r1
          obtain ⟨h8, b1, b2, b3⟩ := r1
          exact ⟨h8, by rw [ge]; exact b1, b2, b3⟩
        | inr p =>
          rw [hp] at r1 gG gZ
          obtain ⟨h8, i8, S, D, b1, b2, b3, b4, b5, b6, b7, b8⟩ := r1
          obtain ⟨l1, l2, l3⟩ := gG
          obtain ⟨z1, z2, z3, z4⟩ := gZ p.1 p.2 rfl
          have ld : p.2.length = D.length + S.length := by rw [← b4, List.length_append, pFl_len]
          have lC : (C ++ D).length = C.length + D.length := List.length_append
          have lWS : ((W ++ [0]) ++ S).length = W.length + 1 + S.length := by rw [List.length_append, lw]
          rw [show pB (Sum.inr p) (fun y C => if tM B N y 41 = true then (Sum.inr (tE B N y, C) : pRs) else Sum.inl (1, tP B N y)) = if tM B N p.1 41 = true then (Sum.inr (tE B N p.1, p.2) : pRs) else Sum.inl (1, tP B N p.1) from rfl]
          cases h41 : tM B N p.1 41 with
          | false =>
            rw [if_neg (by decide)]
            obtain ⟨h9, c1, c2, c3⟩ := v_end (ru := ru) w hM (show i8 < 700 by omega) b2 l2 (by omega) b3 (Or.inl ⟨by omega, h41⟩) z4 z3 z2 z1 b8 (fun o ho => (b5 o ho).1) (by omega) (fun o ho => by
              rcases List.mem_append.mp ho with y | y
              · exact ht.1 o y
              · rw [List.mem_singleton.mp y]; omega) (by omega)
            exact ⟨h9, by rw [ge, b1]; exact c1, c2, c3⟩
          | true =>
            rw [if_pos rfl]
            have k41 := (tM_k h41).1
            have e3 := tE_1 (B := B) l2 (by omega)
            obtain ⟨h9, c1, c2, c3⟩ := v_wo0 w (r := 1) (by omega) b2 b5 (pTop_a ht.1 (by omega) (by decide)) (by omega) (by omega)
            obtain ⟨p1, p2⟩ := v_pop c2
            have s10 : zCS h0 B N tp c0 (zwI h9 16 8 (nI W.length)) p.1 W (C ++ D ++ pFl S) (a + 1) := by
              obtain ⟨x1, x2, x3, x4, x5, x6, x7⟩ := c2
              have fx : zfr (fun b k => b = 16 ∧ k = 8) h9 (zwI h9 16 8 (nI W.length)) := zfr.wI _ _ _ ⟨rfl, rfl⟩
              have w3 := w.2.2
              refine ⟨x1.tr (fx.mo (fun b k e => by unfold zAr; omega)), x2.fr fx (fun b k e => by omega), ?_, fun i hi => ?_, ?_, ?_, fun i hi => ?_⟩
              · rw [zI_wI, if_pos rfl, if_pos rfl]
              · have := x4 i (by omega)
                rw [l_getD, if_pos hi] at this
                rw [fx.i (by omega)]; exact this
              · rw [fx.i (by omega)]; exact x5
              · rw [fx.i (by omega)]; exact x6
              · rw [fx.i (by omega)]; exact x7 i hi
            have s11 := s10.dep w (v := a) rfl
            have tb8 := w.tb b2
            have ro : s_X4_readOperation tp h8 = some (nI 0, zwI (zwI h9 16 8 (nI W.length)) 16 9 (nI a)) := by
              rw [s_X4_readOperation, b2.2.2.2.2.1, if_neg (nI_nle (by omega) (by omega)), show s_X4_isSign tp (41 : Int32) h8 = _ from k_isS tb8 b2.2.1 l2 (c := 41) (by omega), ob_e, h41, if_neg (by decide), show s_X4_workOut tp (1 : Int32) h8 = some h9 from c1, ob_e, p1, nI_pred, show s_J9_max_7cf53 (0 : Int32) (nI W.length) h9 = some (nI W.length) by
                have := k_max2 (a := 0) (b := W.length) (by omega) (by omega) h9
                rw [show (if 0 < W.length then W.length else 0) = W.length by split <;> omega] at this
                exact this, ob_e, zlt_e, zlt_e, zI_wI, if_pos rfl, if_neg (by decide), c2.2.2.2.2.1, nI_pred]
              rfl
            have d11 : zI (zwI (zwI h9 16 8 (nI W.length)) 16 9 (nI a)) 16 12 = nI 0 := by
              rw [zI_wI, if_pos rfl, if_neg (by decide), zI_wI, if_pos rfl, if_neg (by decide), c3.i (by have := w.2.2; omega)]; exact b3
            generalize zwI (zwI h9 16 8 (nI W.length)) 16 9 (nI a) = h11 at s11 ro d11
            obtain ⟨h12, g12, s12, f12⟩ := v_J65 (ru := ru) w hM (show i8 < 700 by omega) s11 l2
            refine ⟨h12, i8 + 1, [], p.2, ?_, ?_, ?_, by rw [pFl_nil, List.append_nil], fun o ho => absurd ho (by simp), by simp, ?_, trivial⟩
            · rw [ge, b1, v_nd w hM (show i8 < 700 by omega) b2 l2 (by omega) b3 (Or.inl (by omega)), ro, zbd_e]; exact g12
            · rw [List.append_nil, ← b4, ← List.append_assoc]; exact s12
            · rw [f12.i (by omega)]; exact d11
            · show i8 + 1 + 4 ≤ tE B N p.1; omega
end PV
