/-! ===== the parser in the class, the other levels ===== -/
/-- an operation of rank r, as a token -/
def pOp4 (B : Nat → Nat) (N : Nat) (op : Nat → Nat) (r : Nat) : Prop := ∀ y, op y ≠ 0 → tOn B N y = op y ∧ rk (op y) = r ∧ tM B N y 59 = false ∧ tM B N y 41 = false
section PW
variable {wv : Bool} {h0 : zH} {B : Nat → Nat} {N tp c0 a ru M : Nat}
theorem tM_other {x c e : Nat} (h : tM B N x c = true) (n : c ≠ e) : tM B N x e = false := decide_eq_false (fun z => n ((tM_k h).2.symm.trans z.2))
theorem tM_w {x e : Nat} (h : tK B N x = 2) : tM B N x e = false := decide_eq_false (fun z => by omega)
theorem tOn_s {x c : Nat} (h : tM B N x c = true) : tOn B N x = qSgn c := by
  obtain ⟨h1, h2⟩ := tM_k h
  unfold tOn
  rw [if_neg (by omega), if_pos h1, h2]
theorem tOp_4 : pOp4 B N (tOp B N) 6 := by
  intro y h
  unfold tOp at h ⊢
  cases h1 : tM B N y 42 with
  | true => rw [if_pos rfl, tOn_s h1]; exact ⟨rfl, rfl, tM_other h1 (by decide), tM_other h1 (by decide)⟩
  | false =>
    rw [h1, if_neg (by decide)] at h
    cases h2 : tM B N y 47 with
    | true => rw [if_neg (by decide), if_pos rfl, tOn_s h2]; exact ⟨rfl, rfl, tM_other h2 (by decide), tM_other h2 (by decide)⟩
    | false => rw [h2, if_neg (by decide)] at h; exact absurd rfl h
theorem tOs_4 : pOp4 B N (tOs B N) 5 := by
  intro y h
  unfold tOs at h ⊢
  cases h1 : tM B N y 43 with
  | true => rw [if_pos rfl, tOn_s h1]; exact ⟨rfl, rfl, tM_other h1 (by decide), tM_other h1 (by decide)⟩
  | false =>
    rw [h1, if_neg (by decide)] at h
    cases h2 : tM B N y 45 with
    | true => rw [if_neg (by decide), if_pos rfl, tOn_s h2]; exact ⟨rfl, rfl, tM_other h2 (by decide), tM_other h2 (by decide)⟩
    | false => rw [h2, if_neg (by decide)] at h; exact absurd rfl h
theorem tOt_4 : pOp4 B N (tOt B N) 4 := by
  intro y h
  unfold tOt at h ⊢
  cases h1 : tM B N y 60 with
  | true => rw [if_pos rfl, tOn_s h1]; exact ⟨rfl, rfl, tM_other h1 (by decide), tM_other h1 (by decide)⟩
  | false =>
    rw [h1, if_neg (by decide)] at h
    cases h2 : tM B N y 61 with
    | true => rw [if_neg (by decide), if_pos rfl, tOn_s h2]; exact ⟨rfl, rfl, tM_other h2 (by decide), tM_other h2 (by decide)⟩
    | false => rw [h2, if_neg (by decide)] at h; exact absurd rfl h
theorem w_oa : zTX.getD 16 [] ≠ zTX.getD 15 [] := by decide +kernel
theorem tOa_4 : pOp4 B N (tOa B N) 2 := by
  intro y h
  unfold tOa at h ⊢
  cases h1 : tW B N y 16 with
  | true =>
    have k := tW_k h1
    have n := tW_ex w_oa h1
    rw [if_pos rfl]
    refine ⟨?_, rfl, tM_w k, tM_w k⟩
    unfold tOn
    rw [if_pos k, n, h1]
    rfl
  | false => rw [h1, if_neg (by decide)] at h; exact absurd rfl h
theorem tOo_4 : pOp4 B N (tOo B N) 1 := by
  intro y h
  unfold tOo at h ⊢
  cases h1 : tW B N y 15 with
  | true =>
    have k := tW_k h1
    rw [if_pos rfl]
    refine ⟨?_, rfl, tM_w k, tM_w k⟩
    unfold tOn
    rw [if_pos k, h1]
    rfl
  | false => rw [h1, if_neg (by decide)] at h; exact absurd rfl h
theorem v_L (w : zBc wv h0 B N tp) (hM : 800 ≤ M) (ha : a ≤ 5) {op : Nat → Nat} {sub : Nat → pRs} {r cap K : Nat} {Q : List Nat → Nat → Prop} {E : Nat → Nat → Nat → Nat → Prop} (r1 : 1 ≤ r) (r4 : r ≠ 4) (hcap : cap + K + 1 < 100) (ho : pOpk B N op) (ov : pOpv op) (o4 : pOp4 B N op r) (hG : ∀ y, y ≤ N → pG N y (sub y)) (hE : ∀ y, E y (if r ≤ 2 then 1 else 0) 0 0) (hQ : ∀ o S y, Q S y → Q (o :: S) y)
    (hs : zSv h0 B N tp c0 ru M a (r + 1) (cap + 1) K Q E sub) {W C : List Nat} (ht : pTop W r) (hW : W.length ≤ cap) {i0 : Nat} {g0 : zH} {x0 : Nat} (hx0 : c0 + C.length + W.length ≤ x0) : ∀ f y D' h i S D, N - y < f → pGo tp ru M i0 g0 = pGo tp ru M i h → zCS h0 B N tp c0 h y (W ++ S) (C ++ D) a → zI h 16 12 = nI 0 → D ++ pFl S = D' → (∀ o, o ∈ S → o < 10 ∧ r ≤ rk o) → S.length ≤ K + 1 → i + 4 ≤ y → Q S y → y ≤ N → x0 + D'.length ≤ y → zOC h0 B N tp c0 ru M i0 g0 W C a r (K + 1) Q (pL B N op sub f y D') := by
  intro f
  induction f with
  | zero => intro y D' h i S D h1; omega
  | succ f ih =>
    intro y D' h i S D h1 ge s d eD hb hS hi hq hy hl
    have hN := w.1.1
    rw [pL]
    by_cases q : op y = 0
    · rw [if_pos q]
      exact ⟨h, i, S, D, ge, s, d, eD, hb, hS, hi, hq⟩
    · rw [if_neg q]
      obtain ⟨o1, o2, o3⟩ := ov y q
      obtain ⟨p1, p2, p3, p4⟩ := o4 y q
      have e1 := tE_1 (B := B) hy (ho y q)
      have e2 := (tE_le (B := B) hy).2.1
      have ld : D'.length = D.length + S.length := by rw [← eD, List.length_append, pFl_len]
      have lC : (C ++ D).length = C.length + D.length := List.length_append
      have lW : (W ++ S).length = W.length + S.length := List.length_append
      obtain ⟨h2, g2, s2, d2⟩ := v_op (ru := ru) w hM (show i < 700 by omega) s hy (by omega) d p1 o1 p2 r1 p3 p4 (fun o z => ⟨(hb o z).1, (hb o z).2, fun e => absurd e r4⟩) ht (by omega) (by omega)
      rw [List.append_assoc, eD] at s2
      have lW2 : (W ++ [op y]).length = W.length + 1 := by rw [List.length_append, List.length_singleton]
      have lC2 : (C ++ D').length = C.length + D'.length := List.length_append
      have r2 := hs h2 (tE B N y) (W ++ [op y]) (C ++ D') (i + 1) _ 0 0 s2 d2 (hE _) (pTop_a ht.1 o2 (by omega)) (by omega) (by omega) e2 (by omega)
      have gG := hG (tE B N y) e2
      cases hp : sub (tE B N y) with
      | inl p =>
        rw [hp] at r2
        obtain ⟨h3, b1, b2, b3⟩ := r2
        exact ⟨h3, by rw [ge, g2]; exact b1, b2, b3⟩
      | inr p =>
        rw [hp] at r2 gG
        obtain ⟨h3, i3, S3, D3, b1, b2, b3, b4, b5, b6, b7, b8⟩ := r2
        obtain ⟨l1, l2, l3⟩ := gG
        show zOC h0 B N tp c0 ru M i0 g0 W C a r (K + 1) Q (pL B N op sub f p.1 (D' ++ p.2 ++ [20000 + op y]))
        refine ih p.1 _ h3 i3 (op y :: S3) (D' ++ D3) (by omega) (by rw [ge, g2]; exact b1) ?_ b3 ?_ (fun o z => ?_) (by rw [List.length_cons]; omega) b7 (hQ _ _ _ b8) l2 ?_
        · rw [List.append_assoc, List.append_assoc] at b2
          exact b2
        · rw [pFl_c, ← b4]
          simp only [List.append_assoc]
        · rcases List.mem_cons.mp z with z | z
          · rw [z, p2]; exact ⟨o2, Nat.le_refl _⟩
          · exact ⟨(b5 o z).1, by have := (b5 o z).2; omega⟩
        · rw [List.length_append, List.length_append, List.length_singleton]
          omega
theorem v_M (w : zBc wv h0 B N tp) (hM : 800 ≤ M) (ha : a ≤ 5) {op : Nat → Nat} {sub : Nat → pRs} {r cap K : Nat} {Q : List Nat → Nat → Prop} {E : Nat → Nat → Nat → Nat → Prop} (r1 : 1 ≤ r) (r4 : r ≠ 4) (hcap : cap + K + 1 < 100) (ho : pOpk B N op) (ov : pOpv op) (o4 : pOp4 B N op r) (hG : ∀ y, y ≤ N → pG N y (sub y)) (hE : ∀ y, E y (if r ≤ 2 then 1 else 0) 0 0) (hQ : ∀ o S y, Q S y → Q (o :: S) y)
    (hs : zSv h0 B N tp c0 ru M a (r + 1) (cap + 1) K Q E sub) : zSv h0 B N tp c0 ru M a r cap (K + 1) Q E (pM B N op sub) := by
  intro h x W C i nf m bg s d e0 ht hW hi hx hc
  have r2 := hs h x W C i nf m bg s d e0 (pTop_m ht (by omega)) (by omega) hi hx hc
  have gG := hG x hx
  unfold pM
  cases hp : sub x with
  | inl p =>
    rw [hp] at r2
    exact r2
  | inr p =>
    rw [hp] at r2 gG
    obtain ⟨h3, i3, S3, D3, b1, b2, b3, b4, b5, b6, b7, b8⟩ := r2
    obtain ⟨l1, l2, l3⟩ := gG
    exact v_L w hM ha r1 r4 hcap ho ov o4 hG hE hQ hs ht hW hc (N + 1 - p.1) p.1 p.2 h3 i3 S3 D3 (by omega) b1 b2 b3 b4 (fun o z => ⟨(b5 o z).1, by have := (b5 o z).2; omega⟩) (by omega) b7 b8 l2 (by omega)
section RX
variable {rp : Nat → Nat → pRs}
/-- what is known of the parser one level deeper -/
def zDp (h0 : zH) (B : Nat → Nat) (N tp c0 ru M a : Nat) (rp : Nat → Nat → pRs) : Prop := (∀ a y, y ≤ N → pG N y (rp a y)) ∧ (∀ z, z ≤ N → pZ (fun y => tOo B N y = 0 ∧ tOa B N y = 0 ∧ tOs B N y = 0 ∧ tOp B N y = 0) (rp (a + 1) z)) ∧ zSv h0 B N tp c0 ru M (a + 1) 1 (12 * (a + 1)) 11 (pQ B N) (fun _ nf m bg => nf = 1 ∧ m = 0 ∧ bg = 1) (rp (a + 1))
theorem v_prod (w : zBc wv h0 B N tp) (hM : 800 ≤ M) (ha : a ≤ 5) (z : zDp h0 B N tp c0 ru M a rp) : zSv h0 B N tp c0 ru M a 6 (12 * a + 10) 1 (fun _ _ => True) (pE1 B N) (pProd wv B N rp a) :=
  v_M w hM ha (by omega) (by omega) (by omega) tOp_o tOp_v tOp_4 (fun y hy => pPart_G z.1 a hy) (fun y => Or.inl rfl) (fun _ _ _ _ => trivial) (v_part w hM ha (fun y hy => z.1 _ y hy) z.2.1 z.2.2)
theorem v_sum' (w : zBc wv h0 B N tp) (hM : 800 ≤ M) (ha : a ≤ 5) (z : zDp h0 B N tp c0 ru M a rp) : zSv h0 B N tp c0 ru M a 5 (12 * a + 9) 2 (fun _ _ => True) (pE1 B N) (pSum wv B N rp a) :=
  v_M w hM ha (by omega) (by omega) (by omega) tOs_o tOs_v tOs_4 (fun y hy => pProd_G z.1 a hy) (fun y => Or.inl rfl) (fun _ _ _ _ => trivial) (v_prod w hM ha z)
theorem v_test (w : zBc wv h0 B N tp) (hM : 800 ≤ M) (ha : a ≤ 5) (z : zDp h0 B N tp c0 ru M a rp) : zSv h0 B N tp c0 ru M a 4 (12 * a + 8) 3 (pQ B N) (pE1 B N) (pTest wv B N rp a) := by
  intro h x W C i nf m bg s d e0 ht hW hi hx hc
  have hN := w.1.1
  have r2 := v_sum' w hM ha z h x W C i nf m bg s d e0 (pTop_m ht (by omega)) (by omega) hi hx hc
  have gG := pSum_G (wv := wv) (B := B) z.1 a hx
  unfold pTest
  cases hp : pSum wv B N rp a x with
  | inl p => rw [hp] at r2; exact r2
  | inr p =>
    rw [hp] at r2 gG
    obtain ⟨h3, i3, S3, D3, b1, b2, b3, b4, b5, b6, b7, -⟩ := r2
    obtain ⟨l1, l2, l3⟩ := gG
    show zOC h0 B N tp c0 ru M i h W C a 4 3 (pQ B N) (if tOt B N p.1 = 0 then Sum.inr (p.1, p.2) else pB (pSum wv B N rp a (tE B N p.1)) (fun z D => Sum.inr (z, p.2 ++ D ++ [20000 + tOt B N p.1])))
    by_cases q : tOt B N p.1 = 0
    · rw [if_pos q]
      exact ⟨h3, i3, S3, D3, b1, b2, b3, b4, fun o y => ⟨(b5 o y).1, by have := (b5 o y).2; omega⟩, by omega, b7, fun y => absurd q y⟩
    · rw [if_neg q]
      obtain ⟨o1, o2, o3⟩ := tOt_v (B := B) (N := N) p.1 q
      obtain ⟨p1, p2, p3, p4⟩ := tOt_4 (B := B) (N := N) p.1 q
      have e1 := tE_1 (B := B) l2 (tOt_o p.1 q)
      have e2 := (tE_le (B := B) l2).2.1
      have ld : p.2.length = D3.length + S3.length := by rw [← b4, List.length_append, pFl_len]
      have lC : (C ++ D3).length = C.length + D3.length := List.length_append
      have lW : (W ++ S3).length = W.length + S3.length := List.length_append
      obtain ⟨h4, g4, s4, d4⟩ := v_op (ru := ru) w hM (show i3 < 700 by omega) b2 l2 (by omega) b3 p1 o1 p2 (by omega) p3 p4 (fun o y => ⟨(b5 o y).1, by have := (b5 o y).2; omega, fun _ => (b5 o y).2⟩) ht (by omega) (by omega)
      rw [List.append_assoc, b4] at s4
      have lW2 : (W ++ [tOt B N p.1]).length = W.length + 1 := by rw [List.length_append, List.length_singleton]
      have lC2 : (C ++ p.2).length = C.length + p.2.length := List.length_append
      have r5 := v_sum' w hM ha z h4 (tE B N p.1) (W ++ [tOt B N p.1]) (C ++ p.2) (i3 + 1) _ 0 0 s4 d4 (Or.inl rfl) (pTop_a ht.1 o2 (by omega)) (by omega) (by omega) e2 (by omega)
      cases hp2 : pSum wv B N rp a (tE B N p.1) with
      | inl p5 =>
        rw [hp2] at r5
        obtain ⟨h5, c1, c2, c3⟩ := r5
        exact ⟨h5, by rw [b1, g4]; exact c1, c2, c3⟩
      | inr p5 =>
        rw [hp2] at r5
        obtain ⟨h5, i5, S5, D5, c1, c2, c3, c4, c5, c6, c7, -⟩ := r5
        refine ⟨h5, i5, tOt B N p.1 :: S5, p.2 ++ D5, by rw [b1, g4]; exact c1, ?_, c3, ?_, fun o y => ?_, by rw [List.length_cons]; omega, c7, fun _ => ⟨[], tOt B N p.1, S5, rfl, p2, fun o y => (c5 o y).2⟩⟩
        · rw [List.append_assoc, List.append_assoc] at c2
          exact c2
        · show p.2 ++ D5 ++ pFl (tOt B N p.1 :: S5) = p.2 ++ p5.2 ++ [20000 + tOt B N p.1]
          rw [pFl_c, ← c4]
          simp only [List.append_assoc]
        · rcases List.mem_cons.mp y with y | y
          · rw [y, p2]; exact ⟨o2, Nat.le_refl _⟩
          · exact ⟨(c5 o y).1, by have := (c5 o y).2; omega⟩
theorem v_nt (w : zBc wv h0 B N tp) (hM : 800 ≤ M) (ha : a ≤ 5) (z : zDp h0 B N tp c0 ru M a rp) {W C : List Nat} (ht : pTop W 3) (hW : W.length ≤ 12 * a + 2) {i0 : Nat} {g0 : zH} : ∀ f m x h i bg, m + f = 7 → m ≤ 6 → pGo tp ru M i0 g0 = pGo tp ru M i h → zCS h0 B N tp c0 h x (W ++ List.replicate m 3) C a → zDu h 1 m bg → i + 4 ≤ x → x ≤ N → c0 + C.length + (W.length + m) ≤ x → zOC h0 B N tp c0 ru M i0 g0 W C a 3 9 (pQ B N) (pNt wv B N rp a f m x) := by
  have hN := w.1.1
  intro f
  induction f with
  | zero => intro m x h i bg e e6; omega
  | succ f ih =>
    intro m x h i bg e m6 ge s d hi hx hc
    have tb := w.tb s
    have t := s.2.1
    obtain ⟨d1, d2, d3, d4⟩ := id d
    have lW : (W ++ List.replicate m 3).length = W.length + m := by rw [List.length_append, List.length_replicate]
    rw [pNt]
    cases hq : tW B N x 7 with
    | true =>
      rw [if_pos rfl]
      have k2 := tW_k hq
      have e1 := tE_1 (B := B) hx (by omega)
      have e2 := (tE_le (B := B) hx).2.1
      have n40 : tM B N x 40 = false := tM_w k2
      have rp2 : s_X4_readPart tp h = zbd (s_X4_readWordOfPart tp h) fun v8 h7 => some (v8, h7) := by
        have j25 : s_X4_readPart_J25 tp (nI false.toNat) h = zbd (s_X4_readWordOfPart tp h) fun v8 h7 => some (v8, h7) := by
          rw [s_X4_readPart_J25, t.2.2.1, k2, if_neg (fun n => n rfl)]
        rw [s_X4_readPart, show s_X4_isSign tp (40 : Int32) h = _ from k_isS tb t hx (c := 40) (by omega), ob_e, n40, if_neg (fun n => n rfl), t.2.2.1, k2, if_neg (by decide), if_pos (show nI 2 = (2 : Int32) from rfl), s_X4_readPart_J16, d4, s.2.2.2.2.1, j25]
        by_cases y : nI bg = 0
        · rw [if_pos y]
        · rw [if_neg y, if_pos (show nI a ≤ (5 : Int32) from nI_le (b := 5) ha (by omega))]
      rw [s_X4_readWordOfPart, d2, if_neg (by decide), k_isW tb t hx (d := 7) (by omega), ob_e, hq, if_neg (by decide), d3] at rp2
      have go := v_due (tp := tp) (ru := ru) hM (show i < 700 by omega) d1
      by_cases q6 : m = 6
      · rw [q6, if_neg (show ¬ nI 6 < (6 : Int32) by decide), zbd_e] at rp2
        rw [if_pos q6]
        refine ⟨h, ?_, t.1, s.1⟩
        rw [ge, go, rp2, zbd_e]
        exact v_J65n (k := 2) (by omega) (by omega)
      · rw [if_neg q6]
        rw [if_pos (show nI m < (6 : Int32) from nI_lt (b := 6) (by omega) (by omega)), zlt_e, show nI m + 1 = nI (m + 1) from nI_1 m] at rp2
        have f1 : zfr (fun b k => b = 16 ∧ k = 10) h (zwI h 16 10 (nI (m + 1))) := zfr.wI _ _ _ ⟨rfl, rfl⟩
        have c10 : zI (zwI h 16 10 (nI (m + 1))) 16 10 = nI (m + 1) := by rw [zI_wI, if_pos rfl, if_pos rfl]
        generalize zwI h 16 10 (nI (m + 1)) = h1 at f1 c10 rp2
        have s1 := s.fr w f1 (fun b k e => by omega)
        obtain ⟨h2, g2, s2, f2⟩ := v_hold w s1 (by omega) 3
        rw [show s_X4_hold tp (3 : Int32) h1 = some h2 from g2, ob_e, zlt_e, zbd_e] at rp2
        have f3 : zfr (fun b k => b = 16 ∧ k = 14) h2 (zwI h2 16 14 (0 : Int32)) := zfr.wI _ _ _ ⟨rfl, rfl⟩
        have c14 : zI (zwI h2 16 14 (0 : Int32)) 16 14 = nI 0 := by rw [zI_wI, if_pos rfl, if_pos rfl]; rfl
        generalize zwI h2 16 14 (0 : Int32) = h3 at f3 c14 rp2
        have s3 := s2.fr w f3 (fun b k e => by omega)
        obtain ⟨h4, g4, s4, f4⟩ := v_J65 (ru := ru) w hM (show i < 700 by omega) s3 hx
        have du : zDu h4 1 (m + 1) 0 := by
          refine ⟨?_, ?_, ?_, ?_⟩
          · rw [f4.i (by omega), f3.i (by omega), f2.i (by omega), f1.i (by omega)]; exact d1
          · rw [f4.i (by omega), f3.i (by omega), f2.i (by omega), f1.i (by omega)]; exact d2
          · rw [f4.i (by omega), f3.i (by omega), f2.i (by omega)]; exact c10
          · rw [f4.i (by omega)]; exact c14
        have er : W ++ List.replicate m 3 ++ [3] = W ++ List.replicate (m + 1) 3 := by rw [List.append_assoc, ← List.replicate_succ']
        rw [er] at s4
        refine ih (m + 1) (tE B N x) h4 (i + 1) 0 (by omega) (by omega) ?_ s4 du (by omega) e2 (by omega)
        rw [ge, go, rp2, zbd_e]
        exact g4
    | false =>
      rw [if_neg (by decide)]
      have tt : pTop (W ++ List.replicate m 3) 4 := by
        refine ⟨fun o ho => ?_, fun V o ev => ?_⟩
        · rcases List.mem_append.mp ho with y | y
          · exact ht.1 o y
          · rw [List.eq_of_mem_replicate y]; decide
        · cases m with
          | zero =>
            rw [List.replicate_zero, List.append_nil] at ev
            have := ht.2 V o ev
            omega
          | succ m =>
            rw [List.replicate_succ', ← List.append_assoc] at ev
            have := (List.append_inj' ev rfl).2
            cases this
            decide
      have r2 := v_test w hM ha z h x (W ++ List.replicate m 3) C i 1 m bg s d (Or.inr hq) tt (by omega) hi hx (by omega)
      cases hp : pTest wv B N rp a x with
      | inl p =>
        rw [hp] at r2
        obtain ⟨h3, b1, b2, b3⟩ := r2
        exact ⟨h3, by rw [ge]; exact b1, b2, b3⟩
      | inr p =>
        rw [hp] at r2
        obtain ⟨h3, i3, S3, D3, b1, b2, b3, b4, b5, b6, b7, b8⟩ := r2
        refine ⟨h3, i3, List.replicate m 3 ++ S3, D3, by rw [ge]; exact b1, by rw [← List.append_assoc]; exact b2, b3, ?_, fun o y => ?_, by rw [List.length_append, List.length_replicate]; omega, b7, pQ_a b8⟩
        · show D3 ++ pFl (List.replicate m 3 ++ S3) = p.2 ++ List.replicate m 20003
          rw [pFl_app, pFl_n, ← List.append_assoc, b4]
        · rcases List.mem_append.mp y with y | y
          · rw [List.eq_of_mem_replicate y]; decide
          · exact ⟨(b5 o y).1, by have := (b5 o y).2; omega⟩
theorem v_not (w : zBc wv h0 B N tp) (hM : 800 ≤ M) (ha : a ≤ 5) (z : zDp h0 B N tp c0 ru M a rp) : zSv h0 B N tp c0 ru M a 3 (12 * a + 2) 9 (pQ B N) pE3 (pNot wv B N rp a) := by
  intro h x W C i nf m bg s d e0 ht hW hi hx hc
  obtain ⟨e1, e2⟩ := e0
  subst e1
  subst e2
  exact v_nt w hM ha z ht hW 7 0 x h i bg (by omega) (by omega) rfl (by rw [List.replicate_zero, List.append_nil]; exact s) d hi hx (by omega)
theorem v_and (w : zBc wv h0 B N tp) (hM : 800 ≤ M) (ha : a ≤ 5) (z : zDp h0 B N tp c0 ru M a rp) : zSv h0 B N tp c0 ru M a 2 (12 * a + 1) 10 (pQ B N) pE3 (pAnd wv B N rp a) :=
  v_M w hM ha (by omega) (by omega) (by omega) tOa_o tOa_v tOa_4 (fun y hy => pNot_G z.1 a hy) (fun y => ⟨rfl, rfl⟩) (fun _ _ _ h => pQ_c h) (v_not w hM ha z)
theorem v_or (w : zBc wv h0 B N tp) (hM : 800 ≤ M) (ha : a ≤ 5) (z : zDp h0 B N tp c0 ru M a rp) : zSv h0 B N tp c0 ru M a 1 (12 * a) 11 (pQ B N) pE3 (pOr wv B N rp a) :=
  v_M w hM ha (by omega) (by omega) (by omega) tOo_o tOo_v tOo_4 (fun y hy => pAnd_G z.1 a hy) (fun y => ⟨rfl, rfl⟩) (fun _ _ _ h => pQ_c h) (v_and w hM ha z)
theorem pSum_Z (hG : ∀ a y, y ≤ N → pG N y (rp a y)) {x : Nat} (hx : x ≤ N) : pZ (fun y => tOs B N y = 0 ∧ tOp B N y = 0) (pSum wv B N rp a x) := by
  refine pM_Z tOs_o (fun y hy => pProd_G hG a hy) (fun z hz => ?_) hx
  intro y D e
  exact (pM_Z (R := fun _ => True) tOp_o (fun y hy => pPart_G hG a hy) (fun z _ y D _ => trivial) hz y D e).1
theorem pTest_Z (hG : ∀ a y, y ≤ N → pG N y (rp a y)) {x : Nat} (hx : x ≤ N) : pZ (fun y => tOs B N y = 0 ∧ tOp B N y = 0) (pTest wv B N rp a x) := by
  intro y D e
  unfold pTest at e
  have g := pSum_G (wv := wv) (B := B) hG a hx
  cases hp : pSum wv B N rp a x with
  | inl p => rw [hp] at e; cases e
  | inr p =>
    rw [hp] at e g
    obtain ⟨g1, g2, g3⟩ := g
    have e : (if tOt B N p.1 = 0 then (Sum.inr (p.1, p.2) : pRs) else pB (pSum wv B N rp a (tE B N p.1)) (fun z D => Sum.inr (z, p.2 ++ D ++ [20000 + tOt B N p.1]))) = Sum.inr (y, D) := e
    split at e
    · cases e; exact pSum_Z hG hx p.1 p.2 hp
    · have e2 := (tE_le (B := B) g2).2.1
      cases hp2 : pSum wv B N rp a (tE B N p.1) with
      | inl p2 => rw [hp2] at e; cases e
      | inr p2 =>
        rw [hp2] at e
        cases e
        exact pSum_Z hG e2 p2.1 p2.2 hp2
theorem pNt_Z (hG : ∀ a y, y ≤ N → pG N y (rp a y)) : ∀ f m x, x ≤ N → pZ (fun y => tOs B N y = 0 ∧ tOp B N y = 0) (pNt wv B N rp a f m x) := by
  intro f
  induction f with
  | zero => intro m x _ y D e; cases e
  | succ f ih =>
    intro m x hx
    rw [pNt]
    split
    · split
      · intro y D e; cases e
      · exact ih _ _ (tE_le (B := B) hx).2.1
    · intro y D e
      cases hp : pTest wv B N rp a x with
      | inl p => rw [hp] at e; cases e
      | inr p =>
        rw [hp] at e
        cases e
        exact pTest_Z hG hx p.1 p.2 hp
theorem pOr_Z (hG : ∀ a y, y ≤ N → pG N y (rp a y)) {x : Nat} (hx : x ≤ N) : pZ (fun y => tOo B N y = 0 ∧ tOa B N y = 0 ∧ tOs B N y = 0 ∧ tOp B N y = 0) (pOr wv B N rp a x) :=
  pM_Z tOo_o (fun y hy => pAnd_G hG a hy) (fun z hz => pM_Z tOa_o (fun y hy => pNot_G hG a hy) (fun z hz => pNt_Z hG 7 0 z hz) hz) hx
theorem v_expr (w : zBc wv h0 B N tp) (hM : 800 ≤ M) (ha : a ≤ 6) (z : a ≤ 5 → zDp h0 B N tp c0 ru M a rp) : zSv h0 B N tp c0 ru M a 1 (12 * a) 11 (pQ B N) (fun _ nf m bg => nf = 1 ∧ m = 0 ∧ bg = 1) (pExpr wv B N rp a) := by
  intro h x W C i nf m bg s d e0 ht hW hi hx hc
  have tb := w.tb s
  have hN := w.1.1
  have t := s.2.1
  have hk := tK_le (B := B) (N := N) (x := x)
  obtain ⟨e1, e2, e3⟩ := e0
  subst e1
  subst e2
  subst e3
  obtain ⟨d1, d2, d3, d4⟩ := id d
  have go := v_due (tp := tp) (ru := ru) hM (show i < 700 by omega) d1
  have isS : s_X4_isSign tp (40 : Int32) h = some (nI (tM B N x 40).toNat) := k_isS tb t hx (c := 40) (by omega)
  unfold pExpr
  by_cases q : tK B N x = 3 ∨ tK B N x = 2 ∨ tM B N x 40 = true
  · rw [if_pos q]
    by_cases q6 : a = 6
    · rw [if_pos q6]
      refine ⟨h, ?_, t.1, s.1⟩
      have j16 : ∀ l : Int32, s_X4_readPart_J16 tp l h = some (nI 2, h) := by
        intro l
        rw [s_X4_readPart_J16, d4, if_neg (by decide), s.2.2.2.2.1, q6, if_neg (by decide)]
        rfl
      have rd : s_X4_readPart tp h = some (nI 2, h) := by
        rw [s_X4_readPart, isS, ob_e, j16, t.2.2.1]
        by_cases y : tM B N x 40 = true
        · rw [y, if_pos (by decide)]
        · rw [if_neg (fun n => n (by rw [show tM B N x 40 = false by simpa using y]; rfl))]
          by_cases z3 : tK B N x = 3
          · rw [if_pos (by rw [z3]; rfl)]
          · rw [if_neg (show ¬ nI (tK B N x) = (3 : Int32) from nI_ne (b := 3) z3 (by omega) (by omega)), if_pos (show nI (tK B N x) = (2 : Int32) by rw [(q.resolve_left z3).resolve_right y]; rfl)]
      rw [go, rd, zbd_e]
      exact v_J65n (by omega) (by omega)
    · rw [if_neg q6]
      exact v_or w hM (by omega) (z (by omega)) h x W C i 1 0 1 s d ⟨rfl, rfl⟩ ht hW hi hx hc
  · rw [if_neg q]
    have q3 : tK B N x ≠ 3 := fun e => q (Or.inl e)
    have q2 : tK B N x ≠ 2 := fun e => q (Or.inr (Or.inl e))
    have q4 : tM B N x 40 = false := by
      cases hq : tM B N x 40 with
      | false => rfl
      | true => exact absurd (Or.inr (Or.inr hq)) q
    refine ⟨h, ?_, t.1, s.1⟩
    rw [go, s_X4_readPart, isS, ob_e, q4, if_neg (fun n => n rfl), t.2.2.1, if_neg (show ¬ nI (tK B N x) = (3 : Int32) from nI_ne (b := 3) q3 (by omega) (by omega)), if_neg (show ¬ nI (tK B N x) = (2 : Int32) from nI_ne (b := 2) q2 (by omega) (by omega)), zbd_e]
    exact v_J65n (k := 1) (by omega) (by omega)
end RX
theorem pEx_Z : ∀ n a z, z ≤ N → pZ (fun y => tOo B N y = 0 ∧ tOa B N y = 0 ∧ tOs B N y = 0 ∧ tOp B N y = 0) (pEx wv B N n a z) := by
  intro n a z hz
  cases n with
  | zero => intro y D e; cases e
  | succ n =>
    show pZ _ (pExpr wv B N (pEx wv B N n) a z)
    unfold pExpr
    split
    · split
      · intro y D e; cases e
      · exact pOr_Z (fun a y hy => pEx_G n a y hy) hz
    · intro y D e; cases e
theorem v_ex (w : zBc wv h0 B N tp) (hM : 800 ≤ M) : ∀ n a, a ≤ 6 → 8 ≤ a + n → zSv h0 B N tp c0 ru M a 1 (12 * a) 11 (pQ B N) (fun _ nf m bg => nf = 1 ∧ m = 0 ∧ bg = 1) (pEx wv B N n a) := by
  intro n
  induction n with
  | zero => intro a h1 h2; omega
  | succ n ih =>
    intro a h1 h2
    exact v_expr (rp := pEx wv B N n) w hM h1 (fun h5 => ⟨fun a y hy => pEx_G n a y hy, fun z hz => pEx_Z n (a + 1) z hz, ih (a + 1) (by omega) (by omega)⟩)
end PW
