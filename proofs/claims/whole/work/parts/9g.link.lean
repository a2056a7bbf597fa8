/-! ===== rules, and the text, in the reference ===== -/
theorem y_r3 (h : zH) (r : Option zF) : zR (zwR h 52 3 r) 52 3 = r := rfl
theorem y_290 (h : zH) : s_X11_sayOnce_J29 0 h = ((u_X11_readExpression 0 (zwR (zwI h 52 23 0) 52 3 (some (54, 24, 5)))).bind fun h3 => some h3) := by
  have zb : ∀ X : Option zH, zbo 0 X = X := fun X => rfl
  rw [s_X11_sayOnce_J29, zb, zlt_e, zI_wI, if_pos rfl, if_pos rfl, if_pos rfl, zlt_e]
theorem y_291 (h : zH) : s_X11_sayOnce_J29 1 h = ((u_X11_readExpression 0 (zwR (zwI h 52 23 1) 52 3 (some (55, 24, 5)))).bind fun h3 => some h3) := by
  have zb : ∀ X : Option zH, zbo 1 X = X := fun X => rfl
  rw [s_X11_sayOnce_J29, zb, zlt_e, zI_wI, if_pos rfl, if_pos rfl, if_neg (by decide), zlt_e]
section YC
variable {h0 h h1 h2 : zH} {B : Nat → Nat} {N x : Nat} {D : zDf}
theorem y_rul (vn : zVn h0) (w : zTbm h0 B N) (s : zLm h0 B N h x D) (hx : x ≤ N) {wv : Bool} (hD : dRu wv D = []) (hk : tK B N x ≠ 0) : zMo h0 B N ((s_X11_sayOnce (if wv = true then 4 else 2) h).bind fun h4 => s_X11_readLine_J58 (nI (dn D)) (if wv = true then 4 else 2) h4) (pRul B N wv D x) := by
  have hN := w.1
  have e1 := tE_1 (B := B) hx hk
  have e2 := (tE_le (B := B) hx).2.1
  obtain ⟨h2, g2, s2, f2⟩ := y_st w s hx
  obtain ⟨u1, u2, u3, u4⟩ := id s2
  obtain ⟨m1, m2, m3, m4, m5, m6, m7, m8, m9, m10⟩ := id u4
  have gG := pEx_G (wv := wv) (B := B) (N := N) 9 0 (tE B N x) e2
  unfold pRul
  rw [if_pos hD]
  have main : ∀ ti ri g h5, ((wv = false ∧ ti = 10 ∧ ri = 60 ∧ g = qPr) ∨ (wv = true ∧ ti = 11 ∧ ri = 61 ∧ g = qPw)) → h5 = zwR (zwI h2 52 23 (nI wv.toNat)) 52 3 (some ((if wv = true then 55 else 54), 24, 5)) → zMo h0 B N ((u_X11_readExpression (0 : Int32) h5).bind fun h4 => s_X11_readLine_J58 (nI (dn D)) (if wv = true then 4 else 2) h4) (match pEx wv B N 9 0 (tE B N x) with
      | Sum.inl q => Sum.inl q
      | Sum.inr q => pEnd B N (dPut wv D q.2) q.1) := by
    intro ti ri g h5 hw e5
    have f4 : zfr (fun b k => b = 52 ∧ k = 23) h2 (zwI h2 52 23 (nI wv.toNat)) := zfr.wI _ _ _ ⟨rfl, rfl⟩
    have c4 : zI (zwI h2 52 23 (nI wv.toNat)) 52 23 = nI wv.toNat := by rw [zI_wI, if_pos rfl, if_pos rfl]
    have s5 : zLm h0 B N h5 (tE B N x) D := by
      rw [e5]
      have r3 : zfs zAlm (zwI h2 52 23 (nI wv.toNat)) (zwR (zwI h2 52 23 (nI wv.toNat)) 52 3 (some ((if wv = true then 55 else 54), 24, 5))) := zfs.r3 _
      have a1 := u2.fr f4 (fun b k e => by unfold zAu at e; omega)
      have a2 := u4.fr f4 (fun b k e1 e2 => by omega)
      have a3 : zI (zwI h2 52 23 (nI wv.toNat)) 52 20 = nI 0 := by rw [f4.i (by omega)]; exact u3
      exact ⟨(u1.fr f4 (fun b k e => by unfold zAlm; omega)).tr r3, a1, a3, a2⟩
    have c5 : zI h5 52 23 = nI wv.toNat := by rw [e5]; exact c4
    have v5 : zR h5 52 3 = some ((if wv = true then 55 else 54), 24, 5) := by
      rw [e5]
      exact y_r3 _ _
    have vn5 := vn.fs s5.1
    have ba : zBa wv h5 B N ti ri g := by
      refine ⟨y_tb w s5.1, c5, hw, ?_⟩
      unfold zVls
      cases wv
      · exact ⟨v5, vn5.2.1⟩
      · exact ⟨v5, vn5.2.2⟩
    obtain ⟨p1, p2, p3, p4⟩ := id s5
    have t0 : zI h5 56 ti = nI 0 := by
      rcases hw with ⟨rfl, rfl, -, -⟩ | ⟨rfl, rfl, -, -⟩
      · have hD : dC D = [] := hD
        rw [p4.2.2.2.2.1, hD]; rfl
      · have hD : dW D = [] := hD
        rw [p4.2.2.2.2.2.1, hD]; rfl
    have rs : zRS h5 B N ti ri g h5 (tE B N x) [] := ⟨zfr.rf _ _, p2, p3, t0, fun i hi => absurd hi (Nat.not_lt_zero i)⟩
    have r := u_ex ba 9 0 (by omega) (by omega) h5 (tE B N x) [] rs e2 (by simp)
    have r : zOut h5 B N ti ri g (u_X11_readExpression (0 : Int32) h5) [] (pEx wv B N 9 0 (tE B N x)) := r
    have al : ∀ b k, zAv ti ri b k → zAlm b k := by
      intro b k e
      unfold zAv zAu at e
      unfold zAlm
      rcases hw with ⟨-, rfl, rfl, -⟩ | ⟨-, rfl, rfl, -⟩ <;> omega
    cases hp : pEx wv B N 9 0 (tE B N x) with
    | inl q =>
      rw [hp] at r gG
      obtain ⟨h6, g6, b6⟩ := r
      rw [g6, ob_e]
      exact y_bad ⟨p1.fr b6.1 al, b6.2.1, b6.2.2⟩ gG.1 (by have := gG.2; omega) _ _
    | inr q =>
      rw [hp] at r gG
      obtain ⟨q1, q2, q3⟩ := gG
      obtain ⟨ok1, ok2⟩ := pEx_ok (wv := wv) hN e2 hp
      obtain ⟨h6, g6, b1, b2, b3, b4, b5⟩ := r
      rw [List.nil_append] at b4 b5
      rw [g6, ob_e]
      show zMo h0 B N _ (pEnd B N (dPut wv D q.2) q.1)
      obtain ⟨m1, m2, m3, m4, m5, m6, m7, m8, m9, m10⟩ := id p4
      have dd : zDM h6 (dPut wv D q.2) := by
        rcases hw with ⟨rfl, rfl, rfl, rfl⟩ | ⟨rfl, rfl, rfl, rfl⟩
        · refine ⟨?_, ?_, ?_, ?_, b4, ?_, fun r hr => ⟨?_, ?_⟩, fun v hv => ?_, b5, fun i hi => ?_⟩
          · rw [b1.i (by unfold zAv zAu; omega)]; exact m1
          · rw [b1.i (by unfold zAv zAu; omega)]; exact m2
          · rw [b1.i (by unfold zAv zAu; omega)]; exact m3
          · rw [b1.i (by unfold zAv zAu; omega)]; exact m4
          · rw [b1.i (by unfold zAv zAu; omega)]; exact m6
          · rw [b1.i (by unfold zAv zAu; omega)]; exact (m7 r hr).1
          · rw [b1.i (by unfold zAv zAu; omega)]; exact (m7 r hr).2
          · rw [b1.i (by unfold zAv zAu; omega)]; exact m8 v hv
          · rw [b1.i (by unfold zAv zAu; omega)]; exact m10 i hi
        · refine ⟨?_, ?_, ?_, ?_, ?_, b4, fun r hr => ⟨?_, ?_⟩, fun v hv => ?_, fun i hi => ?_, b5⟩
          · rw [b1.i (by unfold zAv zAu; omega)]; exact m1
          · rw [b1.i (by unfold zAv zAu; omega)]; exact m2
          · rw [b1.i (by unfold zAv zAu; omega)]; exact m3
          · rw [b1.i (by unfold zAv zAu; omega)]; exact m4
          · rw [b1.i (by unfold zAv zAu; omega)]; exact m5
          · rw [b1.i (by unfold zAv zAu; omega)]; exact (m7 r hr).1
          · rw [b1.i (by unfold zAv zAu; omega)]; exact (m7 r hr).2
          · rw [b1.i (by unfold zAv zAu; omega)]; exact m8 v hv
          · rw [b1.i (by unfold zAv zAu; omega)]; exact m9 i hi
      refine y_end w ⟨p1.fr b1 al, b2, b3, dd⟩ q2 ?_
      have da := dn_a (dcl D) (dC D = []) (dW D = [])
      cases wv with
      | false =>
        refine da.2.2.2.2.1.trans ?_
        show _ = nI ((dcl D).toNat + ((if q.2 = [] then 0 else 2) + (if dW D = [] then 0 else 4)))
        rw [if_neg ok1]
      | true =>
        refine da.2.2.2.2.2.1.trans ?_
        show _ = nI ((dcl D).toNat + ((if dC D = [] then 0 else 2) + (if q.2 = [] then 0 else 4)))
        rw [if_neg ok1]
  rw [s_X11_sayOnce, g2, ob_e]
  have un : ∀ (F : Option zH) (K : zH → Option (Int32 × zH)), (F.bind fun h3 => some h3).bind K = F.bind K := by intro F K; cases F <;> rfl
  cases wv with
  | false =>
    rw [if_pos (show ¬ (if false = true then (4 : Int32) else 2) = 1 by decide), if_pos (show ¬ (if false = true then (4 : Int32) else 2) = 4 by decide), y_290, un]
    exact main 10 60 qPr _ (Or.inl ⟨rfl, rfl, rfl, rfl⟩) rfl
  | true =>
    rw [if_pos (show ¬ (if true = true then (4 : Int32) else 2) = 1 by decide), if_neg (fun z => z (show (if true = true then (4 : Int32) else 2) = 4 by decide)), y_291, un]
    exact main 11 61 qPw _ (Or.inr ⟨rfl, rfl, rfl, rfl⟩) rfl
theorem fa_first2 (r : Nat → Bool) : (if fa_first r 2 < 2 then nI (fa_first r 2) else nM) = if r 0 = true then nI 0 else if r 1 = true then nI 1 else nM := by
  cases h0 : r 0 with
  | true => rw [fa_first_eq h0 (fun o ho => by omega) (by omega)]; rfl
  | false =>
    cases h1 : r 1 with
    | true =>
      rw [fa_first_eq (x := 1) h1 (fun o ho => by have e : o = 0 := by omega
                                                  rw [e]; exact h0) (by omega)]; rfl
    | false =>
      have : ¬ fa_first r 2 < 2 := fun z => by
        have y := fa_first_yes r 2 z
        have e : fa_first r 2 = 0 ∨ fa_first r 2 = 1 := by omega
        rcases e with e | e <;> rw [e] at y <;> simp_all
      rw [if_neg this]; rfl
theorem wl_ne : (zTX.getD 2 [] ≠ zTX.getD 4 [] ∧ zTX.getD 2 [] ≠ zTX.getD 6 [] ∧ zTX.getD 2 [] ≠ zTX.getD 17 []) ∧ (zTX.getD 3 [] ≠ zTX.getD 4 [] ∧ zTX.getD 3 [] ≠ zTX.getD 6 [] ∧ zTX.getD 3 [] ≠ zTX.getD 17 []) ∧ (zTX.getD 5 [] ≠ zTX.getD 6 [] ∧ zTX.getD 5 [] ≠ zTX.getD 17 []) ∧ (zTX.getD 29 [] = zTX.getD 2 [] ∧ zTX.getD 30 [] = zTX.getD 3 [] ∧ zTX.getD 38 [] = zTX.getD 4 [] ∧ zTX.getD 44 [] = zTX.getD 5 [] ∧ zTX.getD 39 [] = zTX.getD 6 [] ∧ zTX.getD 40 [] = zTX.getD 17 []) := by decide +kernel
theorem y_line (vn : zVn h0) (w : zTbm h0 B N) (s : zLm h0 B N h x D) (hx : x ≤ N) (hk : tK B N x ≠ 0) (ok : dOk D x) : zMo h0 B N (s_X11_readLine (nI (dn D)) h) (pLine B N D x) := by
  obtain ⟨s1, s2, s3, s4⟩ := id s
  obtain ⟨⟨a1, a2, a3⟩, ⟨b1, b2, b3⟩, ⟨c1, c2⟩, d1, d2, d3, d4, d5, d6⟩ := wl_ne
  have tb := y_tb w s1
  have i := fun d hd => k_isM (d := d) tb s2 s3 hx hd
  have x1 := fun a b (n : zTX.getD a [] ≠ zTX.getD b []) => tW_ex (B := B) (N := N) (x := x) n
  have vn5 := vn.fs s1
  have wh : s_X11_which 53 2 h = some (if tW B N x 2 = true then nI 0 else if tW B N x 3 = true then nI 1 else nM) := by
    rw [s_X11_which, show s_X11_which_L2 53 2 zfu 0 h = _ from u_whL (q := fun j => 29 + j) (r := fun j => tW B N x (29 + j)) (by omega) (fun j hj => by
      have e : j = 0 ∨ j = 1 := by omega
      rcases e with e | e <;> subst e
      · exact vn5.1.1
      · exact vn5.1.2) (fun j hj => i (29 + j) (by omega)) 2 0 zfu (by omega) (zq_fu (by omega)) (fun j hj => by omega), fa_first2]
    show some (if tW B N x 29 = true then nI 0 else if tW B N x 30 = true then nI 1 else nM) = _
    rw [tW_eq d1, tW_eq d2]
  have i4 : s_X11_is 38 h = some (nI (tW B N x 4).toNat) := by rw [i 38 (by omega), tW_eq d3]
  have i5 : s_X11_is 44 h = some (nI (tW B N x 5).toNat) := by rw [i 44 (by omega), tW_eq d4]
  have i6 : s_X11_is 39 h = some (nI (tW B N x 6).toNat) := by rw [i 39 (by omega), tW_eq d5]
  have i7 : s_X11_is 40 h = some (nI (tW B N x 17).toNat) := by rw [i 40 (by omega), tW_eq d6]
  obtain ⟨n1, n2, n3, n4, n5, n6, n7⟩ := dn_a (dcl D) (dC D = []) (dW D = [])
  have e0 : ∀ l2, s_X11_readLine_J24 (nI (dn D)) l2 0 h = s_X11_readLine_J41 (nI (dn D)) l2 0 h := by
    intro l2
    rw [s_X11_readLine_J24, if_pos (show (0 : Int32) &&& nI (dn D) = 0 from Int32.zero_and), s_X11_readLine_J32, if_pos (by decide)]
  have twice : ∀ (l3 : Int32) , ¬ l3 &&& nI (dn D) = 0 → ¬ l3 ≤ 0 → zMo h0 B N (s_X11_readLine_J24 (nI (dn D)) nM l3 h) (Sum.inl (5, tP B N x)) := by
    intro l3 z1 z2
    obtain ⟨h2, g2, b2⟩ := y_wr s1 s2 s3 5
    have bb := b2.bad (by omega) (by omega)
    rw [s_X11_readLine_J24, if_neg z1, show s_X11_wrong (5 : Int32) h = some h2 from g2, ob_e, s_X11_readLine_J32, if_neg z2, if_pos bb, s_X11_readLine_J41, if_pos (show nM = (-1 : Int32) from rfl), k_isB bb, ob_e, if_pos (show nI 0 = 0 from rfl), s_X11_wrong, if_neg bb, ob_e]
    exact y_bad b2 (by omega) (by omega) _ _
  have once : ∀ (l3 : Int32) , l3 &&& nI (dn D) = 0 → ¬ l3 ≤ 0 → s_X11_readLine_J24 (nI (dn D)) nM l3 h = ((s_X11_sayOnce l3 h).bind fun h1 => s_X11_readLine_J58 (nI (dn D)) l3 h1) := by
    intro l3 z1 z2
    rw [s_X11_readLine_J24, if_pos z1, s_X11_readLine_J32, if_neg z2, if_neg (fun n => n (show zI h 52 20 = 0 from s3))]
  rw [s_X11_readLine, wh, ob_e, i4, ob_e]
  unfold pLine
  cases w2 : tW B N x 2 with
  | true =>
    rw [x1 2 4 a1 w2, if_pos (show nI false.toNat = 0 from rfl), i6, ob_e, x1 2 6 a2 w2, if_pos (show nI false.toNat = 0 from rfl), i7, ob_e, x1 2 17 a3 w2, if_pos (show nI false.toNat = 0 from rfl), if_pos rfl, if_pos rfl, e0, s_X11_readLine_J41, if_neg (by decide)]
    exact y_rib w s hx ok (jw := 0) (by omega)
  | false =>
    rw [if_neg (show ¬ false = true by decide), if_neg (show ¬ false = true by decide)]
    cases w3 : tW B N x 3 with
    | true =>
      rw [x1 3 4 b1 w3, if_pos (show nI false.toNat = 0 from rfl), i6, ob_e, x1 3 6 b2 w3, if_pos (show nI false.toNat = 0 from rfl), i7, ob_e, x1 3 17 b3 w3, if_pos (show nI false.toNat = 0 from rfl), if_pos rfl, if_pos rfl, e0, s_X11_readLine_J41, if_neg (by decide)]
      exact y_rib w s hx ok (jw := 1) (by omega)
    | false =>
      rw [if_neg (show ¬ false = true by decide), if_neg (show ¬ false = true by decide)]
      cases w4 : tW B N x 4 with
      | true =>
        rw [if_neg (show ¬ nI true.toNat = 0 by decide), if_pos rfl]
        cases hc : dcl D with
        | true =>
          have := twice 1 (by rw [show (1 : Int32) &&& nI (dn D) = _ from n1, hc]; decide) (by decide)
          unfold pCla
          rw [if_pos hc]
          exact this
        | false =>
          rw [once 1 (by rw [show (1 : Int32) &&& nI (dn D) = _ from n1, hc]; rfl) (by decide)]
          exact y_cla w s hx hc
      | false =>
        rw [if_pos (show nI false.toNat = 0 from rfl), if_neg (show ¬ false = true by decide), i6, ob_e]
        cases w5 : tW B N x 5 with
        | true =>
          rw [x1 5 6 c1 w5, if_pos (show nI false.toNat = 0 from rfl), i7, ob_e, x1 5 17 c2 w5, if_pos (show nI false.toNat = 0 from rfl), if_pos rfl, e0, s_X11_readLine_J41, if_pos (show nM = (-1 : Int32) from rfl), i5, ob_e, w5, if_neg (show ¬ nI true.toNat = 0 by decide)]
          exact y_ver w s hx ok
        | false =>
          rw [if_neg (show ¬ false = true by decide)]
          cases w6 : tW B N x 6 with
          | true =>
            rw [if_neg (show ¬ nI true.toNat = 0 by decide), if_pos rfl]
            by_cases hc : dC D = []
            · rw [once 2 (by rw [show (2 : Int32) &&& nI (dn D) = _ from n2, if_pos hc]; rfl) (by decide)]
              exact y_rul (wv := false) vn w s hx hc hk
            · have := twice 2 (by rw [show (2 : Int32) &&& nI (dn D) = _ from n2, if_neg hc]; decide) (by decide)
              unfold pRul
              rw [if_neg (show ¬ dRu false D = [] from hc)]
              exact this
          | false =>
            rw [if_pos (show nI false.toNat = 0 from rfl), if_neg (show ¬ false = true by decide), i7, ob_e]
            cases w7 : tW B N x 17 with
            | true =>
              rw [if_neg (show ¬ nI true.toNat = 0 by decide), if_pos rfl]
              by_cases hc : dW D = []
              · rw [once 4 (by rw [show (4 : Int32) &&& nI (dn D) = _ from n3, if_pos hc]; rfl) (by decide)]
                exact y_rul (wv := true) vn w s hx hc hk
              · have := twice 4 (by rw [show (4 : Int32) &&& nI (dn D) = _ from n3, if_neg hc]; decide) (by decide)
                unfold pRul
                rw [if_neg (show ¬ dRu true D = [] from hc)]
                exact this
            | false =>
              obtain ⟨h2, g2, b2⟩ := y_wr s1 s2 s3 1
              rw [if_pos (show nI false.toNat = 0 from rfl), if_neg (show ¬ false = true by decide), e0, s_X11_readLine_J41, if_pos (show nM = (-1 : Int32) from rfl), i5, ob_e, w5, if_pos (show nI false.toNat = 0 from rfl), show s_X11_wrong (1 : Int32) h = some h2 from g2, ob_e]
              exact y_bad b2 (by omega) (by omega) _ _
theorem y_lo (vn : zVn h0) (w : zTbm h0 B N) : ∀ f x D h n, N - x < f → f < n → zLm h0 B N h x D → x ≤ N → dOk D x → (match pLo B N f x D with
    | Sum.inl q => ∃ h', s_X11_loom_L54 n (nI (dn D)) h = s_X11_loom_J65 h' ∧ zBm h0 h' q.1 q.2
    | Sum.inr E => ∃ h', s_X11_loom_L54 n (nI (dn D)) h = s_X11_loom_J65 h' ∧ zfs zAlm h0 h' ∧ zI h' 52 20 = nI 0 ∧ zDM h' E ∧ dOk E N) := by
  have hN := w.1
  intro f
  induction f with
  | zero => intro x D h n h1; omega
  | succ f ih =>
    intro x D h n h1 h2 s hx ok
    obtain ⟨n, rfl, hn2⟩ := zq_suc h2
    obtain ⟨s1, s2, s3, s4⟩ := id s
    have hkl := tK_le (B := B) (N := N) (x := x)
    have hk1 := tK_1 (B := B) (N := N) (x := x)
    rw [s_X11_loom_L54, if_neg (show ¬ ¬ zI h 52 20 = 0 from fun n => n s3), s2.2.1, pLo]
    by_cases q : tK B N x = 0
    · rw [if_pos (show nI (tK B N x - 1) = 0 by rw [q]; rfl), if_pos q]
      obtain ⟨o1, o2, o3, o4, o5, o6, o7, o8, o9, o10⟩ := ok
      exact ⟨h, rfl, s1, s3, s4, o1, o2, o3, o4, o5, o6, o7, o8, o9, by omega⟩
    · rw [if_neg (nI_ne0 (by omega) (by omega)), if_neg q]
      have r := y_line vn w s hx q ok
      have pk := pLine_k (B := B) hN hx q ok
      cases hl : pLine B N D x with
      | inl p =>
        rw [hl] at r pk
        obtain ⟨v, h3, g3, b3⟩ := r
        have bb := b3.bad pk.1 pk.2
        obtain ⟨m, rfl, -⟩ := zq_suc (show 0 < n by omega)
        refine ⟨h3, ?_, b3⟩
        rw [g3, zbd_e, s_X11_loom_L54, if_pos bb]
      | inr p =>
        rw [hl] at r pk
        obtain ⟨h3, g3, b3⟩ := r
        obtain ⟨l1, l2, l3⟩ := pk
        rw [g3, zbd_e]
        exact ih p.1 p.2 h3 n (by omega) (by omega) b3 l2 l3
end YC
