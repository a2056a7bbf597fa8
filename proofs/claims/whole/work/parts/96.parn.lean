/-! ===== the parser in the reference, level by level ===== -/
section UN
variable {wv : Bool} {h0 : zH} {B : Nat → Nat} {N ti ri : Nat} {g : Nat → Nat}
theorem zOut_l {F : Option zH} {C : List Nat} {q : Nat × Nat} {h' : zH} (e : F = some h') (b : zBS h0 ti ri h' q.1 q.2) : zOut h0 B N ti ri g F C (Sum.inl q) := ⟨h', e, b⟩
theorem zOut_r {F : Option zH} {C D : List Nat} {x : Nat} {h' : zH} (e : F = some h') (s : zRS h0 B N ti ri g h' x (C ++ D)) : zOut h0 B N ti ri g F C (Sum.inr (x, D)) := ⟨h', e, s⟩
theorem qEn_op (g : Nat → Nat) {o : Nat} : qEn g (20000 + o) = qEp o := by
  rw [q_en3 (by omega), show 20000 + o - 20000 = o by omega]
theorem u_num (w : zBa wv h0 B N ti ri g) {h : zH} {x : Nat} {C : List Nat} (s : zRS h0 B N ti ri g h x C) (hx : x ≤ N) (hC : C.length ≤ x) (hk : tK B N x = 3) (rx : Int32 → zH → Option zH) (a : Int32) : zOut h0 B N ti ri g (zbd (s_X11_readNumber (0 : Int32) (9999 : Int32) h) fun v9 h8 => (s_X11_lay v9 h8).bind fun h10 => some h10) C (if 4 < tE B N x - tP B N x then Sum.inl (2, tP B N x) else Sum.inr (tE B N x, [tV B N x])) := by
  obtain ⟨s1, s2, s3, s4, s5⟩ := id s
  obtain ⟨t1, t2, t3, t4, t5⟩ := s2
  have hN := w.1.1
  have e1 := tE_le (B := B) hx
  have e2 := tE_1 (B := B) hx (by omega)
  have hv := tV_lt (B := B) hk
  rw [s_X11_readNumber, if_pos (show zI h 52 20 = 0 from s3), t2, if_pos (show nI (tK B N x - 1) = (2 : Int32) by rw [hk]; rfl), t4, t3, zq_sub e1.1]
  by_cases q : 4 < tE B N x - tP B N x
  · obtain ⟨h1, b1, b2⟩ := u_wrong s 2
    have bb := b2.bad (by omega) (by omega)
    rw [if_pos (show (4 : Int32) < nI (tE B N x - tP B N x) from nI_lt (a := 4) q (by omega)), s_X11_readNumber_J28, show s_X11_wrong (2 : Int32) h = some h1 from b1, ob_e, s_X11_readNumber_J31, if_pos bb, s_X11_readNumber_J38, if_pos bb, zbd_e, b_lay bb, ob_e, if_pos q]
    exact zOut_l rfl b2
  · obtain ⟨h1, b1, b2⟩ := u_step w s hx
    rw [if_neg (show ¬ (4 : Int32) < nI (tE B N x - tP B N x) from nI_nlt (a := 4) (by omega) (by omega)), t5 hk (by omega), if_neg (nI_pos (by omega)), if_pos (show nI (tV B N x) ≤ (9999 : Int32) from nI_le (b := 9999) (by omega) (by omega)), s_X11_readNumber_J31, if_neg (fun n => n (show zI h 52 20 = 0 from s3)), s_X11_readNumber_J38, if_neg (fun n => n (show zI h 52 20 = 0 from s3)), b1, ob_e, zbd_e, t5 hk (by omega), if_neg q]
    obtain ⟨h2, c1, c2⟩ := u_layx w b2 (by omega) (tV B N x)
    rw [q_en1 hv] at c1
    rw [c1, ob_e]
    exact zOut_r rfl c2
theorem u_part (w : zBa wv h0 B N ti ri g) {rp : Nat → Nat → pRs} {rx : Int32 → zH → Option zH} {a : Nat} (hG : ∀ y, y ≤ N → pG N y (rp (a + 1) y)) (hb : ∀ h, ¬ zI h 52 20 = 0 → rx (nI (a + 1)) h = some h) (hr : zLv h0 B N ti ri g (rp (a + 1)) (rx (nI (a + 1)))) : zLv h0 B N ti ri g (pPart wv B N rp a) (s_X11_readPart rx (nI a)) := by
  intro h x C s hx hC
  obtain ⟨s1, s2, s3, s4, s5⟩ := id s
  have t2 := s2.2.1
  have hN := w.1.1
  have e1 := tE_le (B := B) hx
  have hk := tK_le (B := B) (N := N) (x := x)
  have hk1 := tK_1 (B := B) (N := N) (x := x)
  unfold pPart
  rw [s_X11_readPart, if_pos (show zI h 52 20 = 0 from s3), t2]
  by_cases q3 : tK B N x = 3
  · rw [if_neg (fun n => n (show nI (tK B N x - 1) = (2 : Int32) by rw [q3]; rfl)), if_pos q3]
    exact u_num w s hx hC q3 rx (nI a)
  · rw [if_pos (show ¬ nI (tK B N x - 1) = (2 : Int32) from nI_ne (b := 2) (by omega) (by omega) (by omega)), if_neg q3]
    by_cases q2 : tK B N x = 2
    · have e2 := tE_1 (B := B) hx (by omega)
      rw [if_neg (fun n => n (show nI (tK B N x - 1) = (1 : Int32) by rw [q2]; rfl)), if_pos q2, u_val w s hx]
      by_cases q5 : pVal wv B N x = 5
      · obtain ⟨h1, b1, b2⟩ := u_wrong s 3
        have bb := b2.bad (by omega) (by omega)
        rw [if_pos q5, if_neg (fun n => n rfl), show s_X11_wrong (3 : Int32) h = some h1 from b1, ob_e, s_X11_readPart_J30, b_lay bb, ob_e, if_pos bb, if_pos q5]
        exact zOut_l rfl b2
      · have hv := pVal_le wv B N x
        have gl : g (pVal wv B N x) < 5 := by
          rcases w.2.2.1 with ⟨-, -, -, rfl⟩ | ⟨-, -, -, rfl⟩
          · exact qPr_lt _ (by omega)
          · exact qPw_lt _ (by omega)
        obtain ⟨h1, c1, c2⟩ := u_layx w s (by omega) (10000 + pVal wv B N x)
        rw [q_en2 (by omega) (by omega), show 10000 + pVal wv B N x - 10000 = pVal wv B N x by omega] at c1
        obtain ⟨h2, d1, d2⟩ := u_step w c2 hx
        rw [if_neg q5, if_pos (show ¬ nI (g (pVal wv B N x)) = (-1 : Int32) from fun e => by
          have : (nI (g (pVal wv B N x)) = nM) = False := zq_eM (by omega)
          rw [← this]; exact e), s_X11_readPart_J30, c1, ob_e, if_neg (fun n => n (show zI h1 52 20 = 0 from c2.2.2.1)), d1, ob_e, if_neg q5]
        exact zOut_r rfl d2
    · rw [if_pos (show ¬ nI (tK B N x - 1) = (1 : Int32) from nI_ne (b := 1) (by omega) (by omega) (by omega)), if_neg q2]
      have m1 := u_mark w s hx (c := 40) (by omega)
      rw [show nI a + 1 = nI (a + 1) from nI_1 a]
      cases hq : tM B N x 40 with
      | false =>
        rw [hq, if_neg (by decide)] at m1
        obtain ⟨h1, b1, b2⟩ := m1
        have bb := b2.bad (k := 1) (by omega) (by omega)
        rw [if_neg (by decide), show s_X11_mark (40 : Int32) h = some h1 from b1, ob_e]
        rw [hb h1 bb, ob_e, b_mark bb, ob_e]
        exact zOut_l rfl b2
      | true =>
        rw [hq, if_pos rfl] at m1
        obtain ⟨h1, b1, b2⟩ := m1
        rw [List.append_nil] at b2
        have e2 := tE_1 (B := B) hx (by have := (tM_k hq).1; omega)
        have r1 := hr h1 (tE B N x) C b2 e1.2.1 (by omega)
        have gG := hG (tE B N x) e1.2.1
        rw [if_pos rfl, show s_X11_mark (40 : Int32) h = some h1 from b1, ob_e]
        cases hp : rp (a + 1) (tE B N x) with
        | inl p =>
          rw [hp] at r1 gG
          obtain ⟨h2, c1, c2⟩ := r1
          have bb := c2.bad gG.1 (by have := gG.2; omega)
          rw [c1, ob_e, b_mark bb, ob_e, pB_l]
          exact zOut_l rfl c2
        | inr p =>
          rw [hp] at r1 gG
          obtain ⟨h2, c1, c2⟩ := r1
          obtain ⟨g1, g2, g3⟩ := gG
          have m2 := u_mark w c2 g2 (c := 41) (by omega)
          rw [c1, ob_e, show pB (Sum.inr p) (fun y C => if tM B N y 41 = true then (Sum.inr (tE B N y, C) : pRs) else Sum.inl (1, tP B N y)) = if tM B N p.1 41 = true then (Sum.inr (tE B N p.1, p.2) : pRs) else Sum.inl (1, tP B N p.1) from rfl]
          cases hq2 : tM B N p.1 41 with
          | true =>
            rw [hq2, if_pos rfl] at m2
            obtain ⟨h3, d1, d2⟩ := m2
            rw [List.append_nil] at d2
            rw [show s_X11_mark (41 : Int32) h2 = some h3 from d1, ob_e, if_pos rfl]
            exact zOut_r rfl d2
          | false =>
            rw [hq2, if_neg (by decide)] at m2
            obtain ⟨h3, d1, d2⟩ := m2
            rw [show s_X11_mark (41 : Int32) h2 = some h3 from d1, ob_e, if_neg (by decide)]
            exact zOut_l rfl d2
/-- one, then any number of times an operation and one more -/
theorem u_L (w : zBa wv h0 B N ti ri g) {op : Nat → Nat} {sub : Nat → pRs} {F : zH → Option zH} {G : Nat → zH → Option zH} (ho : pOpk B N op) (hG : ∀ y, y ≤ N → pG N y (sub y)) (hs : zLv h0 B N ti ri g sub F)
    (u0 : ∀ n h x C, zRS h0 B N ti ri g h x C → x ≤ N → op x = 0 → G (n + 1) h = some h)
    (u1 : ∀ n h x C, zRS h0 B N ti ri g h x C → x ≤ N → op x ≠ 0 → G (n + 1) h = (s_X11_stepOn h).bind fun h1 => (F h1).bind fun h2 => (s_X11_lay (qEp (op x)) h2).bind fun h3 => G n h3)
    (ub : ∀ n h, ¬ zI h 52 20 = 0 → G (n + 1) h = some h) {Cg : List Nat} : ∀ f x C n h, N - x < f → f < n → zRS h0 B N ti ri g h x (Cg ++ C) → x ≤ N → (Cg ++ C).length ≤ x → zOut h0 B N ti ri g (G n h) Cg (pL B N op sub f x C) := by
  have hN := w.1.1
  intro f
  induction f with
  | zero => intro x C n h h1; omega
  | succ f ih =>
    intro x C n h h1 h2 s hx hC
    obtain ⟨n, rfl, hn⟩ := zq_suc h2
    rw [pL]
    by_cases q : op x = 0
    · rw [if_pos q, u0 n h x _ s hx q]
      exact zOut_r rfl s
    · rw [if_neg q, u1 n h x _ s hx q]
      obtain ⟨h3, e3, s3⟩ := u_step w s hx
      have e1 := tE_1 (B := B) hx (ho x q)
      have e2 := (tE_le (B := B) hx).2.1
      have r := hs h3 (tE B N x) _ s3 e2 (by omega)
      have gG := hG (tE B N x) e2
      rw [e3, ob_e]
      cases hp : sub (tE B N x) with
      | inl p =>
        rw [hp] at r gG
        obtain ⟨h4, c1, c2⟩ := r
        have bb := c2.bad gG.1 (by have := gG.2; omega)
        obtain ⟨m, rfl, -⟩ := zq_suc (show f < n by omega)
        rw [c1, ob_e, b_lay bb, ob_e, ub m h4 bb, pB_l]
        exact zOut_l rfl c2
      | inr p =>
        rw [hp] at r gG
        obtain ⟨h4, c1, c2⟩ := r
        obtain ⟨g1, g2, g3⟩ := gG
        rw [List.length_append] at hC
        have l1 : (Cg ++ C ++ p.2).length < 700 := by
          rw [List.length_append, List.length_append]
          omega
        obtain ⟨h5, d1, d2⟩ := u_layx w c2 l1 (20000 + op x)
        rw [qEn_op] at d1
        rw [c1, ob_e, d1, ob_e]
        have ea : Cg ++ C ++ p.2 ++ [20000 + op x] = Cg ++ (C ++ p.2 ++ [20000 + op x]) := by simp only [List.append_assoc]
        rw [ea] at d2
        exact ih p.1 _ n h5 (by omega) (by omega) d2 g2 (by
          rw [List.length_append, List.length_append, List.length_append, List.length_singleton]
          omega)
theorem u_M (w : zBa wv h0 B N ti ri g) {op : Nat → Nat} {sub : Nat → pRs} {F : zH → Option zH} {G : Nat → zH → Option zH} (ho : pOpk B N op) (hG : ∀ y, y ≤ N → pG N y (sub y)) (hs : zLv h0 B N ti ri g sub F)
    (u0 : ∀ n h x C, zRS h0 B N ti ri g h x C → x ≤ N → op x = 0 → G (n + 1) h = some h)
    (u1 : ∀ n h x C, zRS h0 B N ti ri g h x C → x ≤ N → op x ≠ 0 → G (n + 1) h = (s_X11_stepOn h).bind fun h1 => (F h1).bind fun h2 => (s_X11_lay (qEp (op x)) h2).bind fun h3 => G n h3)
    (ub : ∀ n h, ¬ zI h 52 20 = 0 → G (n + 1) h = some h) : zLv h0 B N ti ri g (pM B N op sub) (fun h => (F h).bind fun h1 => G zfu h1) := by
  have hN := w.1.1
  intro h x C s hx hC
  have r := hs h x C s hx hC
  have gG := hG x hx
  unfold pM
  show zOut h0 B N ti ri g ((F h).bind fun h1 => G zfu h1) C _
  cases hp : sub x with
  | inl p =>
    rw [hp] at r gG
    obtain ⟨h4, c1, c2⟩ := r
    have bb := c2.bad gG.1 (by have := gG.2; omega)
    obtain ⟨m, em⟩ := b_zf
    rw [c1, ob_e, em, ub m h4 bb, pB_l]
    exact zOut_l rfl c2
  | inr p =>
    rw [hp] at r gG
    obtain ⟨h4, c1, c2⟩ := r
    obtain ⟨g1, g2, g3⟩ := gG
    rw [c1, ob_e]
    exact u_L w ho hG hs u0 u1 ub (N + 1 - p.1) p.1 p.2 zfu h4 (by omega) (zq_fu (by omega)) c2 g2 (by rw [List.length_append]; omega)
theorem n_t {b : Bool} (h : b = true) : ¬ nI b.toNat = 0 := by rw [h]; decide
theorem n_f {b : Bool} (h : b = false) : nI b.toNat = 0 := by rw [h]; rfl
section RX
variable {rp : Nat → Nat → pRs} {rx : Int32 → zH → Option zH} {a : Nat}
theorem u_prod (w : zBa wv h0 B N ti ri g) (hG : ∀ a y, y ≤ N → pG N y (rp a y)) (hb : ∀ h, ¬ zI h 52 20 = 0 → rx (nI (a + 1)) h = some h) (hr : zLv h0 B N ti ri g (rp (a + 1)) (rx (nI (a + 1)))) : zLv h0 B N ti ri g (pProd wv B N rp a) (s_X11_readProduct rx (nI a)) := by
  have := u_M w (G := fun n h => s_X11_readProduct_L3 rx n (nI a) h) tOp_o (fun y hy => pPart_G hG a hy) (u_part w (fun y hy => hG (a + 1) y hy) hb hr) ?_ ?_ (fun n h b => b_prodL b rx (nI a) n)
  · intro h x C s hx hC
    exact this h x C s hx hC
  · intro n h x C s hx q
    show s_X11_readProduct_L3 rx (n + 1) (nI a) h = some h
    rw [s_X11_readProduct_L3, show s_X11_isMarked (42 : Int32) h = _ from u_im w s (c := 42) (by omega), ob_e, show s_X11_isMarked (47 : Int32) h = _ from u_im w s (c := 47) (by omega), ob_e]
    unfold tOp at q
    cases h1 : tM B N x 42 with
    | true => rw [h1, if_pos rfl] at q; cases q
    | false =>
      rw [h1, if_neg (by decide)] at q
      cases h2 : tM B N x 47 with
      | true => rw [h2, if_pos rfl] at q; cases q
      | false => rw [if_neg (fun n => n rfl), if_pos (show nI false.toNat = 0 from rfl)]
  · intro n h x C s hx q
    show s_X11_readProduct_L3 rx (n + 1) (nI a) h = _
    rw [s_X11_readProduct_L3, s_X11_readProduct_J11, show s_X11_isMarked (42 : Int32) h = _ from u_im w s (c := 42) (by omega), ob_e, ob_e, show s_X11_isMarked (47 : Int32) h = _ from u_im w s (c := 47) (by omega), ob_e]
    unfold tOp at q ⊢
    cases h1 : tM B N x 42 with
    | true => rw [if_pos (by decide), if_neg (by decide), if_pos rfl]; rfl
    | false =>
      rw [h1, if_neg (by decide)] at q
      cases h2 : tM B N x 47 with
      | true => rw [if_neg (fun n => n rfl), if_neg (by decide), if_pos (show nI false.toNat = 0 from rfl), if_neg (by decide), if_pos rfl]; rfl
      | false => rw [h2, if_neg (by decide)] at q; exact absurd rfl q
theorem u_sum (w : zBa wv h0 B N ti ri g) (hG : ∀ a y, y ≤ N → pG N y (rp a y)) (hb : ∀ h, ¬ zI h 52 20 = 0 → rx (nI (a + 1)) h = some h) (hr : zLv h0 B N ti ri g (rp (a + 1)) (rx (nI (a + 1)))) : zLv h0 B N ti ri g (pSum wv B N rp a) (s_X11_readSum rx (nI a)) := by
  have := u_M w (G := fun n h => s_X11_readSum_L3 rx n (nI a) h) tOs_o (fun y hy => pProd_G hG a hy) (u_prod w hG hb hr) ?_ ?_ (fun n h b => b_sumL b rx (nI a) n)
  · intro h x C s hx hC
    exact this h x C s hx hC
  · intro n h x C s hx q
    show s_X11_readSum_L3 rx (n + 1) (nI a) h = some h
    rw [s_X11_readSum_L3, show s_X11_isMarked (43 : Int32) h = _ from u_im w s (c := 43) (by omega), ob_e, show s_X11_isMarked (45 : Int32) h = _ from u_im w s (c := 45) (by omega), ob_e]
    unfold tOs at q
    cases h1 : tM B N x 43 with
    | true => rw [h1, if_pos rfl] at q; cases q
    | false =>
      rw [h1, if_neg (by decide)] at q
      cases h2 : tM B N x 45 with
      | true => rw [h2, if_pos rfl] at q; cases q
      | false => rw [if_neg (fun n => n rfl), if_pos (show nI false.toNat = 0 from rfl)]
  · intro n h x C s hx q
    show s_X11_readSum_L3 rx (n + 1) (nI a) h = _
    rw [s_X11_readSum_L3, s_X11_readSum_J11, show s_X11_isMarked (43 : Int32) h = _ from u_im w s (c := 43) (by omega), ob_e, ob_e, show s_X11_isMarked (45 : Int32) h = _ from u_im w s (c := 45) (by omega), ob_e]
    unfold tOs at q ⊢
    cases h1 : tM B N x 43 with
    | true => rw [if_pos (by decide), if_neg (by decide), if_pos rfl]; rfl
    | false =>
      rw [h1, if_neg (by decide)] at q
      cases h2 : tM B N x 45 with
      | true => rw [if_neg (fun n => n rfl), if_neg (by decide), if_pos (show nI false.toNat = 0 from rfl), if_neg (by decide), if_pos rfl]; rfl
      | false => rw [h2, if_neg (by decide)] at q; exact absurd rfl q
theorem u_nots (w : zBa wv h0 B N ti ri g) {m : Nat} (hm : m ≤ 6) : ∀ k i n h x C, i + k = m → k < n → zRS h0 B N ti ri g h x C → C.length + k ≤ 700 → ∃ h', s_X11_readNot_L48 rx n (nI m) (nI i) h = some h' ∧ zRS h0 B N ti ri g h' x (C ++ List.replicate k 20003) := by
  intro k
  induction k with
  | zero =>
    intro i n h x C e hn s hC
    obtain ⟨n, rfl, -⟩ := zq_suc hn
    refine ⟨h, ?_, by rw [List.replicate_zero, List.append_nil]; exact s⟩
    rw [s_X11_readNot_L48, if_pos (nI_le (by omega) (by omega))]
  | succ k ih =>
    intro i n h x C e hn s hC
    obtain ⟨n, rfl, hn2⟩ := zq_suc hn
    obtain ⟨h1, c1, c2⟩ := u_layx w s (by omega) 20003
    obtain ⟨h2, d1, d2⟩ := ih (i + 1) n h1 x (C ++ [20003]) (by omega) (by omega) c2 (by rw [List.length_append, List.length_singleton]; omega)
    refine ⟨h2, ?_, ?_⟩
    · rw [s_X11_readNot_L48, if_neg (nI_ge (by omega) (by omega)), show s_X11_lay (-28 : Int32) h = some h1 by rw [← q_ep3, ← qEn_op g]; exact c1, ob_e, show nI i + 1 = nI (i + 1) from nI_1 i]
      exact d1
    · rw [List.replicate_succ, ← List.singleton_append, ← List.append_assoc]; exact d2
theorem u_nt (w : zBa wv h0 B N ti ri g) (hG : ∀ a y, y ≤ N → pG N y (rp a y)) (hb : ∀ h, ¬ zI h 52 20 = 0 → rx (nI (a + 1)) h = some h) (hr : zLv h0 B N ti ri g (rp (a + 1)) (rx (nI (a + 1)))) : ∀ f m x h C n, m + f = 7 → m ≤ 6 → f < n → zRS h0 B N ti ri g h x C → x ≤ N → C.length + m ≤ x → zOut h0 B N ti ri g (s_X11_readNot_L2 rx n (nI a) (nI m) h) C (pNt wv B N rp a f m x) := by
  have hN := w.1.1
  have w41 := fun x => tW_eq (B := B) (N := N) (x := x) (a := 41) (b := 7) (by decide +kernel)
  intro f
  induction f with
  | zero =>
    intro m x h C n e e6
    omega
  | succ f ih =>
    intro m x h C n e m6 hn s hx hC
    obtain ⟨n, rfl, hn2⟩ := zq_suc hn
    rw [pNt, s_X11_readNot_L2, u_is w s hx (d := 41) (by omega), w41 x, ob_e]
    cases hq : tW B N x 7 with
    | true =>
      rw [if_neg (by decide), if_pos rfl]
      have e1 := tE_1 (B := B) hx (by have := tW_k hq; omega)
      have e2 := (tE_le (B := B) hx).2.1
      by_cases q6 : m = 6
      · subst q6
        obtain ⟨h1, b1, b2⟩ := u_wrong s 2
        have bb := b2.bad (by omega) (by omega)
        obtain ⟨n2, rfl, -⟩ := zq_suc (show f < n by omega)
        rw [if_neg (fun n => n rfl), show s_X11_wrong (2 : Int32) h = some h1 from b1, ob_e, s_X11_readNot_J12, if_pos bb, show nI 6 + 1 = nI 7 from rfl, b_notL bb rx (nI a) (m := 7) (by omega) n2, if_pos rfl]
        exact zOut_l rfl b2
      · obtain ⟨h1, b1, b2⟩ := u_step w s hx
        rw [if_pos (show ¬ nI m = (6 : Int32) from nI_ne (b := 6) q6 (by omega) (by omega)), s_X11_readNot_J12, if_neg (fun n => n (show zI h 52 20 = 0 from s.2.2.1)), b1, ob_e, if_neg q6, show nI m + 1 = nI (m + 1) from nI_1 m]
        exact ih (m + 1) _ h1 C n (by omega) (by omega) (by omega) b2 e2 (by omega)
    | false =>
      rw [if_pos (show nI false.toNat = 0 from rfl), if_neg (by decide)]
      have r1 := u_sum w hG hb hr h x C s hx (by omega)
      have g1 := pSum_G (wv := wv) (B := B) hG a hx
      unfold pTest
      cases hp : pSum wv B N rp a x with
      | inl p =>
        rw [hp] at r1 g1
        obtain ⟨h1, c1, c2⟩ := r1
        have bb := c2.bad g1.1 (by have := g1.2; omega)
        rw [c1, ob_e, k_imB bb, ob_e, if_neg (fun n => n rfl), k_imB bb, ob_e, if_pos (show nI 0 = 0 from rfl), b_nots0 bb rx (by omega), pB_l, pB_l]
        exact zOut_l rfl c2
      | inr p =>
        rw [hp] at r1 g1
        obtain ⟨h1, c1, c2⟩ := r1
        obtain ⟨l1, l2, l3⟩ := g1
        rw [c1, ob_e, show s_X11_isMarked (60 : Int32) h1 = _ from u_im w c2 (c := 60) (by omega), ob_e, show s_X11_isMarked (61 : Int32) h1 = _ from u_im w c2 (c := 61) (by omega), ob_e, show pB (Sum.inr p) (fun y C => if tOt B N y = 0 then (Sum.inr (y, C) : pRs) else pB (pSum wv B N rp a (tE B N y)) (fun z D => Sum.inr (z, C ++ D ++ [20000 + tOt B N y]))) = if tOt B N p.1 = 0 then (Sum.inr (p.1, p.2) : pRs) else pB (pSum wv B N rp a (tE B N p.1)) (fun z D => Sum.inr (z, p.2 ++ D ++ [20000 + tOt B N p.1])) from rfl]
        have go : ∀ o : Nat, o = tOt B N p.1 → o ≠ 0 → zOut h0 B N ti ri g (s_X11_readNot_J37 rx (nI a) (nI m) (qEp o) h1) C (pB (if tOt B N p.1 = 0 then (Sum.inr (p.1, p.2) : pRs) else pB (pSum wv B N rp a (tE B N p.1)) (fun z D => Sum.inr (z, p.2 ++ D ++ [20000 + tOt B N p.1]))) (fun y C => Sum.inr (y, C ++ List.replicate m 20003))) := by
          intro o eo on
          rw [← eo, if_neg on, s_X11_readNot_J37]
          obtain ⟨h2, d1, d2⟩ := u_step w c2 l2
          have e1 := tE_1 (B := B) l2 (tOt_o p.1 (by rw [← eo]; exact on))
          have e2 := (tE_le (B := B) l2).2.1
          have r2 := u_sum w hG hb hr h2 (tE B N p.1) _ d2 e2 (by rw [List.length_append]; omega)
          have g2 := pSum_G (wv := wv) (B := B) hG a e2
          rw [d1, ob_e]
          cases hp2 : pSum wv B N rp a (tE B N p.1) with
          | inl p2 =>
            rw [hp2] at r2 g2
            obtain ⟨h3, f1, f2⟩ := r2
            have bb := f2.bad g2.1 (by have := g2.2; omega)
            rw [f1, ob_e, b_lay bb, ob_e, b_nots0 bb rx (by omega), pB_l, pB_l]
            exact zOut_l rfl f2
          | inr p2 =>
            rw [hp2] at r2 g2
            obtain ⟨h3, f1, f2⟩ := r2
            obtain ⟨k1, k2, k3⟩ := g2
            have ll : (C ++ p.2 ++ p2.2).length + 1 + m ≤ 700 := by
              rw [List.length_append, List.length_append]
              omega
            obtain ⟨h4, i1, i2⟩ := u_layx w f2 (by omega) (20000 + o)
            rw [qEn_op] at i1
            obtain ⟨h5, j1, j2⟩ := u_nots (rx := rx) w (m := m) (by omega) m 0 zfu h4 p2.1 _ (by omega) (zq_fu (by omega)) i2 (by rw [List.length_append (bs := [20000 + o]), List.length_singleton]; exact ll)
            rw [f1, ob_e, i1, ob_e, show s_X11_readNot_L48 rx zfu (nI m) 0 h4 = some h5 from j1]
            refine zOut_r rfl ?_
            have ea : C ++ p.2 ++ p2.2 ++ [20000 + o] ++ List.replicate m 20003 = C ++ (p.2 ++ p2.2 ++ [20000 + o] ++ List.replicate m 20003) := by simp only [List.append_assoc]
            rw [← ea]
            exact j2
        cases h60 : tM B N p.1 60 with
        | true =>
          have eo : tOt B N p.1 = 4 := by unfold tOt; rw [h60, if_pos rfl]
          rw [if_pos (by decide), s_X11_readNot_J30, show s_X11_isMarked (60 : Int32) h1 = _ from u_im w c2 (c := 60) (by omega), ob_e, h60, if_neg (by decide)]
          exact go 4 eo.symm (by decide)
        | false =>
          rw [if_neg (fun n => n rfl)]
          cases h61 : tM B N p.1 61 with
          | true =>
            have eo : tOt B N p.1 = 5 := by unfold tOt; rw [h60, if_neg (by decide), h61, if_pos rfl]
            rw [if_neg (by decide), s_X11_readNot_J30, show s_X11_isMarked (60 : Int32) h1 = _ from u_im w c2 (c := 60) (by omega), ob_e, h60, if_pos (show nI false.toNat = 0 from rfl)]
            exact go 5 eo.symm (by decide)
          | false =>
            have eo : tOt B N p.1 = 0 := by unfold tOt; rw [h60, if_neg (by decide), h61, if_neg (by decide)]
            rw [if_pos (show nI false.toNat = 0 from rfl), eo, if_pos rfl]
            have ll : (C ++ p.2).length + m ≤ 700 := by
              rw [List.length_append]
              omega
            obtain ⟨h5, j1, j2⟩ := u_nots (rx := rx) w (m := m) (by omega) m 0 zfu h1 p.1 _ (by omega) (zq_fu (by omega)) c2 (by omega)
            rw [show s_X11_readNot_L48 rx zfu (nI m) 0 h1 = some h5 from j1]
            refine zOut_r rfl ?_
            rw [← List.append_assoc]
            exact j2
theorem u_not (w : zBa wv h0 B N ti ri g) (hG : ∀ a y, y ≤ N → pG N y (rp a y)) (hb : ∀ h, ¬ zI h 52 20 = 0 → rx (nI (a + 1)) h = some h) (hr : zLv h0 B N ti ri g (rp (a + 1)) (rx (nI (a + 1)))) : zLv h0 B N ti ri g (pNot wv B N rp a) (s_X11_readNot rx (nI a)) := by
  intro h x C s hx hC
  rw [s_X11_readNot]
  exact u_nt w hG hb hr 7 0 x h C zfu (by omega) (by omega) (zq_fu (by omega)) s hx (by omega)
theorem u_and (w : zBa wv h0 B N ti ri g) (hG : ∀ a y, y ≤ N → pG N y (rp a y)) (hb : ∀ h, ¬ zI h 52 20 = 0 → rx (nI (a + 1)) h = some h) (hr : zLv h0 B N ti ri g (rp (a + 1)) (rx (nI (a + 1)))) : zLv h0 B N ti ri g (pAnd wv B N rp a) (s_X11_readAnd rx (nI a)) := by
  have wd := fun x => tW_eq (B := B) (N := N) (x := x) (a := 42) (b := 16) (by decide +kernel)
  have := u_M w (G := fun n h => s_X11_readAnd_L3 rx n (nI a) h) tOa_o (fun y hy => pNot_G hG a hy) (u_not w hG hb hr) ?_ ?_ (fun n h b => b_andL b rx (nI a) n)
  · intro h x C s hx hC
    exact this h x C s hx hC
  · intro n h x C s hx q
    show s_X11_readAnd_L3 rx (n + 1) (nI a) h = some h
    rw [s_X11_readAnd_L3, u_is w s hx (d := 42) (by omega), wd x, ob_e]
    unfold tOa at q
    cases h1 : tW B N x 16 with
    | true => rw [h1, if_pos rfl] at q; cases q
    | false => rw [if_pos (show nI false.toNat = 0 from rfl)]
  · intro n h x C s hx q
    show s_X11_readAnd_L3 rx (n + 1) (nI a) h = _
    rw [s_X11_readAnd_L3, u_is w s hx (d := 42) (by omega), wd x, ob_e]
    unfold tOa at q ⊢
    cases h1 : tW B N x 16 with
    | true => rw [if_neg (by decide), if_pos rfl]; rfl
    | false => rw [h1, if_neg (by decide)] at q; exact absurd rfl q
theorem u_or (w : zBa wv h0 B N ti ri g) (hG : ∀ a y, y ≤ N → pG N y (rp a y)) (hb : ∀ h, ¬ zI h 52 20 = 0 → rx (nI (a + 1)) h = some h) (hr : zLv h0 B N ti ri g (rp (a + 1)) (rx (nI (a + 1)))) : zLv h0 B N ti ri g (pOr wv B N rp a) (s_X11_readExpression_J32 rx (nI a)) := by
  have wd := fun x => tW_eq (B := B) (N := N) (x := x) (a := 43) (b := 15) (by decide +kernel)
  have := u_M w (G := fun n h => s_X11_readExpression_L35 rx n (nI a) h) tOo_o (fun y hy => pAnd_G hG a hy) (u_and w hG hb hr) ?_ ?_ (fun n h b => b_exL b rx (nI a) n)
  · intro h x C s hx hC
    exact this h x C s hx hC
  · intro n h x C s hx q
    show s_X11_readExpression_L35 rx (n + 1) (nI a) h = some h
    rw [s_X11_readExpression_L35, u_is w s hx (d := 43) (by omega), wd x, ob_e]
    unfold tOo at q
    cases h1 : tW B N x 15 with
    | true => rw [h1, if_pos rfl] at q; cases q
    | false => rw [if_pos (show nI false.toNat = 0 from rfl)]
  · intro n h x C s hx q
    show s_X11_readExpression_L35 rx (n + 1) (nI a) h = _
    rw [s_X11_readExpression_L35, u_is w s hx (d := 43) (by omega), wd x, ob_e]
    unfold tOo at q ⊢
    cases h1 : tW B N x 15 with
    | true => rw [if_neg (by decide), if_pos rfl]; rfl
    | false => rw [h1, if_neg (by decide)] at q; exact absurd rfl q
theorem u_ex19 (w : zBa wv h0 B N ti ri g) (hG : ∀ a y, y ≤ N → pG N y (rp a y)) (ha : a ≤ 6) (hb : ∀ h, ¬ zI h 52 20 = 0 → rx (nI (a + 1)) h = some h) (hr : a < 6 → zLv h0 B N ti ri g (rp (a + 1)) (rx (nI (a + 1)))) : zLv h0 B N ti ri g (pExpr wv B N rp a) (s_X11_readExpression rx (nI a)) := by
  intro h x C s hx hC
  have t2 := s.2.1.2.1
  have hk := tK_le (B := B) (N := N) (x := x)
  have hk1 := tK_1 (B := B) (N := N) (x := x)
  have yes : (tK B N x = 3 ∨ tK B N x = 2 ∨ tM B N x 40 = true) → zOut h0 B N ti ri g (s_X11_readExpression_J19 rx (nI a) (1 : Int32) h) C (pExpr wv B N rp a x) := by
    intro q
    unfold pExpr
    rw [if_pos q, s_X11_readExpression_J19, if_pos (by decide)]
    by_cases q6 : a = 6
    · obtain ⟨h1, b1, b2⟩ := u_wrong s 2
      have bb := b2.bad (by omega) (by omega)
      rw [if_neg (fun n => n (by rw [q6]; rfl)), show s_X11_wrong (2 : Int32) h = some h1 from b1, ob_e, b_ex32 bb, if_pos q6]
      exact zOut_l rfl b2
    · rw [if_pos (show ¬ nI a = (6 : Int32) from nI_ne (b := 6) q6 (by omega) (by omega)), if_neg q6]
      exact u_or w hG hb (hr (by omega)) h x C s hx hC
  rw [s_X11_readExpression, if_pos (show zI h 52 20 = 0 from s.2.2.1), t2]
  by_cases q3 : tK B N x = 3
  · rw [if_pos (show nI (tK B N x - 1) = (2 : Int32) by rw [q3]; rfl)]
    exact yes (Or.inl q3)
  · rw [if_neg (show ¬ nI (tK B N x - 1) = (2 : Int32) from nI_ne (b := 2) (by omega) (by omega) (by omega))]
    by_cases q2 : tK B N x = 2
    · rw [if_pos (show nI (tK B N x - 1) = (1 : Int32) by rw [q2]; rfl)]
      exact yes (Or.inr (Or.inl q2))
    · rw [if_neg (show ¬ nI (tK B N x - 1) = (1 : Int32) from nI_ne (b := 1) (by omega) (by omega) (by omega)), show s_X11_isMarked (40 : Int32) h = _ from u_im w s (c := 40) (by omega), ob_e]
      cases h4 : tM B N x 40 with
      | true => rw [if_neg (by decide)]; exact yes (Or.inr (Or.inr h4))
      | false =>
        obtain ⟨h1, b1, b2⟩ := u_wrong s 1
        have bb := b2.bad (by omega) (by omega)
        unfold pExpr
        rw [if_pos (show nI false.toNat = 0 from rfl), s_X11_readExpression_J19, if_neg (fun n => n rfl), show s_X11_wrong (1 : Int32) h = some h1 from b1, ob_e, b_ex32 bb, if_neg (by rw [h4]; intro n; rcases n with n | n | n <;> first | exact q3 n | exact q2 n | cases n)]
        exact zOut_l rfl b2
end RX
theorem b_t {h : zH} (b : ¬ zI h 52 20 = 0) (n : Nat) (a : Int32) : t_X11_readExpression (n + 1) a h = some h := by
  show s_X11_readExpression (t_X11_readExpression n) a h = some h
  rw [s_X11_readExpression, if_neg b]
theorem u_ex (w : zBa wv h0 B N ti ri g) : ∀ n a, a ≤ 6 → 8 ≤ a + n → zLv h0 B N ti ri g (pEx wv B N n a) (t_X11_readExpression n (nI a)) := by
  intro n
  induction n with
  | zero => intro a h1 h2; omega
  | succ n ih =>
    intro a h1 h2
    have := u_ex19 (rp := pEx wv B N n) (rx := t_X11_readExpression n) (a := a) w (fun a y hy => pEx_G n a y hy) h1 (fun h b => by
      obtain ⟨m, rfl, -⟩ := zq_suc (show 0 < n by omega)
      exact b_t b m _) (fun h6 => ih (a + 1) (by omega) (by omega))
    exact this
end UN
