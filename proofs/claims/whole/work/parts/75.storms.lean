/-! ===== storms in the reference ===== -/
section SM
variable {c pp : Nat} {h h0 h4 : zH} {P : zPl} {L : zLg} {S : Nat → Nat}
theorem k_stdM (hP : pOk P) (ho : sOk (pR P) S) {d m t : Nat} (hd : d ≤ 5) (hm : m < 32) (ht : t ≤ 10) (K : Int32 → Int32 → Int32 → Int32 → Int32 → zH → Option (Int32 × zH)) (l1 l4 : Int32) : ∀ k j n h, j + k = d → k < n → zPM h P → zSM h (pR P) (qTr P S m j) → ∃ h', s_X11_storms_L45 K n l1 (nI d) (nI t) l4 (nI m) (nI (qWt t m j)) (nI j) h = s_X11_storms_L45 K 1 l1 (nI d) (nI t) l4 (nI m) (nI (qWt t m d)) (nI d) h' ∧ zSM h' (pR P) (qTr P S m d) ∧ zfr zAm h h' := by
  intro k
  have hR := hP.1
  induction k with
  | zero =>
    intro j n h e hn w s
    obtain ⟨n, rfl, -⟩ := zq_suc hn
    have e2 : j = d := by omega
    subst e2
    refine ⟨h, ?_, s, zfr.rf _ h⟩
    rw [s_X11_storms_L45, if_pos (nI_le (by omega) (by omega)), s_X11_storms_L45, if_pos (nI_le (by omega) (by omega))]
  | succ k ih =>
    intro j n h e hn w s
    obtain ⟨n, rfl, hn2⟩ := zq_suc hn
    have oj := qTr_ok hP ho m j
    have key : ∀ h1 (x : Nat), x = qWt t m (j + 1) → zPM h1 P → zSM h1 (pR P) (qSx P m j (qTr P S m j)) → zfr zAm h h1 → ∃ h', s_X11_storms_J86 (s_X11_storms_L45 K n) l1 (nI d) (nI t) l4 (nI m) (nI x) (nI j) h1 = s_X11_storms_L45 K 1 l1 (nI d) (nI t) l4 (nI m) (nI (qWt t m d)) (nI d) h' ∧ zSM h' (pR P) (qTr P S m d) ∧ zfr zAm h h' := by
      intro h1 x ex w1 s1 f1
      obtain ⟨h2, e2, s2, -, -, f2⟩ := k_day hP w1 s1 (qSx_ok hR oj)
      obtain ⟨h3, e3, s3, f3⟩ := ih (j + 1) n h2 (by omega) (by omega) (w1.fr f2 (fun b k e => by unfold zAm; omega)) (by rw [qTr]; exact s2)
      refine ⟨h3, ?_, s3, (f1.tr f2).tr f3⟩
      rw [s_X11_storms_J86, e2, ob_e, show nI j + 1 = nI (j + 1) from nI_1 j, ex, e3]
    rw [s_X11_storms_L45, if_neg (nI_ge (by omega) (by omega)), k_of (by omega) (by omega), ob_e]
    rw [qWt] at key
    unfold qSx at key
    cases hq : m.testBit j with
    | false =>
      rw [hq, if_neg (by decide)] at key
      have key2 := key h _ rfl w s (zfr.rf _ h)
      rw [if_pos (show nI false.toNat = 0 from rfl), show (10 : Int32) - nI t = nI (10 - t) from zq_sub (a := 10) ht, show nI (qWt t m j) * nI (10 - t) = nI (qWt t m j * (10 - t)) from pk_mul _ _]
      have z : s_X11_storms_L64 (s_X11_storms_L45 K n) zfu l1 (nI d) (nI t) l4 (nI m) (nI (qWt t m j * (10 - t))) (nI j) (nI false.toNat) 0 h = s_X11_storms_J86 (s_X11_storms_L45 K n) l1 (nI d) (nI t) l4 (nI m) (nI (qWt t m j * (10 - t))) (nI j) h := by
        obtain ⟨f, ef, -⟩ := zq_suc (show 0 < zfu from zq_fu (by omega))
        rw [ef, s_X11_storms_L64, if_pos (show nI false.toNat = 0 from rfl), ite_self]
      rw [z]
      exact key2
    | true =>
      rw [hq, if_pos rfl] at key
      rw [if_neg (by decide), show nI (qWt t m j) * nI t = nI (qWt t m j * t) from pk_mul _ _]
      obtain ⟨h1, e1, s1, f1⟩ := k_weakM hR (s_X11_storms_L45 K n) l1 (nI d) (nI t) l4 (nI m) (nI (qWt t m j * t)) (nI j) (pR P) 0 zfu h _ (by omega) (zq_fu (by omega)) w.1 s oj
      have key2 := key h1 _ rfl (w.fr f1 (fun b k e => by omega)) s1 (f1.mo (fun b k e => by unfold zAm; omega))
      rw [show s_X11_storms_L64 (s_X11_storms_L45 K n) zfu l1 (nI d) (nI t) l4 (nI m) (nI (qWt t m j * t)) (nI j) (nI true.toNat) 0 h = _ from e1]
      exact key2
theorem k_stormM (hP : pOk P) (ho : sOk (pR P) S) {d t b : Nat} (hd : d ≤ 5) (hb : b < pR P) (ht : t ≤ 10) (wM : zPM h0 P) (sM : zSM h0 (pR P) S) (v4 : ∀ j, j < 38 → zI h4 71 j = zMr h0 j) (f4 : zfr (fun c k => c = 71 ∧ k < 38) h0 h4) : ∀ k m n h, m + k = 2 ^ d → k < n → zfr zScr h0 h → zfr (zAx 71) h4 h → zI h 52 4 = zI h0 52 4 → ∃ h', s_X11_storms_L36 n (nI b) (nI d) (nI t) (nI (qSu P S b d t m)) (nI m) h = some (nI (qSu P S b d t (2 ^ d)), h') ∧ zfr zScr h0 h' ∧ zI h' 52 4 = zI h0 52 4 := by
  intro k
  have hR := hP.1
  have h32 : 2 ^ d ≤ 32 := Nat.pow_le_pow_right (n := 2) (by omega) hd
  have sh : (1 : Int32) <<< (nI d &&& 31) = nI (2 ^ d) := zq_shl (r := d) (by omega)
  induction k with
  | zero =>
    intro m n h e hn f g z
    obtain ⟨n, rfl, -⟩ := zq_suc hn
    have e2 : m = 2 ^ d := by omega
    refine ⟨h, ?_, f, z⟩
    rw [s_X11_storms_L36, sh, if_pos (nI_le (by omega) (by omega)), e2]
  | succ k ih =>
    intro m n h e hn f g z
    obtain ⟨n, rfl, hn2⟩ := zq_suc hn
    have w1 : zPM h P := wM.fr f (fun b k e => by unfold zScr; omega)
    have s1 : zSM h (pR P) S := sM.fr f (fun b k e => by unfold zScr; omega)
    obtain ⟨h1, e1, s2, f1⟩ := k_stdM hP ho hd (m := m) (by omega) ht (s_X11_storms_L36 n) (nI b) (nI (qSu P S b d t m)) d 0 zfu h (by omega) (zq_fu (by omega)) w1 s1
    have g1 : zfr (zAx 71) h4 h1 := g.tr (f1.mo (zAm_x 71 (Or.inl rfl)))
    obtain ⟨h7, e7, f7, g7⟩ := r_unp (Or.inl rfl) v4 f4 g1
    have z7 : zI h7 52 4 = zI h0 52 4 := by rw [g7.i (by unfold zAs; omega), f1.i (by unfold zAm; omega)]; exact z
    obtain ⟨h9, e9, f9, z9⟩ := ih (m + 1) n h7 (by omega) (by omega) f7 (g1.tr (g7.mo (fun b k e => Or.inr e))) z7
    refine ⟨h9, ?_, f9, z9⟩
    rw [qSu] at e9
    rw [s_X11_storms_L36, sh, if_neg (nI_ge (by omega) (by omega)), show s_X11_storms_L45 (s_X11_storms_L36 n) zfu (nI b) (nI d) (nI t) (nI (qSu P S b d t m)) (nI m) 1 0 h = _ from e1, s_X11_storms_L45, if_pos (nI_le (by omega) (by omega)), k_goneAt hR s2 (qTr_ok hP ho m d) hb, ob_e]
    by_cases q : qTr P S m d b = 0
    · rw [if_pos q] at e9 ⊢
      rw [if_neg (by decide), s_X11_storms_J98, e7, ob_e, nI_add, show nI m + 1 = nI (m + 1) from nI_1 m]
      exact e9
    · rw [if_neg q] at e9 ⊢
      rw [if_pos (show nI 0 = 0 from rfl), s_X11_storms_J98, e7, ob_e, show nI (qSu P S b d t m) + 0 = nI (qSu P S b d t m + 0) from nI_add _ 0, show nI m + 1 = nI (m + 1) from nI_1 m]
      exact e9
theorem c_storms (w : zRel c h pp P L) (x y z : Int32) : zCall c h pp P (s_L_storms pp x y z 90 1 h) (s_X11_storms x y z) := by
  show zCall c h pp P (zHb (s_X10_storms pp x y z h)) (s_X11_storms x y z)
  have hP := w.2.1
  have hR := hP.1
  have bad : (x < nI 0 ∨ nI (pR P) ≤ x) → zCall c h pp P (zHb (s_X10_storms pp x y z h)) (s_X11_storms x y z) := by
    intro hx
    refine zCall.j1 (v := nI 0) w (by rw [s_X10_storms, n_rib0 w hx, zbx_r]) (zAsk.fail (fun h w => ?_))
    rw [r_rib0 w hx, ob_e, if_neg (by decide)]
    rfl
  rcases zq_any x (pR P) (by omega) with hx | hx | ⟨b, hb, rfl⟩
  · exact bad (Or.inl hx)
  · exact bad (Or.inr hx)
  · rcases zq_with y 1 5 (by omega) (by omega) with hy | ⟨d, d1, hd, rfl⟩
    · refine zCall.j0 (v := nI 0) w (by rw [s_X10_storms, n_rib1 w hb, zbx_l, show (1 : Int32) = nI 1 from rfl, show (5 : Int32) = nI 5 from rfl, n_wit0 hy, zbx_r]) (zAsk.fail (fun h w => ?_))
      rw [r_rib1 w hb, ob_e, if_pos (by decide), show s_X11_isIn y.toInt64 (1 : Int64) (5 : Int64) h = some (nI 0) from k_in0 (a := 1) (b := 5) hy h, ob_e, if_pos (show nI 0 = 0 from rfl), s_X11_storms_J23]
      rfl
    · have gd : ∀ h, s_X11_isIn (nI d).toInt64 (1 : Int64) (5 : Int64) h = some (nI 1) := fun h => k_in1 (a := 1) (b := 5) d1 hd (by omega) h
      have cd : ∀ h, s_X10_needWithin pp (nI d) 1 5 h = some (Sum.inl (), h) := fun h => n_wit1 (a := 1) (b := 5) d1 hd (by omega)
      rcases zq_with z 0 10 (by omega) (by omega) with hz | ⟨t, -, ht, rfl⟩
      · refine zCall.j0 (v := nI 0) w (by rw [s_X10_storms, n_rib1 w hb, zbx_l, cd, zbx_l, show (0 : Int32) = nI 0 from rfl, show (10 : Int32) = nI 10 from rfl, n_wit0 hz, zbx_r]) (zAsk.fail (fun h w => ?_))
        rw [r_rib1 w hb, ob_e, if_pos (by decide), gd, ob_e, if_neg (by decide), show s_X11_isIn z.toInt64 (0 : Int64) (10 : Int64) h = some (nI 0) from k_in0 (a := 0) (b := 10) hz h, ob_e, if_neg (fun n => n rfl), s_X11_storms_J23]
        rfl
      · obtain ⟨w0, -, hL, wC, wM, cC, cM, -⟩ := id w
        have ho := hL.1.1
        have h32 : 2 ^ d ≤ 32 := Nat.pow_le_pow_right (n := 2) (by omega) hd
        obtain ⟨h1, e1, f1⟩ := k_storm w0 hP ho hd hb ht (2 ^ d) 0 zfu h (by omega) (zq_fu (by omega)) wC cC.1
        refine zCall.j (v := nI (qSu P (lS L) b d t (2 ^ d))) w ?_ f1.scr (zAsk.go (fun h w k4 => ?_))
        · rw [s_X10_storms, n_rib1 w hb, zbx_l, cd, zbx_l, show s_X10_needWithin pp (nI t) 0 10 h = some (Sum.inl (), h) from n_wit1 (a := 0) (b := 10) (by omega) ht (by omega), zbx_l]
          exact e1
        · obtain ⟨w0, -, hL, wC, wM, cC, cM, -⟩ := id w
          obtain ⟨h4, e4, v4, f4⟩ := r_pack 71 (Or.inl rfl) h
          obtain ⟨h5, e5, f5, z5⟩ := k_stormM hP ho hd hb ht wM cM.1 v4 f4 (2 ^ d) 0 zfu h4 (by omega) (zq_fu (by omega)) (f4.mo (fun b k e => by unfold zScr; omega)) (zfr.rf _ h4) (f4.i (by omega))
          refine ⟨h5, ?_, z5.trans k4, f5⟩
          rw [r_rib1 w hb, ob_e, if_pos (by decide), gd, ob_e, if_neg (by decide), show s_X11_isIn (nI t).toInt64 (0 : Int64) (10 : Int64) h = some (nI 1) from k_in1 (a := 0) (b := 10) (by omega) ht (by omega) h, ob_e, if_pos (by decide), e4, ob_e]
          exact e5
end SM
