/-! ===== rib, verse, sail, skill, between, both, fault ===== -/
theorem zq_out {x : Int32} {n k : Nat} (h : x < nI 0 ∨ nI n ≤ x) (hk : k < n) (hn : n < 2 ^ 31) : ¬ x = nI k := by
  intro e
  subst e
  rcases h with q | q
  · exact nI_pos (by omega) q
  · exact nI_ge hk hn q
theorem zq_lt4 {x : Int32} (h : nI 4 ≤ x) : nI 3 < x := by
  rw [fa_le] at h
  rw [fa_lt]
  rw [nI_toInt (by omega)] at h ⊢
  omega
theorem zq_lt2 {x : Int32} (h : nI 2 ≤ x) : nI 1 < x := by
  rw [fa_le] at h
  rw [fa_lt]
  rw [nI_toInt (by omega)] at h ⊢
  omega
theorem zq_lt3 {x : Int32} (h : nI 3 ≤ x) : nI 2 < x := by
  rw [fa_le] at h
  rw [fa_lt]
  rw [nI_toInt (by omega)] at h ⊢
  omega
section Q2
variable {c pp : Nat} {h : zH} {P : zPl} {L : zLg}
theorem n_rib1 (w : zRel c h pp P L) {j : Nat} (hj : j < pR P) : s_X10_needRib pp (nI j) h = some (Sum.inl (), h) := by
  have hR := w.2.1.1
  rw [s_X10_needRib, w.2.2.2.1.1, if_neg (nI_pos (by omega)), if_pos (nI_lt hj (by omega))]
theorem n_rib0 (w : zRel c h pp P L) {x : Int32} (hx : x < nI 0 ∨ nI (pR P) ≤ x) : s_X10_needRib pp x h = some (Sum.inr 1, zth h) := by
  have hR := w.2.1.1
  rw [s_X10_needRib, w.2.2.2.1.1]
  by_cases q : x < 0
  · rw [if_pos q]
  · rw [if_neg q, if_neg]
    intro q2
    rcases hx with q3 | q3
    · exact q q3
    · rw [fa_lt] at q2
      rw [fa_le] at q3
      omega
theorem n_ver1 (w : zRel c h pp P L) {j : Nat} (hj : j < pV P) : s_X10_needVerse pp (nI j) h = some (Sum.inl (), h) := by
  have hR := w.2.1.2.1
  rw [s_X10_needVerse, w.2.2.2.1.2.2.1, if_neg (nI_pos (by omega)), if_pos (nI_lt hj (by omega))]
theorem n_ver0 (w : zRel c h pp P L) {x : Int32} (hx : x < nI 0 ∨ nI (pV P) ≤ x) : s_X10_needVerse pp x h = some (Sum.inr 1, zth h) := by
  have hR := w.2.1.2.1
  rw [s_X10_needVerse, w.2.2.2.1.2.2.1]
  by_cases q : x < 0
  · rw [if_pos q]
  · rw [if_neg q, if_neg]
    intro q2
    rcases hx with q3 | q3
    · exact q q3
    · rw [fa_lt] at q2
      rw [fa_le] at q3
      omega
theorem n_wha1 {j n : Nat} (hj : j < n) (hn : n < 2 ^ 31) : s_X10_needWhat pp (nI j) (nI n) h = some (Sum.inl (), h) := by
  rw [s_X10_needWhat, if_neg (nI_pos (by omega)), if_pos (nI_lt hj (by omega))]
theorem n_wha0 {x : Int32} {n : Nat} (hx : x < nI 0 ∨ nI n ≤ x) : s_X10_needWhat pp x (nI n) h = some (Sum.inr 1, zth h) := by
  rw [s_X10_needWhat]
  by_cases q : x < 0
  · rw [if_pos q]
  · rw [if_neg q, if_neg]
    intro q2
    rcases hx with q3 | q3
    · exact q q3
    · rw [fa_lt] at q2
      rw [fa_le] at q3
      omega
theorem n_cla1 {j : Nat} (hj : j < 2) : s_X10_needClan pp (nI j) h = some (Sum.inl (), h) := by
  have e : j = 0 ∨ j = 1 := by omega
  rcases e with e | e <;> subst e <;> rfl
theorem n_cla0 {x : Int32} (hx : x < nI 0 ∨ nI 2 ≤ x) : s_X10_needClan pp x h = some (Sum.inr 1, zth h) := by
  rw [s_X10_needClan, if_neg (show ¬ x = 0 from zq_out hx (k := 0) (by omega) (by omega)), if_neg (show ¬ x = 1 from zq_out hx (k := 1) (by omega) (by omega))]
theorem n_wit1 {j a b : Nat} (h1 : a ≤ j) (h2 : j ≤ b) (hb : b < 2 ^ 31) : s_X10_needWithin pp (nI j) (nI a) (nI b) h = some (Sum.inl (), h) := by
  rw [s_X10_needWithin, if_neg (nI_nlt h1 (by omega)), if_pos (nI_le h2 hb)]
theorem n_wit0 {x : Int32} {a b : Nat} (hx : x < nI a ∨ nI b < x) : s_X10_needWithin pp x (nI a) (nI b) h = some (Sum.inr 0, zth h) := by
  rw [s_X10_needWithin]
  by_cases q : x < nI a
  · rw [if_pos q]
  · rw [if_neg q, if_neg]
    intro q2
    rcases hx with q3 | q3
    · exact q q3
    · rw [fa_le] at q2
      rw [fa_lt] at q3
      omega
/-- any int: within bounds or not -/
theorem zq_with (x : Int32) (a b : Nat) (hb : b < 2 ^ 31) (ha : a < 2 ^ 31) : (x < nI a ∨ nI b < x) ∨ ∃ j, a ≤ j ∧ j ≤ b ∧ x = nI j := by
  by_cases q : x < nI a
  · exact Or.inl (Or.inl q)
  · by_cases q2 : nI b < x
    · exact Or.inl (Or.inr q2)
    · have q3 : ¬ x < 0 := by
        intro q3
        apply q
        rw [fa_lt] at q3 ⊢
        rw [nI_toInt ha]
        have : (0 : Int32).toInt = 0 := rfl
        omega
      obtain ⟨j, hj, rfl⟩ := nI_of q3
      refine Or.inr ⟨j, ?_, ?_, rfl⟩
      · rcases Nat.lt_or_ge j a with q4 | q4
        · exact absurd (nI_lt q4 ha) q
        · exact q4
      · rcases Nat.lt_or_ge b j with q4 | q4
        · exact absurd (nI_lt q4 hj) q2
        · exact q4
theorem r_rib1 (w : zRel c h pp P L) {j : Nat} (hj : j < pR P) : s_X11_isRib (nI j) h = some (nI 1) := k_rib1 w.2.1.1 w.2.2.2.2.1.1 hj
theorem r_rib0 (w : zRel c h pp P L) {x : Int32} (hx : x < nI 0 ∨ nI (pR P) ≤ x) : s_X11_isRib x h = some (nI 0) := k_rib0 w.2.1.1 w.2.2.2.2.1.1 hx
theorem r_ver1 (w : zRel c h pp P L) {j : Nat} (hj : j < pV P) : s_X11_isVerse (nI j) h = some (nI 1) := by
  have hV := w.2.1.2.1
  rw [s_X11_isVerse, w.2.2.2.2.1.2.1, show nI (pV P) - 1 = nI (pV P - 1) from zq_sub (b := 1) (by omega), show (0 : Int64) = (nI 0).toInt64 from rfl, k_in1 (by omega) (by omega) (by omega)]
  rfl
theorem r_ver0 (w : zRel c h pp P L) {x : Int32} (hx : x < nI 0 ∨ nI (pV P) ≤ x) : s_X11_isVerse x h = some (nI 0) := by
  have hV := w.2.1.2.1
  rw [s_X11_isVerse, w.2.2.2.2.1.2.1, show (0 : Int64) = (nI 0).toInt64 from rfl, k_isIn]
  have e : (if x < nI 0 then 0 else if nI (pV P) - 1 < x then 0 else 1) = 0 := by
    rcases hx with q | q
    · rw [if_pos q]
    · by_cases q2 : x < nI 0
      · rw [if_pos q2]
      · rw [if_neg q2, if_pos]
        rcases Nat.eq_zero_or_pos (pV P) with q3 | q3
        · rw [q3]
          have : ¬ x < 0 := q2
          rw [fa_lt] at this ⊢
          have e1 : (nI 0 - 1).toInt = -1 := rfl
          have e2 : (0 : Int32).toInt = 0 := rfl
          omega
        · have e : nI (pV P) - 1 = nI (pV P - 1) := zq_sub (a := pV P) (b := 1) (by omega)
          rw [e]
          rw [fa_le] at q
          rw [fa_lt]
          rw [nI_toInt (by omega)] at q ⊢
          omega
  rw [e]
  rfl
theorem r_thr (w : zRel c h pp P L) {v : Nat} (hv : v < pV P) : s_X11_throwNow (nI v) h = some (nI (pT P v &&& qAl (lS L) (pR P))) := by
  obtain ⟨w0, hP, hL, wC, wM, cC, cM, -⟩ := id w
  have hV := hP.2.1
  rw [s_X11_throwNow, zq_ix (by omega) (by omega), wM.2.2.2.1 v hv, k_allM hP.1 wM.1, ob_e, r_gnM w, ob_e]
  show some ((nI (pT P v) &&& nI (2 ^ pR P - 1)) &&& (nI (qGo (lS L) (pR P)) ^^^ nM)) = _
  rw [fa_and, zq_nand]
  congr 2
  rw [← qAl_x]
  apply Nat.eq_of_testBit_eq
  intro i
  simp only [Nat.testBit_xor, Nat.testBit_and]
  cases (pT P v).testBit i <;> cases (2 ^ pR P - 1).testBit i <;> cases (qGo (lS L) (pR P)).testBit i <;> rfl
theorem r_turns (w : zRel c h pp P L) {v o : Nat} (hv : v < pV P) (ho : o < pV P) : s_X11_turns (nI v) (nI o) h = some (nI (qPc ((pT P v ^^^ pT P o) &&& qAl (lS L) (pR P)))) := by
  rw [s_X11_turns, r_thr w hv, ob_e, r_thr w ho, ob_e, fb_xorI]
  have e : (pT P v &&& qAl (lS L) (pR P)) ^^^ (pT P o &&& qAl (lS L) (pR P)) = (pT P v ^^^ pT P o) &&& qAl (lS L) (pR P) := by
    apply Nat.eq_of_testBit_eq
    intro q
    simp only [Nat.testBit_and, Nat.testBit_xor]
    cases (pT P v).testBit q <;> cases (pT P o).testBit q <;> cases (qAl (lS L) (pR P)).testBit q <;> rfl
  rw [e, k_bo (q_and_lt (r_all w)), ob_e]
theorem k_ribM_L (w : zRel c h pp P L) {b : Nat} (hb : b < 12) (y : Int32) : ∀ k v n, v + k = pV P → k < n → s_X11_rib_L21 n (nI b) y (nI (qVo (pT P) b v)) (nI v) h = s_X11_rib_L21 1 (nI b) y (nI (qVo (pT P) b (pV P))) (nI (pV P)) h := by
  obtain ⟨w0, hP, hL, wC, wM, cC, cM, -⟩ := id w
  have hV := hP.2.1
  intro k
  induction k with
  | zero =>
    intro v n e hn
    obtain ⟨m, rfl, -⟩ := zq_suc hn
    have e2 : v = pV P := by omega
    subst e2
    rw [s_X11_rib_L21, s_X11_rib_L21, wM.2.1, if_pos (nI_le (Nat.le_refl _) (by omega)), if_pos (nI_le (Nat.le_refl _) (by omega))]
  | succ k ih =>
    intro v n e hn
    obtain ⟨m, rfl, hm⟩ := zq_suc hn
    have hT := hP.2.2.2.1 v (by omega)
    have ih1 := ih (v + 1) m (by omega) (by omega)
    rw [s_X11_rib_L21, wM.2.1, if_neg (nI_ge (by omega) (by omega)), zq_ix (by omega) (by omega), wM.2.2.2.1 v (by omega), k_of (by omega) (by omega), ob_e, show nI v + 1 = nI (v + 1) from nI_1 v]
    rw [qVo] at ih1
    cases ht : (pT P v).testBit b with
    | true =>
      rw [ht, if_pos rfl] at ih1
      rw [if_neg (by decide), show (1 : Int32) <<< (nI v &&& 31) = nI (2 ^ v) from zq_shl (by omega), fa_or]
      exact ih1
    | false =>
      rw [ht, if_neg (by decide)] at ih1
      rw [if_pos (show nI false.toNat = 0 from rfl), show nI (qVo (pT P) b v) ||| (0 : Int32) = nI (qVo (pT P) b v ||| 0) from fa_or _ 0]
      exact ih1
theorem c_rib (w : zRel c h pp P L) (x y : Int32) : zCall c h pp P (s_L_rib pp x y 90 1 h) (s_X11_rib x y) := by
  show zCall c h pp P (zHa (s_X10_rib pp x y h)) (s_X11_rib x y)
  obtain ⟨w0, hP, hL, wC, wM, cC, cM, wa, wi, wt, wf, wk⟩ := id w
  have hR := hP.1
  have hV := hP.2.1
  rcases zq_any x (pR P) (by omega) with hx | hx | ⟨j, hj, rfl⟩
  · refine zCall.i1 (v := nI 0) w (by rw [s_X10_rib, n_rib0 w (Or.inl hx), zbx_r]) (zAsk.fail (fun h w => ?_))
    rw [r_rib0 w (Or.inl hx), ob_e, if_pos (show nI 0 = 0 from rfl)]
    rfl
  · refine zCall.i1 (v := nI 0) w (by rw [s_X10_rib, n_rib0 w (Or.inr hx), zbx_r]) (zAsk.fail (fun h w => ?_))
    rw [r_rib0 w (Or.inr hx), ob_e, if_pos (show nI 0 = 0 from rfl)]
    rfl
  · have ex : s_X10_rib pp (nI j) y h = (if y = 0 then (zix (nI j) 12 fun i3 => some (Sum.inl (zI h 20 i3), h)) else if y = 1 then ((s_X3_isJaw pp (nI j) h).bind fun v4 => if v4 = 0 then (some (Sum.inl (0 : Int32), h)) else (some (Sum.inl (1 : Int32), h))) else if y = 2 then ((s_X8_isPast 19 (nI j) (zI h pp 6) h).bind fun v5 => if v5 = 0 then (some (Sum.inl (0 : Int32), h)) else (some (Sum.inl (1 : Int32), h))) else if y = 3 then ((s_X7_versesOver pp (nI j) h).bind fun v6 => some (Sum.inl v6, h)) else (some (Sum.inr 1, zth h))) := by
      rw [s_X10_rib, n_rib1 w hj, zbx_l]
    have gy : ∀ h, zRel c h pp P L → ∀ y, s_X11_rib_L21 zfu (nI j) y (0 : Int32) (0 : Int32) h = s_X11_rib_L21 1 (nI j) y (nI (qVo (pT P) j (pV P))) (nI (pV P)) h := fun h w y => k_ribM_L w (by omega) y (pV P) 0 zfu (by omega) (zq_fu (by omega))
    rcases zq_any y 4 (by omega) with hy | hy | ⟨i, hi, rfl⟩
    · refine zCall.i1 (v := nI 0) w (by rw [ex, if_neg (show ¬ y = 0 from zq_out (n := 4) (k := 0) (Or.inl hy) (by omega) (by omega)), if_neg (show ¬ y = 1 from zq_out (n := 4) (k := 1) (Or.inl hy) (by omega) (by omega)), if_neg (show ¬ y = 2 from zq_out (n := 4) (k := 2) (Or.inl hy) (by omega) (by omega)), if_neg (show ¬ y = 3 from zq_out (n := 4) (k := 3) (Or.inl hy) (by omega) (by omega))]) (zAsk.fail (fun h w => ?_))
      rw [r_rib1 w hj, ob_e, if_neg (by decide), show (0 : Int64) = (nI 0).toInt64 from rfl, show (3 : Int64) = (nI 3).toInt64 from rfl, k_in0 (Or.inl hy), ob_e, if_neg (by decide)]
      rfl
    · refine zCall.i1 (v := nI 0) w (by rw [ex, if_neg (show ¬ y = 0 from zq_out (n := 4) (k := 0) (Or.inr hy) (by omega) (by omega)), if_neg (show ¬ y = 1 from zq_out (n := 4) (k := 1) (Or.inr hy) (by omega) (by omega)), if_neg (show ¬ y = 2 from zq_out (n := 4) (k := 2) (Or.inr hy) (by omega) (by omega)), if_neg (show ¬ y = 3 from zq_out (n := 4) (k := 3) (Or.inr hy) (by omega) (by omega))]) (zAsk.fail (fun h w => ?_))
      rw [r_rib1 w hj, ob_e, if_neg (by decide), show (0 : Int64) = (nI 0).toInt64 from rfl, show (3 : Int64) = (nI 3).toInt64 from rfl, k_in0 (Or.inr (zq_lt4 hy)), ob_e, if_neg (by decide)]
      rfl
    · have go : ∀ h, zRel c h pp P L → ∀ v, s_X11_rib_L21 1 (nI j) (nI i) (nI (qVo (pT P) j (pV P))) (nI (pV P)) h = some (v, h) → (s_X11_isRib (nI j) h).bind (fun v2 => if v2 = 0 then (s_X11_rib_J13 h) else ((s_X11_isIn (nI i).toInt64 (0 : Int64) (3 : Int64) h).bind fun v3 => if ¬ v3 = 0 then (s_X11_rib_L21 zfu (nI j) (nI i) (0 : Int32) (0 : Int32) h) else (s_X11_rib_J13 h))) = some (v, h) := by
        intro h w v e
        rw [r_rib1 w hj, ob_e, if_neg (by decide), show (0 : Int64) = (nI 0).toInt64 from rfl, show (3 : Int64) = (nI 3).toInt64 from rfl, k_in1 (by omega) (by omega) (by omega), ob_e, if_pos (by decide), gy h w]
        exact e
      have e : i = 0 ∨ i = 1 ∨ i = 2 ∨ i = 3 := by omega
      rcases e with e | e | e | e <;> subst e
      · refine zCall.i (v := nI (lS L j)) w (by rw [ex, if_pos (show nI 0 = 0 from rfl), zq_ix (by omega) (by omega), cC.1.1 j hj]) (zfr.rf _ h) (zAsk.val (fun h w => go h w _ ?_))
        obtain ⟨w0, hP, hL, wC, wM, cC, cM, -⟩ := id w
        rw [s_X11_rib_L21, wM.2.1, if_pos (nI_le (Nat.le_refl _) (by omega)), if_neg (fun n => n rfl), zq_ix (by omega) (by omega), cM.1.1 j hj]
      · refine zCall.i (v := nI ((pJ P).testBit j).toNat) w (by rw [ex, if_neg (by decide), if_pos (show nI 1 = 1 from rfl), k_jaw wC.2.1 hP.2.2.1 (by omega), ob_e]; cases (pJ P).testBit j <;> rfl) (zfr.rf _ h) (zAsk.val (fun h w => go h w _ ?_))
        obtain ⟨w0, hP, hL, wC, wM, cC, cM, -⟩ := id w
        rw [s_X11_rib_L21, wM.2.1, if_pos (nI_le (Nat.le_refl _) (by omega)), if_pos (by decide), if_neg (fun n => n rfl), zq_ix (by omega) (by omega), wM.2.2.1 j hj]
      · have hp : qPa (pR P) (lS L) j = 0 ∨ qPa (pR P) (lS L) j = 1 := by
          unfold qPa
          split
          · exact Or.inr rfl
          · split
            · exact Or.inl rfl
            · exact Or.inr rfl
        refine zCall.i (v := nI (qPa (pR P) (lS L) j)) w (by rw [ex, if_neg (by decide), if_neg (by decide), if_pos (show nI 2 = 2 from rfl), wC.1, k_past hR cC.1 hL.1.1 hj, ob_e]; rcases hp with e | e <;> rw [e] <;> rfl) (zfr.rf _ h) (zAsk.val (fun h w => go h w _ ?_))
        obtain ⟨w0, hP, hL, wC, wM, cC, cM, -⟩ := id w
        rw [s_X11_rib_L21, wM.2.1, if_pos (nI_le (Nat.le_refl _) (by omega)), if_pos (by decide), if_pos (by decide), if_neg (fun n => n rfl), k_pastM hR wM.1 cM.1 hL.1.1 hj, ob_e]
        rcases hp with e | e <;> rw [e] <;> rfl
      · refine zCall.i (v := nI (qVo (pT P) j (pV P))) w (by rw [ex, if_neg (by decide), if_neg (by decide), if_neg (by decide), if_pos (show nI 3 = 3 from rfl), k_over hV wC.2.2.1 wC.2.2.2.1 hP.2.2.2.1 (by omega), ob_e]) (zfr.rf _ h) (zAsk.val (fun h w => go h w _ ?_))
        obtain ⟨w0, hP, hL, wC, wM, cC, cM, -⟩ := id w
        rw [s_X11_rib_L21, wM.2.1, if_pos (nI_le (Nat.le_refl _) (by omega)), if_pos (by decide), if_pos (by decide), if_pos (by decide)]
theorem c_sail (w : zRel c h pp P L) (x y : Int32) : zCall c h pp P (s_L_sail pp x y 90 1 h) (s_X11_sail x y) := by
  show zCall c h pp P (zHa (s_X10_sail pp x y h)) (s_X11_sail x y)
  obtain ⟨w0, hP, hL, wC, wM, cC, cM, wa, wi, wt, wf, wk⟩ := id w
  have hk := hL.1.1.2.2.2.2.2
  have k8 : zI h 19 8 = nI (lS L 37) := cC.1.2.2.2.2.2.2.2.2.1
  have bad : (x < nI 0 ∨ nI (lS L 37) ≤ x) → zCall c h pp P (zHa (s_X10_sail pp x y h)) (s_X11_sail x y) := by
    intro hx
    refine zCall.i1 (v := nI 0) w ?_ (zAsk.fail (fun h w => ?_))
    · rw [s_X10_sail, k8]
      by_cases q : x < 0
      · rw [if_pos q]
      · rw [if_neg q, if_neg]
        intro q2
        rcases hx with q3 | q3
        · exact q q3
        · rw [fa_lt] at q2
          rw [fa_le] at q3
          omega
    · obtain ⟨w0, hP, hL, wC, wM, cC, cM, -⟩ := id w
      rw [cM.1.2.2.2.2.2.2.2.2.1, show (0 : Int64) = (nI 0).toInt64 from rfl, k_isIn]
      have e : (if x < nI 0 then 0 else if nI (lS L 37) - 1 < x then 0 else 1) = 0 := by
        rcases hx with q | q
        · rw [if_pos q]
        · by_cases q2 : x < nI 0
          · rw [if_pos q2]
          · rw [if_neg q2, if_pos]
            rcases Nat.eq_zero_or_pos (lS L 37) with q3 | q3
            · rw [q3]
              have : ¬ x < 0 := q2
              rw [fa_lt] at this ⊢
              have e1 : (nI 0 - 1).toInt = -1 := rfl
              have e2 : (0 : Int32).toInt = 0 := rfl
              omega
            · have e : nI (lS L 37) - 1 = nI (lS L 37 - 1) := zq_sub (a := lS L 37) (b := 1) (by omega)
              rw [e]
              rw [fa_le] at q
              rw [fa_lt]
              rw [nI_toInt (by omega)] at q ⊢
              omega
      rw [e, ob_e, if_pos (show nI 0 = 0 from rfl)]
      rfl
  rcases zq_any x (lS L 37) (by omega) with hx | hx | ⟨j, hj, rfl⟩
  · exact bad (Or.inl hx)
  · exact bad (Or.inr hx)
  · have ex : s_X10_sail pp (nI j) y h = zbx (s_X10_needWhat pp y (2 : Int32) h) (fun _ h2 => if ¬ y = 0 then (zix (nI j) 9 fun i3 => some (Sum.inl (zI h2 24 i3), h2)) else (zix (nI j) 9 fun i4 => some (Sum.inl (zI h2 23 i4), h2))) (fun x h1 => some (Sum.inr x, h1)) := by
      rw [s_X10_sail, k8, if_neg (nI_pos (by omega)), if_pos (nI_lt hj (by omega))]
    have gx : ∀ h, zRel c h pp P L → s_X11_isIn (nI j).toInt64 (0 : Int64) (zI h 52 34 - 1).toInt64 h = some (nI 1) := by
      intro h w
      obtain ⟨w0, hP, hL, wC, wM, cC, cM, -⟩ := id w
      rw [cM.1.2.2.2.2.2.2.2.2.1, show nI (lS L 37) - 1 = nI (lS L 37 - 1) from zq_sub (b := 1) (by omega)]
      exact k_in1 (a := 0) (by omega) (by omega) (by omega) h
    have badw : (y < nI 0 ∨ nI 2 ≤ y) → zCall c h pp P (zHa (s_X10_sail pp (nI j) y h)) (s_X11_sail (nI j) y) := by
      intro hy
      refine zCall.i1 (v := nI 0) w (by rw [ex, zq_2, n_wha0 hy, zbx_r]) (zAsk.fail (fun h w => ?_))
      rw [gx h w, ob_e, if_neg (by decide), show (0 : Int64) = (nI 0).toInt64 from rfl, show (1 : Int64) = (nI 1).toInt64 from rfl, k_in0 (hy.imp id zq_lt2), ob_e, if_neg (by decide)]
      rfl
    rcases zq_any y 2 (by omega) with hy | hy | ⟨i, hi, rfl⟩
    · exact badw (Or.inl hy)
    · exact badw (Or.inr hy)
    · have e : i = 0 ∨ i = 1 := by omega
      rcases e with e | e <;> subst e
      · refine zCall.i (v := nI (lS L (12 + j))) w (by rw [ex, zq_2, n_wha1 (by omega) (by omega), zbx_l, if_neg (fun n => n rfl), zq_ix (by omega) (by omega), (cC.1.2.2.2.2.2.2.2.2.2 j hj).1]) (zfr.rf _ h) (zAsk.val (fun h w => ?_))
        obtain ⟨w0, hP, hL, wC, wM, cC, cM, -⟩ := id w
        rw [gx h w, ob_e, if_neg (by decide), show s_X11_isIn (nI 0).toInt64 (0 : Int64) (1 : Int64) h = some (nI 1) from k_in1 (a := 0) (b := 1) (by omega) (by omega) (by omega) h, ob_e, if_pos (by decide), if_neg (fun n => n rfl), zq_ix (by omega) (by omega), (cM.1.2.2.2.2.2.2.2.2.2 j hj).1]
      · refine zCall.i (v := nI (lS L (21 + j))) w (by rw [ex, zq_2, n_wha1 (by omega) (by omega), zbx_l, if_pos (by decide), zq_ix (by omega) (by omega), (cC.1.2.2.2.2.2.2.2.2.2 j hj).2]) (zfr.rf _ h) (zAsk.val (fun h w => ?_))
        obtain ⟨w0, hP, hL, wC, wM, cC, cM, -⟩ := id w
        rw [gx h w, ob_e, if_neg (by decide), show s_X11_isIn (nI 1).toInt64 (0 : Int64) (1 : Int64) h = some (nI 1) from k_in1 (a := 0) (b := 1) (by omega) (by omega) (by omega) h, ob_e, if_pos (by decide), if_pos (by decide), zq_ix (by omega) (by omega), (cM.1.2.2.2.2.2.2.2.2.2 j hj).2]
theorem c_skill (w : zRel c h pp P L) (x : Int32) : zCall c h pp P (s_L_skill pp x 90 1 h) (s_X11_skill x) := by
  show zCall c h pp P (zHa (s_X10_skill pp x h)) (s_X11_skill x)
  obtain ⟨w0, hP, hL, wC, wM, cC, cM, wa, wi, wt, wf, wk⟩ := id w
  have bad : (x < nI 0 ∨ nI 2 ≤ x) → zCall c h pp P (zHa (s_X10_skill pp x h)) (s_X11_skill x) := by
    intro hx
    refine zCall.i1 (v := nI 0) w (by rw [s_X10_skill, n_cla0 hx, zbx_r]) (zAsk.fail (fun h w => ?_))
    rw [show (0 : Int64) = (nI 0).toInt64 from rfl, show (1 : Int64) = (nI 1).toInt64 from rfl, k_in0 (hx.imp id zq_lt2), ob_e, if_pos (show nI 0 = 0 from rfl)]
    rfl
  rcases zq_any x 2 (by omega) with hx | hx | ⟨j, hj, rfl⟩
  · exact bad (Or.inl hx)
  · exact bad (Or.inr hx)
  · have v3 : zI h 21 j = nI (lS L (30 + j)) := by
      have e : j = 0 ∨ j = 1 := by omega
      rcases e with e | e <;> subst e
      · exact cC.1.2.1
      · exact cC.1.2.2.1
    refine zCall.i (v := nI (lS L (30 + j))) w (by rw [s_X10_skill, n_cla1 hj, zbx_l, zq_ix hj (by omega), v3]) (zfr.rf _ h) (zAsk.val (fun h w => ?_))
    obtain ⟨w0, hP, hL, wC, wM, cC, cM, -⟩ := id w
    rw [show s_X11_isIn (nI j).toInt64 (0 : Int64) (1 : Int64) h = some (nI 1) from k_in1 (a := 0) (b := 1) (by omega) (by omega) (by omega) h, ob_e, if_neg (by decide), zq_ix hj (by omega), k_skM cM.1 hj]
theorem c_between (w : zRel c h pp P L) (x y : Int32) : zCall c h pp P (s_L_between pp x y 90 1 h) (s_X11_between x y) := by
  show zCall c h pp P (zHa (s_X10_between pp x y h)) (s_X11_between x y)
  obtain ⟨w0, hP, hL, wC, wM, cC, cM, wa, wi, wt, wf, wk⟩ := id w
  have ha := r_all w
  have hV := hP.2.1
  have bad : (x < nI 0 ∨ nI (pV P) ≤ x) → zCall c h pp P (zHa (s_X10_between pp x y h)) (s_X11_between x y) := by
    intro hx
    refine zCall.i1 (v := nI 0) w (by rw [s_X10_between, n_ver0 w hx, zbx_r]) (zAsk.fail (fun h w => ?_))
    rw [r_ver0 w hx, ob_e, if_pos (show nI 0 = 0 from rfl)]
    rfl
  rcases zq_any x (pV P) (by omega) with hx | hx | ⟨j, hj, rfl⟩
  · exact bad (Or.inl hx)
  · exact bad (Or.inr hx)
  · have bad2 : (y < nI 0 ∨ nI (pV P) ≤ y) → zCall c h pp P (zHa (s_X10_between pp (nI j) y h)) (s_X11_between (nI j) y) := by
      intro hx
      refine zCall.i1 (v := nI 0) w (by rw [s_X10_between, n_ver1 w hj, zbx_l, n_ver0 w hx, zbx_r]) (zAsk.fail (fun h w => ?_))
      rw [r_ver1 w hj, ob_e, if_neg (by decide), r_ver0 w hx, ob_e, if_pos (show nI 0 = 0 from rfl)]
      rfl
    rcases zq_any y (pV P) (by omega) with hx | hx | ⟨i, hi, rfl⟩
    · exact bad2 (Or.inl hx)
    · exact bad2 (Or.inr hx)
    · refine zCall.i (v := nI (qPc ((pT P j ^^^ pT P i) &&& qAl (lS L) (pR P)))) w (by rw [s_X10_between, n_ver1 w hj, zbx_l, n_ver1 w hi, zbx_l, r_al w, ob_e, k_turns hV wC.2.2.2.1 ha hj hi, ob_e]) (zfr.rf _ h) (zAsk.val (fun h w => ?_))
      rw [r_ver1 w hj, ob_e, if_neg (by decide), r_ver1 w hi, ob_e, if_neg (by decide), r_turns w hj hi, ob_e]
theorem c_both (w : zRel c h pp P L) (x y : Int32) : zCall c h pp P (s_L_both pp x y 90 1 h) (s_X11_both x y) := by
  show zCall c h pp P (zHa (s_X10_both pp x y h)) (s_X11_both x y)
  obtain ⟨w0, hP, hL, wC, wM, cC, cM, wa, wi, wt, wf, wk⟩ := id w
  have ha := r_all w
  have hV := hP.2.1
  have bad : (x < nI 0 ∨ nI (pV P) ≤ x) → zCall c h pp P (zHa (s_X10_both pp x y h)) (s_X11_both x y) := by
    intro hx
    refine zCall.i1 (v := nI 0) w (by rw [s_X10_both, n_ver0 w hx, zbx_r]) (zAsk.fail (fun h w => ?_))
    rw [r_ver0 w hx, ob_e, if_pos (show nI 0 = 0 from rfl)]
    rfl
  rcases zq_any x (pV P) (by omega) with hx | hx | ⟨j, hj, rfl⟩
  · exact bad (Or.inl hx)
  · exact bad (Or.inr hx)
  · have bad2 : (y < nI 0 ∨ nI (pV P) ≤ y) → zCall c h pp P (zHa (s_X10_both pp (nI j) y h)) (s_X11_both (nI j) y) := by
      intro hx
      refine zCall.i1 (v := nI 0) w (by rw [s_X10_both, n_ver1 w hj, zbx_l, n_ver0 w hx, zbx_r]) (zAsk.fail (fun h w => ?_))
      rw [r_ver1 w hj, ob_e, if_neg (by decide), r_ver0 w hx, ob_e, if_pos (show nI 0 = 0 from rfl)]
      rfl
    rcases zq_any y (pV P) (by omega) with hx | hx | ⟨i, hi, rfl⟩
    · exact bad2 (Or.inl hx)
    · exact bad2 (Or.inr hx)
    · refine zCall.i (v := nI (pT P j &&& pT P i &&& qAl (lS L) (pR P))) w (by rw [s_X10_both, n_ver1 w hj, zbx_l, n_ver1 w hi, zbx_l, zq_ix (by omega) (by omega), zq_ix (by omega) (by omega), r_al w, ob_e, wC.2.2.2.1 j hj, wC.2.2.2.1 i hi, fa_and, fa_and]) (zfr.rf _ h) (zAsk.val (fun h w => ?_))
      rw [r_ver1 w hj, ob_e, if_neg (by decide), r_ver1 w hi, ob_e, if_neg (by decide), r_thr w hj, ob_e, r_thr w hi, ob_e, fa_and]
      congr 3
      apply Nat.eq_of_testBit_eq
      intro q
      simp only [Nat.testBit_and]
      cases (pT P j).testBit q <;> cases (pT P i).testBit q <;> cases (qAl (lS L) (pR P)).testBit q <;> rfl
theorem c_fault (w : zRel c h pp P L) : zCal2 c h pp P ((s_X10_fault pp h).bind fun v => some (v, h)) s_X11_fault := by
  obtain ⟨w0, hP, hL, wC, wM, cC, cM, wa, wi, wt, wf, wk⟩ := id w
  refine zCal2.one (v := zI h 0 2) w rfl (zfr.rf _ h) ⟨zwI h 52 4 0, ?_, zfr.wI 52 4 _ (by unfold zScr; omega)⟩
  show some (zI h 52 22, _) = _
  rw [wf]
end Q2
