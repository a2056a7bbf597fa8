/-! ===== verse, span, missed ===== -/
theorem qFl_le (S : Nat → Nat) (t : Nat) : ∀ r, (qFl S t r).1 ≤ r ∧ (qFl S t r).2.1 ≤ r := by
  intro r
  induction r with
  | zero => exact ⟨Nat.le_refl 0, Nat.le_refl 0⟩
  | succ r ih =>
    rw [qFl]
    split
    · omega
    · dsimp only
      have e : (if nI (t.testBit r).toNat = (qFl S t r).2.2 then (qFl S t r).2.1 + 1 else 1) ≤ r + 1 := by split <;> omega
      generalize (if nI (t.testBit r).toNat = (qFl S t r).2.2 then (qFl S t r).2.1 + 1 else 1) = x at e ⊢
      constructor
      · split <;> omega
      · exact e
theorem k_max2 {a b : Nat} (ha : a < 2 ^ 31) (hb : b < 2 ^ 31) (h : zH) : s_J9_max_7cf53 (nI a) (nI b) h = some (nI (if a < b then b else a)) := by
  rw [s_J9_max_7cf53]
  rcases Nat.lt_or_ge a b with q | q
  · rw [if_pos (nI_lt q hb), if_pos q]
  · rw [if_neg (nI_nlt q ha), if_neg (by omega)]
theorem k_min2 {a b : Nat} (ha : a < 2 ^ 31) (hb : b < 2 ^ 31) (h : zH) : s_J9_min_7cf53 (nI a) (nI b) h = some (nI (if b < a then b else a)) := by
  rw [s_J9_min_7cf53]
  rcases Nat.lt_or_ge b a with q | q
  · rw [if_pos (nI_lt q ha), if_pos q]
  · rw [if_neg (nI_nlt q hb), if_neg (by omega)]
/-- bits of the ribs that are left -/
theorem q_albit {S : Nat → Nat} {R r : Nat} (hR : R ≤ 12) (hr : r < R) : (nI (qAl S R) >>> (nI r &&& 31)) &&& (1 : Int32) = nI (if S r = 0 then 0 else 1) := by
  have := zq_bit (a := qAl S R) (r := r) (by have := qAl_l S hR; omega) (by omega)
  refine this.trans ?_
  rw [qAl_tb]
  by_cases q : S r = 0
  · simp [q]
  · simp [q, hr]
section Q3
variable {c pp : Nat} {h : zH} {P : zPl} {L : zLg}
theorem k_fl_L (w : zRel c h pp P L) {v : Nat} (hv : v < pV P) : ∀ k r n, r + k = pR P → k < n → s_X7_longestFloat_L8 pp n (nI (qAl (lS L) (pR P))) (nI v) (nI (qFl (lS L) (pT P v) r).1) (nI (qFl (lS L) (pT P v) r).2.1) (qFl (lS L) (pT P v) r).2.2 (nI r) h = some (nI (qFl (lS L) (pT P v) (pR P)).1) := by
  obtain ⟨w0, hP, hL, wC, wM, cC, cM, -⟩ := id w
  have hR := hP.1
  have hV := hP.2.1
  have hT := hP.2.2.2.1 v hv
  intro k
  induction k with
  | zero =>
    intro r n e hn
    obtain ⟨m, rfl, -⟩ := zq_suc hn
    have e2 : r = pR P := by omega
    rw [s_X7_longestFloat_L8, wC.1, if_pos (nI_le (by omega) (by omega)), e2]
  | succ k ih =>
    intro r n e hn
    obtain ⟨m, rfl, hm⟩ := zq_suc hn
    have ih1 := ih (r + 1) m (by omega) (by omega)
    have hq := qFl_le (lS L) (pT P v) r
    rw [s_X7_longestFloat_L8, wC.1, if_neg (nI_ge (by omega) (by omega)), q_albit hR (by omega), show nI r + 1 = nI (r + 1) from nI_1 r]
    rw [qFl] at ih1
    by_cases q : lS L r = 0
    · rw [if_pos q] at ih1
      rw [if_pos q, if_pos (by decide)]
      exact ih1
    · rw [if_neg q] at ih1
      rw [if_neg q, if_neg (fun n => n rfl), zq_ix (by omega) (by omega), wC.2.2.2.1 v hv]
      have eb : (nI (pT P v) >>> (nI r &&& 31)) &&& (1 : Int32) = nI ((pT P v).testBit r).toNat := zq_bit (by omega) (by omega)
      rw [eb]
      dsimp only at ih1
      by_cases q2 : nI ((pT P v).testBit r).toNat = (qFl (lS L) (pT P v) r).2.2
      · rw [if_pos q2] at ih1
        rw [if_neg (fun n => n q2), s_X7_longestFloat_J36, show nI (qFl (lS L) (pT P v) r).2.1 + 1 = nI ((qFl (lS L) (pT P v) r).2.1 + 1) from nI_1 _, k_max2 (by omega) (by omega), ob_e, show nI r + 1 = nI (r + 1) from nI_1 r]
        exact ih1
      · rw [if_neg q2] at ih1
        rw [if_pos q2, s_X7_longestFloat_J36, zq_1, k_max2 (by omega) (by omega), ob_e, nI_add]
        exact ih1
theorem k_flM_L (w : zRel c h pp P L) {v : Nat} (hv : v < pV P) : ∀ k r n, r + k = pR P → k < n → s_X11_floatOf_L8 n (nI v) (nI (qFl (lS L) (pT P v) r).1) (nI (qFl (lS L) (pT P v) r).2.1) (qFl (lS L) (pT P v) r).2.2 (nI r) h = some (nI (qFl (lS L) (pT P v) (pR P)).1) := by
  obtain ⟨w0, hP, hL, wC, wM, cC, cM, -⟩ := id w
  have hR := hP.1
  have hV := hP.2.1
  have hT := hP.2.2.2.1 v hv
  intro k
  induction k with
  | zero =>
    intro r n e hn
    obtain ⟨m, rfl, -⟩ := zq_suc hn
    have e2 : r = pR P := by omega
    rw [s_X11_floatOf_L8, wM.1, if_pos (nI_le (by omega) (by omega)), e2]
  | succ k ih =>
    intro r n e hn
    obtain ⟨m, rfl, hm⟩ := zq_suc hn
    have ih1 := ih (r + 1) m (by omega) (by omega)
    have hq := qFl_le (lS L) (pT P v) r
    rw [s_X11_floatOf_L8, wM.1, if_neg (nI_ge (by omega) (by omega)), k_goneAt hR cM.1 hL.1.1 (by omega), ob_e, show nI r + 1 = nI (r + 1) from nI_1 r]
    rw [qFl] at ih1
    by_cases q : lS L r = 0
    · rw [if_pos q] at ih1
      rw [if_pos q, if_neg (by decide)]
      exact ih1
    · rw [if_neg q] at ih1
      rw [if_neg q, if_pos (show nI 0 = 0 from rfl), zq_ix (by omega) (by omega), wM.2.2.2.1 v hv]
      have eb : (nI (pT P v) >>> (nI r &&& 31)) &&& (1 : Int32) = nI ((pT P v).testBit r).toNat := zq_bit (by omega) (by omega)
      rw [eb]
      dsimp only at ih1
      by_cases q2 : nI ((pT P v).testBit r).toNat = (qFl (lS L) (pT P v) r).2.2
      · rw [if_pos q2] at ih1
        rw [if_neg (fun n => n q2), s_X11_floatOf_J36, show nI (qFl (lS L) (pT P v) r).2.1 + 1 = nI ((qFl (lS L) (pT P v) r).2.1 + 1) from nI_1 _, k_max2 (by omega) (by omega), ob_e, show nI r + 1 = nI (r + 1) from nI_1 r]
        exact ih1
      · rw [if_neg q2] at ih1
        rw [if_pos q2, s_X11_floatOf_J36, zq_1, k_max2 (by omega) (by omega), ob_e, nI_add]
        exact ih1
theorem c_verse (w : zRel c h pp P L) (x y : Int32) : zCall c h pp P (s_L_verse pp x y 90 1 h) (s_X11_verse x y) := by
  show zCall c h pp P (zHa (s_X10_verse pp x y h)) (s_X11_verse x y)
  obtain ⟨w0, hP, hL, wC, wM, cC, cM, wa, wi, wt, wf, wk⟩ := id w
  have hR := hP.1
  have hV := hP.2.1
  have ha := r_all w
  have bad : (x < nI 0 ∨ nI (pV P) ≤ x) → zCall c h pp P (zHa (s_X10_verse pp x y h)) (s_X11_verse x y) := by
    intro hx
    refine zCall.i1 (v := nI 0) w (by rw [s_X10_verse, n_ver0 w hx, zbx_r]) (zAsk.fail (fun h w => ?_))
    rw [r_ver0 w hx, ob_e, if_pos (show nI 0 = 0 from rfl)]
    rfl
  rcases zq_any x (pV P) (by omega) with hx | hx | ⟨j, hj, rfl⟩
  · exact bad (Or.inl hx)
  · exact bad (Or.inr hx)
  · have ex : s_X10_verse pp (nI j) y h = (if y = 0 then (zix (nI j) 8 fun i3 => some (Sum.inl (zI h (pp + 2) i3), h)) else if y = 1 then (zix (nI j) 8 fun i4 => (s_X10_aliveNow pp h).bind fun v5 => some (Sum.inl ((zI h (pp + 2) i4) &&& v5), h)) else if y = 2 then ((s_X10_aliveNow pp h).bind fun v6 => (s_X7_longestFloat pp v6 (nI j) h).bind fun v7 => some (Sum.inl v7, h)) else if y = 3 then ((s_X10_aliveNow pp h).bind fun v8 => (s_X7_alike pp v8 (nI j) h).bind fun v9 => some (Sum.inl v9, h)) else (some (Sum.inr 1, zth h))) := by
      rw [s_X10_verse, n_ver1 w hj, zbx_l]
    have bady : (y < nI 0 ∨ nI 4 ≤ y) → zCall c h pp P (zHa (s_X10_verse pp (nI j) y h)) (s_X11_verse (nI j) y) := by
      intro hy
      refine zCall.i1 (v := nI 0) w (by rw [ex, if_neg (show ¬ y = 0 from zq_out (n := 4) (k := 0) hy (by omega) (by omega)), if_neg (show ¬ y = 1 from zq_out (n := 4) (k := 1) hy (by omega) (by omega)), if_neg (show ¬ y = 2 from zq_out (n := 4) (k := 2) hy (by omega) (by omega)), if_neg (show ¬ y = 3 from zq_out (n := 4) (k := 3) hy (by omega) (by omega))]) (zAsk.fail (fun h w => ?_))
      rw [r_ver1 w hj, ob_e, if_neg (by decide), show (0 : Int64) = (nI 0).toInt64 from rfl, show (3 : Int64) = (nI 3).toInt64 from rfl, k_in0 (hy.imp id zq_lt4), ob_e, if_neg (by decide)]
      rfl
    rcases zq_any y 4 (by omega) with hy | hy | ⟨i, hi, rfl⟩
    · exact bady (Or.inl hy)
    · exact bady (Or.inr hy)
    · have gi : ∀ h, s_X11_isIn (nI i).toInt64 (0 : Int64) (3 : Int64) h = some (nI 1) := fun h => k_in1 (a := 0) (b := 3) (by omega) (by omega) (by omega) h
      have e : i = 0 ∨ i = 1 ∨ i = 2 ∨ i = 3 := by omega
      rcases e with e | e | e | e <;> subst e
      · refine zCall.i (v := nI (pT P j)) w (by rw [ex, if_pos (show nI 0 = 0 from rfl), zq_ix (by omega) (by omega), wC.2.2.2.1 j hj]) (zfr.rf _ h) (zAsk.val (fun h w => ?_))
        rw [r_ver1 w hj, ob_e, if_neg (by decide), gi, ob_e, if_pos (by decide), if_neg (fun n => n rfl), zq_ix (by omega) (by omega), w.2.2.2.2.1.2.2.2.1 j hj]
      · refine zCall.i (v := nI (pT P j &&& qAl (lS L) (pR P))) w (by rw [ex, if_neg (by decide), if_pos (show nI 1 = 1 from rfl), zq_ix (by omega) (by omega), wC.2.2.2.1 j hj, r_al w, ob_e, fa_and]) (zfr.rf _ h) (zAsk.val (fun h w => ?_))
        rw [r_ver1 w hj, ob_e, if_neg (by decide), gi, ob_e, if_pos (by decide), if_pos (by decide), if_neg (fun n => n rfl), r_thr w hj, ob_e]
      · refine zCall.i (v := nI (qFl (lS L) (pT P j) (pR P)).1) w (by rw [ex, if_neg (by decide), if_neg (by decide), if_pos (show nI 2 = 2 from rfl), r_al w, ob_e, s_X7_longestFloat, show s_X7_longestFloat_L8 pp zfu (nI (qAl (lS L) (pR P))) (nI j) 0 0 (-1) 0 h = _ from k_fl_L w hj (pR P) 0 zfu (by omega) (zq_fu (by omega)), ob_e]) (zfr.rf _ h) (zAsk.val (fun h w => ?_))
        rw [r_ver1 w hj, ob_e, if_neg (by decide), gi, ob_e, if_pos (by decide), if_pos (by decide), if_pos (by decide), if_neg (fun n => n rfl), s_X11_floatOf, show s_X11_floatOf_L8 zfu (nI j) 0 0 (-1) 0 h = _ from k_flM_L w hj (pR P) 0 zfu (by omega) (zq_fu (by omega)), ob_e]
      · refine zCall.i (v := nI (qAk (pT P) (qAl (lS L) (pR P)) j (pV P))) w (by rw [ex, if_neg (by decide), if_neg (by decide), if_neg (by decide), if_pos (show nI 3 = 3 from rfl), r_al w, ob_e, r_ak w ha hj, ob_e]) (zfr.rf _ h) (zAsk.val (fun h w => ?_))
        rw [r_ver1 w hj, ob_e, if_neg (by decide), gi, ob_e, if_pos (by decide), if_pos (by decide), if_pos (by decide), if_pos (by decide), r_th w, ob_e, r_akM w ha hj, ob_e]
/-- the longest row: how long, the first of it, how long the last one is -/
def qSp (S : Nat → Nat) : Nat → Nat × Int32 × Nat
  | 0 => (0, nM, 0)
  | r + 1 => if (qSp S r).1 < (if S r = 0 then 0 else (qSp S r).2.2 + 1) then ((if S r = 0 then 0 else (qSp S r).2.2 + 1), nI r - nI (if S r = 0 then 0 else (qSp S r).2.2 + 1) + 1, (if S r = 0 then 0 else (qSp S r).2.2 + 1)) else ((qSp S r).1, (qSp S r).2.1, (if S r = 0 then 0 else (qSp S r).2.2 + 1))
theorem qSp_le (S : Nat → Nat) : ∀ r, (qSp S r).1 ≤ r ∧ (qSp S r).2.2 ≤ r := by
  intro r
  induction r with
  | zero => exact ⟨Nat.le_refl 0, Nat.le_refl 0⟩
  | succ r ih =>
    have e : (if S r = 0 then 0 else (qSp S r).2.2 + 1) ≤ r + 1 := by split <;> omega
    rw [qSp]
    generalize (if S r = 0 then 0 else (qSp S r).2.2 + 1) = x at e ⊢
    split
    · exact ⟨e, e⟩
    · exact ⟨by show (qSp S r).1 ≤ _; omega, e⟩
theorem k_sp_L (w : zRel c h pp P L) (y : Int32) : ∀ k r n, r + k = pR P → k < n → s_X10_span_L15 pp n y (nI (qAl (lS L) (pR P))) (nI (qSp (lS L) r).1) (qSp (lS L) r).2.1 (nI (qSp (lS L) r).2.2) (nI r) h = some (Sum.inl (if ¬ y = 0 then (qSp (lS L) (pR P)).2.1 else nI (qSp (lS L) (pR P)).1), h) := by
  obtain ⟨w0, hP, hL, wC, wM, cC, cM, -⟩ := id w
  have hR := hP.1
  intro k
  induction k with
  | zero =>
    intro r n e hn
    obtain ⟨m, rfl, -⟩ := zq_suc hn
    have e2 : r = pR P := by omega
    rw [s_X10_span_L15, wC.1, if_pos (nI_le (by omega) (by omega)), e2]
    split <;> rfl
  | succ k ih =>
    intro r n e hn
    obtain ⟨m, rfl, hm⟩ := zq_suc hn
    have ih1 := ih (r + 1) m (by omega) (by omega)
    have hq := qSp_le (lS L) r
    have key : ∀ s : Nat, s = (if lS L r = 0 then 0 else (qSp (lS L) r).2.2 + 1) → s_X10_span_J32 pp (s_X10_span_L15 pp m) y (nI (qAl (lS L) (pR P))) (nI (qSp (lS L) r).1) (qSp (lS L) r).2.1 (nI r) (nI s) h = some (Sum.inl (if ¬ y = 0 then (qSp (lS L) (pR P)).2.1 else nI (qSp (lS L) (pR P)).1), h) := by
      intro s hs
      have hs2 : s ≤ r + 1 := by rw [hs]; split <;> omega
      rw [qSp, ← hs] at ih1
      rw [s_X10_span_J32, show nI r + 1 = nI (r + 1) from nI_1 r]
      rcases Nat.lt_or_ge (qSp (lS L) r).1 s with q | q
      · rw [if_pos q] at ih1
        rw [if_neg (nI_ge q (by omega))]
        exact ih1
      · rw [if_neg (by omega)] at ih1
        rw [if_pos (nI_le q (by omega))]
        exact ih1
    rw [s_X10_span_L15, wC.1, if_neg (nI_ge (by omega) (by omega)), q_albit hR (by omega)]
    by_cases q : lS L r = 0
    · rw [if_pos q, if_pos (by decide)]
      exact key 0 (by rw [if_pos q])
    · rw [if_neg q, if_neg (fun n => n rfl), show nI (qSp (lS L) r).2.2 + 1 = nI ((qSp (lS L) r).2.2 + 1) from nI_1 _]
      exact key _ (by rw [if_neg q])
theorem k_spM_L (w : zRel c h pp P L) (y : Int32) : ∀ k r n, r + k = pR P → k < n → s_X11_span_L21 n y (qSp (lS L) r).2.1 (nI (qSp (lS L) r).1) (nI (qSp (lS L) r).2.2) (nI r) h = some ((if ¬ y = 0 then (qSp (lS L) (pR P)).2.1 else nI (qSp (lS L) (pR P)).1), h) := by
  obtain ⟨w0, hP, hL, wC, wM, cC, cM, -⟩ := id w
  have hR := hP.1
  intro k
  induction k with
  | zero =>
    intro r n e hn
    obtain ⟨m, rfl, -⟩ := zq_suc hn
    have e2 : r = pR P := by omega
    rw [s_X11_span_L21, wM.1, if_pos (nI_le (by omega) (by omega)), e2]
    split <;> rfl
  | succ k ih =>
    intro r n e hn
    obtain ⟨m, rfl, hm⟩ := zq_suc hn
    have ih1 := ih (r + 1) m (by omega) (by omega)
    have hq := qSp_le (lS L) r
    have key : ∀ s : Nat, s = (if lS L r = 0 then 0 else (qSp (lS L) r).2.2 + 1) → s_X11_span_J36 (s_X11_span_L21 m) y (qSp (lS L) r).2.1 (nI (qSp (lS L) r).1) (nI r) (nI s) h = some ((if ¬ y = 0 then (qSp (lS L) (pR P)).2.1 else nI (qSp (lS L) (pR P)).1), h) := by
      intro s hs
      have hs2 : s ≤ r + 1 := by rw [hs]; split <;> omega
      rw [qSp, ← hs] at ih1
      rw [s_X11_span_J36, show nI r + 1 = nI (r + 1) from nI_1 r]
      rcases Nat.lt_or_ge (qSp (lS L) r).1 s with q | q
      · rw [if_pos q] at ih1
        rw [if_pos (nI_lt q (by omega))]
        exact ih1
      · rw [if_neg (by omega)] at ih1
        rw [if_neg (nI_nlt q (by omega))]
        exact ih1
    rw [s_X11_span_L21, wM.1, if_neg (nI_ge (by omega) (by omega)), k_goneAt hR cM.1 hL.1.1 (by omega), ob_e]
    by_cases q : lS L r = 0
    · rw [if_pos q, if_neg (by decide)]
      exact key 0 (by rw [if_pos q])
    · rw [if_neg q, if_pos (show nI 0 = 0 from rfl), show nI (qSp (lS L) r).2.2 + 1 = nI ((qSp (lS L) r).2.2 + 1) from nI_1 _]
      exact key _ (by rw [if_neg q])
theorem c_span (w : zRel c h pp P L) (x : Int32) : zCall c h pp P (s_L_span pp x 90 1 h) (s_X11_span x) := by
  show zCall c h pp P (zHa (s_X10_span pp x h)) (s_X11_span x)
  obtain ⟨w0, hP, hL, wC, wM, cC, cM, wa, wi, wt, wf, wk⟩ := id w
  have hR := hP.1
  have bad : (x < nI 0 ∨ nI 2 ≤ x) → zCall c h pp P (zHa (s_X10_span pp x h)) (s_X11_span x) := by
    intro hx
    refine zCall.i1 (v := nI 0) w (by rw [s_X10_span, zq_2, n_wha0 hx, zbx_r]) (zAsk.fail (fun h w => ?_))
    rw [show (0 : Int64) = (nI 0).toInt64 from rfl, show (1 : Int64) = (nI 1).toInt64 from rfl, k_in0 (hx.imp id zq_lt2), ob_e, if_neg (by decide)]
    rfl
  rcases zq_any x 2 (by omega) with hx | hx | ⟨j, hj, rfl⟩
  · exact bad (Or.inl hx)
  · exact bad (Or.inr hx)
  · refine zCall.i (v := if ¬ nI j = 0 then (qSp (lS L) (pR P)).2.1 else nI (qSp (lS L) (pR P)).1) w ?_ (zfr.rf _ h) (zAsk.val (fun h w => ?_))
    · rw [s_X10_span, zq_2, n_wha1 hj (by omega), zbx_l, r_al w, ob_e]
      exact k_sp_L w (nI j) (pR P) 0 zfu (by omega) (zq_fu (by omega))
    · rw [show s_X11_isIn (nI j).toInt64 (0 : Int64) (1 : Int64) h = some (nI 1) from k_in1 (a := 0) (b := 1) (by omega) (by omega) (by omega) h, ob_e, if_pos (by decide)]
      exact k_spM_L w (nI j) (pR P) 0 zfu (by omega) (zq_fu (by omega))
/-- the rib that is missed most: which, how many kinds are left -/
def qMs (T S : Nat → Nat) (al V i : Nat) : Nat → Int32 × Nat
  | 0 => (nM, i)
  | r + 1 => if S r ≠ 0 ∧ qKd T (al ^^^ 2 ^ r) V V < (qMs T S al V i r).2 then (nI r, qKd T (al ^^^ 2 ^ r) V V) else qMs T S al V i r
theorem qMs_eq (T S : Nat → Nat) (al : Nat) {V : Nat} (hV : V ≤ 8) : ∀ r, (qMs T S al V 9 r).1 = (qMs T S al V 1000 r).1 ∧ ((qMs T S al V 9 r).2 = (qMs T S al V 1000 r).2 ∨ ((qMs T S al V 9 r).2 = 9 ∧ (qMs T S al V 1000 r).2 = 1000)) := by
  intro r
  induction r with
  | zero => exact ⟨rfl, Or.inr ⟨rfl, rfl⟩⟩
  | succ r ih =>
    have hk := qKd_le T (al ^^^ 2 ^ r) V V
    rw [qMs, qMs]
    by_cases q : S r ≠ 0 ∧ qKd T (al ^^^ 2 ^ r) V V < (qMs T S al V 9 r).2
    · have q2 : S r ≠ 0 ∧ qKd T (al ^^^ 2 ^ r) V V < (qMs T S al V 1000 r).2 := ⟨q.1, by omega⟩
      rw [if_pos q, if_pos q2]
      exact ⟨rfl, Or.inl rfl⟩
    · have q2 : ¬ (S r ≠ 0 ∧ qKd T (al ^^^ 2 ^ r) V V < (qMs T S al V 1000 r).2) := fun n => q ⟨n.1, by omega⟩
      rw [if_neg q, if_neg q2]
      exact ih
theorem qMs_le (T S : Nat → Nat) (al : Nat) {V i : Nat} (hV : V ≤ 8) (hi : i ≤ 1000) : ∀ r, (qMs T S al V i r).2 ≤ 1000 := by
  intro r
  induction r with
  | zero => exact hi
  | succ r ih =>
    have hk := qKd_le T (al ^^^ 2 ^ r) V V
    rw [qMs]
    split
    · show qKd T (al ^^^ 2 ^ r) V V ≤ _
      omega
    · exact ih
theorem q_xor12 {a r : Nat} (ha : a < 4096) (hr : r < 12) : a ^^^ 2 ^ r < 4096 := Nat.xor_lt_two_pow (n := 12) ha (Nat.pow_lt_pow_right (by omega) hr)
theorem k_ms_L (w : zRel c h pp P L) : ∀ k r n, r + k = pR P → k < n → s_X7_mostMissed_L6 pp n (nI (qAl (lS L) (pR P))) (qMs (pT P) (lS L) (qAl (lS L) (pR P)) (pV P) 9 r).1 (nI (qMs (pT P) (lS L) (qAl (lS L) (pR P)) (pV P) 9 r).2) (nI r) h = some (qMs (pT P) (lS L) (qAl (lS L) (pR P)) (pV P) 9 (pR P)).1 := by
  obtain ⟨w0, hP, hL, wC, wM, cC, cM, -⟩ := id w
  have hR := hP.1
  have hV := hP.2.1
  have ha := r_all w
  intro k
  induction k with
  | zero =>
    intro r n e hn
    obtain ⟨m, rfl, -⟩ := zq_suc hn
    have e2 : r = pR P := by omega
    rw [s_X7_mostMissed_L6, wC.1, if_pos (nI_le (by omega) (by omega)), e2]
  | succ k ih =>
    intro r n e hn
    obtain ⟨m, rfl, hm⟩ := zq_suc hn
    have ih1 := ih (r + 1) m (by omega) (by omega)
    have hq := qMs_le (pT P) (lS L) (qAl (lS L) (pR P)) (i := 9) hV (by omega) r
    have hk := qKd_le (pT P) (qAl (lS L) (pR P) ^^^ 2 ^ r) (pV P) (pV P)
    rw [s_X7_mostMissed_L6, wC.1, if_neg (nI_ge (by omega) (by omega)), q_albit hR (by omega), show nI r + 1 = nI (r + 1) from nI_1 r]
    rw [qMs] at ih1
    by_cases q : lS L r = 0
    · rw [if_neg (fun n => n.1 q)] at ih1
      rw [if_pos q, if_pos (by decide)]
      exact ih1
    · rw [if_neg q, if_neg (fun n => n rfl), show (1 : Int32) <<< (nI r &&& 31) = nI (2 ^ r) from zq_shl (by omega), fb_xorI, r_kd w (q_xor12 ha (by omega)), ob_e]
      rcases Nat.lt_or_ge (qKd (pT P) (qAl (lS L) (pR P) ^^^ 2 ^ r) (pV P) (pV P)) (qMs (pT P) (lS L) (qAl (lS L) (pR P)) (pV P) 9 r).2 with q2 | q2
      · rw [if_pos ⟨q, q2⟩] at ih1
        rw [if_neg (nI_ge q2 (by omega))]
        exact ih1
      · rw [if_neg (fun n => by omega)] at ih1
        rw [if_pos (nI_le q2 (by omega))]
        exact ih1
theorem k_msM_L (w : zRel c h pp P L) : ∀ k r n, r + k = pR P → k < n → s_X11_missed_L12 n (nI (qAl (lS L) (pR P))) (qMs (pT P) (lS L) (qAl (lS L) (pR P)) (pV P) 1000 r).1 (nI (qMs (pT P) (lS L) (qAl (lS L) (pR P)) (pV P) 1000 r).2) (nI r) h = some ((qMs (pT P) (lS L) (qAl (lS L) (pR P)) (pV P) 1000 (pR P)).1, h) := by
  obtain ⟨w0, hP, hL, wC, wM, cC, cM, -⟩ := id w
  have hR := hP.1
  have hV := hP.2.1
  have ha := r_all w
  intro k
  induction k with
  | zero =>
    intro r n e hn
    obtain ⟨m, rfl, -⟩ := zq_suc hn
    have e2 : r = pR P := by omega
    rw [s_X11_missed_L12, wM.1, if_pos (nI_le (by omega) (by omega)), e2]
  | succ k ih =>
    intro r n e hn
    obtain ⟨m, rfl, hm⟩ := zq_suc hn
    have ih1 := ih (r + 1) m (by omega) (by omega)
    have hq := qMs_le (pT P) (lS L) (qAl (lS L) (pR P)) (i := 1000) hV (by omega) r
    have hk := qKd_le (pT P) (qAl (lS L) (pR P) ^^^ 2 ^ r) (pV P) (pV P)
    rw [s_X11_missed_L12, wM.1, if_neg (nI_ge (by omega) (by omega)), k_of (by omega) (by omega), qAl_tb, ob_e]
    rw [qMs] at ih1
    by_cases q : lS L r = 0
    · rw [if_neg (fun n => n.1 q)] at ih1
      have e1 : (decide (r < pR P) && decide (lS L r ≠ 0)).toNat = 0 := by simp [q]
      rw [e1, if_pos (show nI 0 = 0 from rfl), s_X11_missed_J33, if_neg (show ¬ (1000 : Int32) < nI _ from nI_nlt (a := 1000) hq (by omega)), show nI r + 1 = nI (r + 1) from nI_1 r]
      exact ih1
    · have e1 : (decide (r < pR P) && decide (lS L r ≠ 0)).toNat = 1 := by
        have : r < pR P := by omega
        simp [q, this]
      have e2 : nI (qAl (lS L) (pR P)) &&& ((1 : Int32) <<< (nI r &&& 31) ^^^ (-1)) = nI (qAl (lS L) (pR P) ^^^ 2 ^ r) := by
        rw [show (1 : Int32) <<< (nI r &&& 31) = nI (2 ^ r) from zq_shl (by omega)]
        refine (zq_nand _ _).trans ?_
        congr 2
        apply Nat.eq_of_testBit_eq
        intro i
        rw [Nat.testBit_and, Nat.testBit_two_pow, qAl_tb]
        by_cases q9 : r = i
        · subst q9
          simp [q]; omega
        · simp [q9]
      rw [e1, if_neg (by decide), e2, r_kdM w (q_xor12 ha (by omega)), ob_e, s_X11_missed_J33, show nI r + 1 = nI (r + 1) from nI_1 r]
      rcases Nat.lt_or_ge (qKd (pT P) (qAl (lS L) (pR P) ^^^ 2 ^ r) (pV P) (pV P)) (qMs (pT P) (lS L) (qAl (lS L) (pR P)) (pV P) 1000 r).2 with q2 | q2
      · rw [if_pos ⟨q, q2⟩] at ih1
        rw [if_pos (nI_lt q2 (by omega))]
        exact ih1
      · rw [if_neg (fun n => by omega)] at ih1
        rw [if_neg (nI_nlt q2 (by omega))]
        exact ih1
theorem c_missed (w : zRel c h pp P L) : zCal2 c h pp P ((s_X10_missed pp h).bind fun v => some (v, h)) s_X11_missed := by
  have hR := w.2.1.1
  refine zCal2.of (v := (qMs (pT P) (lS L) (qAl (lS L) (pR P)) (pV P) 9 (pR P)).1) (h1 := h) w ?_ (zfr.rf _ h) (zAsk.val (fun h w => ?_))
  · rw [s_X10_missed, r_al w, ob_e, s_X7_mostMissed, show s_X7_mostMissed_L6 pp zfu (nI (qAl (lS L) (pR P))) (-1) 9 0 h = _ from k_ms_L w (pR P) 0 zfu (by omega) (zq_fu (by omega)), ob_e, ob_e]
  · rw [r_th w, ob_e, show s_X11_missed_L12 zfu (nI (qAl (lS L) (pR P))) (-1) 1000 0 h = _ from k_msM_L w (pR P) 0 zfu (by omega) (zq_fu (by omega)), (qMs_eq _ _ _ w.2.1.2.1 _).1]
end Q3
