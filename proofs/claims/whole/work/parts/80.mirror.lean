/-! ===== mirrored: the reference, the question ===== -/
def qLf (t al : Nat) : Nat → Nat → List Bool
  | 0, _ => []
  | k + 1, r => if al.testBit r = true then t.testBit r :: qLf t al k (r + 1) else qLf t al k (r + 1)
def qZc : List Bool → List Bool → Bool
  | x :: l, y :: k => (x == y) && qZc l k
  | _, _ => true
theorem qLf_b (t al : Nat) : ∀ k r, qLb t al (r + k) = qLb t al r ++ qLf t al k r := by
  intro k
  induction k with
  | zero => intro r; rw [qLf, List.append_nil, Nat.add_zero]
  | succ k ih =>
    intro r
    rw [show r + (k + 1) = r + 1 + k by omega, ih (r + 1), qLb, qLf]
    split
    · rw [List.append_assoc]; rfl
    · rfl
theorem qZc_n (l : List Bool) : qZc l [] = true := by cases l <;> rfl
theorem qZc_eq : ∀ l k : List Bool, l.length = k.length → (qZc l k = true ↔ l = k) := by
  intro l
  induction l with
  | nil =>
    intro k e
    rw [List.eq_nil_of_length_eq_zero e.symm]
    exact ⟨fun _ => rfl, fun _ => rfl⟩
  | cons a l ih =>
    intro k e
    cases k with
    | nil => exact absurd e (by simp)
    | cons b k =>
      rw [qZc, Bool.and_eq_true, ih k (Nat.succ.inj e)]
      constructor
      · intro q
        rw [eq_of_beq q.1, q.2]
      · intro q
        injection q with q1 q2
        exact ⟨by rw [q1]; exact beq_self_eq_true b, q2⟩
def qE (e : Nat) : Int32 := if e = 0 then nM else nI (e - 1)
def qFv (f : Nat → Bool) : Nat → Nat → Int32
  | 0, _ => nM
  | k + 1, w => if f w = true then nI w else qFv f k (w + 1)
section MJ
variable {c pp p R V : Nat} {T S : Nat → Nat} {h : zH} {P : zPl} {L : zLg}
theorem k_mir (hR : R ≤ 12) (hV : V ≤ 8) (h0 : zI h 56 0 = nI R) (hT : ∀ v, v < V → zI h 59 v = nI (T v)) (hb : ∀ v, v < V → T v < 4096) (s : zSM h R S) (ho : sOk R S) {v w : Nat} (hv : v < V) (hw : w < V) : ∀ m a e n, R - a + e ≤ m → a ≤ R → e ≤ R → m < n → s_X11_isMirror_L11 n (nI v) (nI w) (nI a) (qE e) (nI 1) h = some (nI (qZc (qLf (T v) (qAl S R) (R - a) a) (qLb (T w) (qAl S R) e).reverse).toNat) := by
  intro m
  induction m with
  | zero =>
    intro a e n q a1 e1 hn
    obtain ⟨n, rfl, -⟩ := zq_suc hn
    rw [s_X11_isMirror_L11, if_neg (by decide), h0, if_pos (nI_le (by omega) (by omega)), show R - a = 0 by omega]
    rfl
  | succ m ih =>
    intro a e n q a1 e1 hn
    obtain ⟨n, rfl, hn2⟩ := zq_suc hn
    rw [s_X11_isMirror_L11, if_neg (by decide), h0]
    by_cases qa : a = R
    · rw [if_pos (nI_le (by omega) (by omega)), show R - a = 0 by omega]
      rfl
    · rw [if_neg (nI_ge (by omega) (by omega))]
      by_cases qe : e = 0
      · subst qe
        rw [if_pos (show qE 0 < 0 by decide), qLb, List.reverse_nil, qZc_n]
        rfl
      · have ee : qE e = nI (e - 1) := if_neg qe
        have ta : (qAl S R).testBit a = decide (S a ≠ 0) := by rw [qAl_tb, decide_eq_true (show a < R by omega), Bool.true_and]
        have te : (qAl S R).testBit (e - 1) = decide (S (e - 1) ≠ 0) := by rw [qAl_tb, decide_eq_true (show e - 1 < R by omega), Bool.true_and]
        have lf : qLf (T v) (qAl S R) (R - a) a = if (qAl S R).testBit a = true then (T v).testBit a :: qLf (T v) (qAl S R) (R - (a + 1)) (a + 1) else qLf (T v) (qAl S R) (R - (a + 1)) (a + 1) := by
          rw [show R - a = R - (a + 1) + 1 by omega, qLf]
        have lb : qLb (T w) (qAl S R) e = if (qAl S R).testBit (e - 1) = true then qLb (T w) (qAl S R) (e - 1) ++ [(T w).testBit (e - 1)] else qLb (T w) (qAl S R) (e - 1) := by
          obtain ⟨d, rfl⟩ : ∃ d, e = d + 1 := ⟨e - 1, by omega⟩
          rw [qLb, show d + 1 - 1 = d by omega]
        have dn : nI (e - 1) + (-1 : Int32) = qE (e - 1) := by
          unfold qE
          by_cases z : e - 1 = 0
          · rw [if_pos z, z]; rfl
          · rw [if_neg z, show e - 1 = (e - 1 - 1) + 1 by omega, ← nI_1]
            rw [show e - 1 - 1 + 1 - 1 = e - 1 - 1 by omega, Int32.add_assoc]
            show nI (e - 1 - 1) + 0 = _
            exact nI_add _ 0
        rw [ee, if_neg (show ¬ nI (e - 1) < 0 from nI_nlt (b := 0) (by omega) (by omega)), k_goneAt hR s ho (by omega), ob_e]
        by_cases ga : S a = 0
        · rw [if_pos ga, if_neg (by decide), show nI a + 1 = nI (a + 1) from nI_1 a, ← ee, ih (a + 1) e n (by omega) (by omega) e1 (by omega), lf, ta, if_neg (by rw [decide_eq_false (fun n => n ga)]; decide)]
        · rw [if_neg ga, if_pos (show nI 0 = 0 from rfl), k_goneAt hR s ho (by omega), ob_e]
          by_cases ge : S (e - 1) = 0
          · rw [if_pos ge, if_neg (by decide), dn, ih a (e - 1) n (by omega) a1 (by omega) (by omega), lb, te, if_neg (by rw [decide_eq_false (fun n => n ge)]; decide)]
          · have bv := hb v hv
            have bw := hb w hw
            rw [if_neg ge, if_pos (show nI 0 = 0 from rfl), zq_ix (show v < 16 by omega) (by omega), hT v hv, k_of (by omega) (by omega), ob_e, zq_ix (show w < 16 by omega) (by omega), hT w hw, k_of (by omega) (by omega), ob_e, lf, ta, if_pos (decide_eq_true ga), lb, te, if_pos (decide_eq_true ge), List.reverse_append, show [(T w).testBit (e - 1)].reverse ++ (qLb (T w) (qAl S R) (e - 1)).reverse = (T w).testBit (e - 1) :: (qLb (T w) (qAl S R) (e - 1)).reverse from rfl, qZc, dn, show nI a + 1 = nI (a + 1) from nI_1 a]
            by_cases x : (T v).testBit a = (T w).testBit (e - 1)
            · rw [x, if_neg (fun n => n rfl), beq_self_eq_true, Bool.true_and]
              exact ih (a + 1) (e - 1) n (by omega) (by omega) (by omega) (by omega)
            · obtain ⟨n, rfl, -⟩ := zq_suc (show 0 < n by omega)
              rw [if_pos (show ¬ nI ((T v).testBit a).toNat = nI ((T w).testBit (e - 1)).toNat from by
                revert x
                cases (T v).testBit a <;> cases (T w).testBit (e - 1) <;> decide), s_X11_isMirror_L11, if_pos rfl, beq_eq_false_iff_ne.mpr x, Bool.false_and]
              rfl
theorem k_mirC (hR : R ≤ 12) (hV : V ≤ 8) (h6 : zI h p 6 = nI R) (h8 : zI h p 8 = nI V) (hT : ∀ v, v < V → zI h (p + 2) v = nI (T v)) (hb : ∀ v, v < V → T v < 4096) {al t : Nat} (ha : al < 4096) (ht : t < 2 ^ 31) : ∀ k w n, w + k = V → k < n → s_X7_mirrorOf_L32 p n (nI al) (nI t) (nI w) h = some (qFv (fun w => decide (qVl (qLb (T w) al R) = t)) k w) := by
  intro k
  induction k with
  | zero =>
    intro w n e hn
    obtain ⟨n, rfl, -⟩ := zq_suc hn
    rw [s_X7_mirrorOf_L32, h8, if_pos (nI_le (by omega) (by omega))]
    rfl
  | succ k ih =>
    intro w n e hn
    obtain ⟨n, rfl, hn2⟩ := zq_suc hn
    have l1 := qVl_lt (qLb (T w) al R)
    have l2 := qLb_le (T w) al R
    have l3 : 2 ^ (qLb (T w) al R).length ≤ 2 ^ 12 := Nat.pow_le_pow_right (by omega) (by omega)
    rw [s_X7_mirrorOf_L32, h8, if_neg (nI_ge (by omega) (by omega)), k_clos hR hV h6 hT hb ha (by omega), ob_e, show nI w + 1 = nI (w + 1) from nI_1 w, ih (w + 1) n (by omega) (by omega), qFv]
    by_cases q : qVl (qLb (T w) al R) = t
    · rw [if_neg (show ¬ ¬ nI (qVl (qLb (T w) al R)) = nI t from fun n => n (by rw [q])), if_pos (show decide (qVl (qLb (T w) al R) = t) = true from decide_eq_true q)]
    · rw [if_pos (show ¬ nI (qVl (qLb (T w) al R)) = nI t from fun e => q ((nI_eq (by omega) ht).mp e)), if_neg (show ¬ decide (qVl (qLb (T w) al R) = t) = true by rw [decide_eq_false q]; decide)]
theorem k_mirM (hV : V ≤ 8) (h1 : zI h 56 1 = nI V) {f : Nat → Bool} {v : Nat} (hf : ∀ w, w < V → s_X11_isMirror (nI v) (nI w) h = some (nI (f w).toNat)) : ∀ k w n, w + k = V → k < n → s_X11_mirrored_L13 n (nI v) (nI w) h = some (qFv f k w, h) := by
  intro k
  induction k with
  | zero =>
    intro w n e hn
    obtain ⟨n, rfl, -⟩ := zq_suc hn
    rw [s_X11_mirrored_L13, h1, if_pos (nI_le (by omega) (by omega))]
    rfl
  | succ k ih =>
    intro w n e hn
    obtain ⟨n, rfl, hn2⟩ := zq_suc hn
    rw [s_X11_mirrored_L13, h1, if_neg (nI_ge (by omega) (by omega)), hf w (by omega), ob_e, show nI w + 1 = nI (w + 1) from nI_1 w, ih (w + 1) n (by omega) (by omega), qFv]
    cases hq : f w with
    | true => rw [if_neg (by decide), if_pos rfl]
    | false => rw [if_pos (show nI false.toNat = 0 from rfl), if_neg (by decide)]
theorem c_mirrored (w : zRel c h pp P L) (x : Int32) : zCall c h pp P (s_L_mirrored pp x 90 1 h) (s_X11_mirrored x) := by
  show zCall c h pp P (zHa (s_X10_mirrored pp x h)) (s_X11_mirrored x)
  obtain ⟨w0, hP, hL, wC, wM, cC, cM, -⟩ := id w
  have hR := hP.1
  have hV := hP.2.1
  have ha := r_all w
  have bad : (x < nI 0 ∨ nI (pV P) ≤ x) → zCall c h pp P (zHa (s_X10_mirrored pp x h)) (s_X11_mirrored x) := by
    intro hx
    refine zCall.i1 (v := nI 0) w (by rw [s_X10_mirrored, n_ver0 w hx, zbx_r]) (zAsk.fail (fun h w => ?_))
    rw [r_ver0 w hx, ob_e, if_neg (fun n => n rfl)]
    rfl
  rcases zq_any x (pV P) (by omega) with hx | hx | ⟨v, hv, rfl⟩
  · exact bad (Or.inl hx)
  · exact bad (Or.inr hx)
  · have l1 := qVl_lt (qLb (pT P v) (qAl (lS L) (pR P)) (pR P)).reverse
    have l2 := qLb_le (pT P v) (qAl (lS L) (pR P)) (pR P)
    rw [List.length_reverse] at l1
    have l3 : 2 ^ (qLb (pT P v) (qAl (lS L) (pR P)) (pR P)).length ≤ 2 ^ 12 := Nat.pow_le_pow_right (by omega) (by omega)
    refine zCall.i (v := qFv (fun w => decide (qVl (qLb (pT P w) (qAl (lS L) (pR P)) (pR P)) = qVl (qLb (pT P v) (qAl (lS L) (pR P)) (pR P)).reverse)) (pV P) 0) w ?_ (zfr.rf _ h) (zAsk.val (fun h w => ?_))
    · rw [s_X10_mirrored, n_ver1 w hv, zbx_l, r_al w, ob_e, s_X7_mirrorOf, show s_X7_mirrorOf_L4 pp zfu (nI (qAl (lS L) (pR P))) (nI v) 0 0 h = _ from k_turn hR hV wC.1 wC.2.2.2.1 hP.2.2.2.1 ha hv (pR P) 0 zfu (by omega) (zq_fu (by omega)), show s_X7_mirrorOf_L32 pp zfu (nI (qAl (lS L) (pR P))) (nI (qVl (qLb (pT P v) (qAl (lS L) (pR P)) (pR P)).reverse)) 0 h = _ from k_mirC hR hV wC.1 wC.2.2.1 wC.2.2.2.1 hP.2.2.2.1 ha (by omega) (pV P) 0 zfu (by omega) (zq_fu (by omega)), ob_e]
    · obtain ⟨w0, hP, hL, wC, wM, cC, cM, -⟩ := id w
      rw [r_ver1 w hv, ob_e, if_pos (by decide)]
      refine k_mirM (f := fun w => decide (qVl (qLb (pT P w) (qAl (lS L) (pR P)) (pR P)) = qVl (qLb (pT P v) (qAl (lS L) (pR P)) (pR P)).reverse)) hV wM.2.1 (fun u hu => ?_) (pV P) 0 zfu (by omega) (zq_fu (by omega))
      have e1 : zI h 56 0 - (1 : Int32) = qE (pR P) := by
        unfold qE
        rw [wM.1]
        by_cases z : pR P = 0
        · rw [if_pos z, z]; rfl
        · rw [if_neg z]; exact zq_sub (b := 1) (by omega)
      rw [s_X11_isMirror, e1, show s_X11_isMirror_L11 zfu (nI v) (nI u) 0 (qE (pR P)) 1 h = _ from k_mir hR hV wM.1 wM.2.2.2.1 hP.2.2.2.1 cM.1 hL.1.1 hv hu (pR P + pR P) 0 (pR P) zfu (by omega) (by omega) (by omega) (zq_fu (by omega)), Nat.sub_zero]
      have b := qLf_b (pT P v) (qAl (lS L) (pR P)) (pR P) 0
      rw [Nat.zero_add, qLb, List.nil_append] at b
      rw [← b]
      have le := qLb_len (pT P v) (pT P u) (qAl (lS L) (pR P)) (pR P)
      generalize qLb (pT P v) (qAl (lS L) (pR P)) (pR P) = A at le ⊢
      generalize qLb (pT P u) (qAl (lS L) (pR P)) (pR P) = B at le ⊢
      have q1 := qZc_eq A B.reverse (by rw [List.length_reverse]; exact le)
      have key : qZc A B.reverse = decide (qVl B = qVl A.reverse) := by
        rw [Bool.eq_iff_iff, q1, decide_eq_true_iff]
        constructor
        · intro e; rw [e, List.reverse_reverse]
        · intro e
          have := qVl_inj B A.reverse (by rw [List.length_reverse]; exact le.symm) e
          rw [this, List.reverse_reverse]
      rw [key]
end MJ
