/-! ===== an order of verses, in the reference ===== -/
/-- the next one, from the last one down -/
def qXn (p : Nat → Bool) : Nat → Nat → Int32
  | 0, _ => nM
  | k + 1, m => if p (m + 1) = true then nI (m + 1) else qXn p k (m + 1)
theorem qXn_f {p : Nat → Bool} : ∀ k m, (∀ o, o ≤ m → p o = false) → fa_first p (m + 1 + k) < m + 1 + k → qXn p k m = nI (fa_first p (m + 1 + k)) := by
  intro k
  induction k with
  | zero =>
    intro m h1 h2
    have := fa_first_yes p (m + 1 + 0) h2
    rw [h1 _ (by omega)] at this
    cases this
  | succ k ih =>
    intro m h1 h2
    rw [qXn]
    cases hp : p (m + 1) with
    | true =>
      rw [if_pos rfl, fa_first_eq hp (fun o ho => h1 o (by omega)) (by omega)]
    | false =>
      rw [if_neg (by decide)]
      have := ih (m + 1) (fun o ho => by
        by_cases e : o = m + 1
        · rw [e]; exact hp
        · exact h1 o (by omega)) (by rw [show m + 1 + 1 + k = m + 1 + (k + 1) by omega]; exact h2)
      rw [this, show m + 1 + 1 + k = m + 1 + (k + 1) by omega]
section OM
variable {c pp : Nat} {h h0 h1 : zH} {P : zPl} {L : zLg}
def qTu (P : zPl) (L : zLg) (v o : Nat) : Nat := qPc ((pT P v ^^^ pT P o) &&& qAl (lS L) (pR P))
theorem qTu_le (P : zPl) (L : zLg) (v o : Nat) : qTu P L v o ≤ 12 := qPc_le _
/-- rows of sets above s stand -/
def qGw (h : zH) (P : zPl) (L : zLg) (s : Nat) : Prop := ∀ x v, s < x → x < 2 ^ pV P → v < pV P → x.testBit v = true → zI h 75 (256 * v + x) = nI (qD (pV P) (qTu P L) v x)
theorem o_sh {o : Nat} (ho : o < 8) {x : Nat} : (nI o <<< ((8 : Int32) &&& 31)) + nI x = nI (256 * o + x) := by
  rw [show nI o <<< ((8 : Int32) &&& 31) = nI (o * 2 ^ 8) from zq_shlN (r := 8) (by omega) (by omega), nI_add, show o * 2 ^ 8 = 256 * o by omega]
theorem o_or {s o : Nat} (ho : o < 8) : nI s ||| ((1 : Int32) <<< (nI o &&& 31)) = nI (s ||| 2 ^ o) := by
  rw [show (1 : Int32) <<< (nI o &&& 31) = nI (2 ^ o) from zq_shl (r := o) (by omega), fa_or]
theorem k_to1 (w : zRel c h pp P L) {s v : Nat} (hs : s < 2 ^ pV P) (hv : v < pV P) (hne : s ≠ 2 ^ pV P - 1) (a : qGw h P L s) (K : Int32 → Int32 → Int32 → zH → Option zH) (l1 : Int32) : ∀ k o n, o + k = pV P → k < n → s_X11_tellOrder_L35 K n l1 (nI s) (nI v) (nI (qMn (fun o => qTu P L v o + qD (pV P) (qTu P L) o (s ||| 2 ^ o)) (fun o => !s.testBit o) o)) (nI o) h = K l1 (nI s) (nI (v + 1)) (zwI h 75 (256 * v + s) (nI (qD (pV P) (qTu P L) v s))) := by
  have hV : pV P ≤ 8 := w.2.1.2.1
  have v256 := q_v8 hV
  have wM := w.2.2.2.2.1
  intro k
  induction k with
  | zero =>
    intro o n e hn
    obtain ⟨n, rfl, -⟩ := zq_suc hn
    have e2 : o = pV P := by omega
    rw [s_X11_tellOrder_L35, wM.2.1, if_pos (nI_le (by omega) (by omega)), o_sh (by omega), zq_ix (by omega) (by omega), zlt_e, e2, show nI v + 1 = nI (v + 1) from nI_1 v]
    have hd := qD_eq (t := qTu P L) (v := v) hV hs
    rw [if_neg hne] at hd
    rw [← hd]
  | succ k ih =>
    intro o n e hn
    obtain ⟨n, rfl, hn2⟩ := zq_suc hn
    have ih1 := ih (o + 1) n (by omega) (by omega)
    have ho : o < pV P := by omega
    rw [qMn] at ih1
    rw [s_X11_tellOrder_L35, wM.2.1, if_neg (nI_ge ho (by omega)), k_of (by omega) (by omega), ob_e, show nI o + 1 = nI (o + 1) from nI_1 o]
    cases hb : s.testBit o with
    | true =>
      rw [if_neg (by rw [hb]; decide)] at ih1
      rw [if_pos (by decide)]
      exact ih1
    | false =>
      rw [if_pos (by rw [hb]; rfl)] at ih1
      have g1 := q_sor hb
      have g2 := q_sol hs ho
      have t1 := qTu_le P L v o
      have c1 := qCt_s ho hb
      have c2 : qCt (s ||| 2 ^ o) (pV P) ≤ pV P := fb_ct_le _ _
      have d1 := qD_le hV (qTu_le P L) (pV P - qCt (s ||| 2 ^ o) (pV P)) o (s ||| 2 ^ o) g2 (by omega)
      have m1 := qMn_b (f := fun o => qTu P L v o + qD (pV P) (qTu P L) o (s ||| 2 ^ o)) (p := fun o => !s.testBit o) o
      rw [if_neg (fun n => n rfl), show s_X11_turns (nI v) (nI o) h = some (nI (qTu P L v o)) from r_turns w hv ho, ob_e, o_or (by omega), o_sh (by omega), zq_ix (by omega) (by omega), a (s ||| 2 ^ o) o g1 g2 ho (by rw [fb_bit_set, decide_eq_true rfl, Bool.or_true]), nI_add, k_min2 (by omega) (by omega), ob_e]
      exact ih1
theorem k_to1e (w : zRel c h pp P L) {v : Nat} (hv : v < pV P) (K : Int32 → Int32 → Int32 → zH → Option zH) (l1 : Int32) : ∀ k o n, o + k = pV P → k < n → s_X11_tellOrder_L35 K n l1 (nI (2 ^ pV P - 1)) (nI v) 0 (nI o) h = K l1 (nI (2 ^ pV P - 1)) (nI (v + 1)) (zwI h 75 (256 * v + (2 ^ pV P - 1)) (nI (qD (pV P) (qTu P L) v (2 ^ pV P - 1)))) := by
  have hV : pV P ≤ 8 := w.2.1.2.1
  have v256 := q_v8 hV
  have vp := Nat.two_pow_pos (pV P)
  have wM := w.2.2.2.2.1
  intro k
  induction k with
  | zero =>
    intro o n e hn
    obtain ⟨n, rfl, -⟩ := zq_suc hn
    rw [s_X11_tellOrder_L35, wM.2.1, if_pos (nI_le (by omega) (by omega)), o_sh (by omega), zq_ix (by omega) (by omega), zlt_e, show nI v + 1 = nI (v + 1) from nI_1 v, qD_eq hV (by omega), if_pos rfl]
    rfl
  | succ k ih =>
    intro o n e hn
    obtain ⟨n, rfl, hn2⟩ := zq_suc hn
    have ih1 := ih (o + 1) n (by omega) (by omega)
    rw [s_X11_tellOrder_L35, wM.2.1, if_neg (nI_ge (by omega) (by omega)), k_of (by omega) (by omega), ob_e, show nI o + 1 = nI (o + 1) from nI_1 o, Nat.testBit_two_pow_sub_one, decide_eq_true (show o < pV P by omega), if_pos (by decide)]
    exact ih1
theorem k_to2 (w : zRel c h0 pp P L) {s : Nat} (hs : s < 2 ^ pV P) (K : Int32 → Int32 → zH → Option zH) : ∀ k v n h, v + k = pV P → k < n → zfr (fun b _ => b = 75) h0 h → qGw h P L s → (∀ x, x < v → s.testBit x = true → zI h 75 (256 * x + s) = nI (qD (pV P) (qTu P L) x s)) → ∃ h', s_X11_tellOrder_L15 K n (nI (2 ^ pV P - 1)) (nI s) (nI v) h = K (nI (2 ^ pV P - 1)) (nI s + (-1)) h' ∧ zfr (fun b _ => b = 75) h0 h' ∧ qGw h' P L s ∧ (∀ x, x < pV P → s.testBit x = true → zI h' 75 (256 * x + s) = nI (qD (pV P) (qTu P L) x s)) := by
  have hV : pV P ≤ 8 := w.2.1.2.1
  have v256 := q_v8 hV
  have vp := Nat.two_pow_pos (pV P)
  intro k
  induction k with
  | zero =>
    intro v n h e hn f a b
    obtain ⟨n, rfl, -⟩ := zq_suc hn
    have e2 : v = pV P := by omega
    subst e2
    have w1 := w.fr (f.mo (fun b k e => by unfold zScr; omega))
    refine ⟨h, ?_, f, a, b⟩
    rw [s_X11_tellOrder_L15, w1.2.2.2.2.1.2.1, if_pos (nI_le (by omega) (by omega))]
  | succ k ih =>
    intro v n h e hn f a b
    obtain ⟨n, rfl, hn2⟩ := zq_suc hn
    have w1 := w.fr (f.mo (fun b k e => by unfold zScr; omega))
    rw [s_X11_tellOrder_L15, w1.2.2.2.2.1.2.1, if_neg (nI_ge (by omega) (by omega)), k_of (by omega) (by omega), ob_e]
    cases hb : s.testBit v with
    | false =>
      rw [if_neg (fun n => n rfl), show nI v + 1 = nI (v + 1) from nI_1 v]
      exact ih (v + 1) n h (by omega) (by omega) f a (fun x hx hx2 => by
        by_cases z : x = v
        · rw [z, hb] at hx2; cases hx2
        · exact b x (by omega) hx2)
    | true =>
      rw [if_pos (by decide)]
      have go : ∃ h', s_X11_tellOrder_L15 K n (nI (2 ^ pV P - 1)) (nI s) (nI (v + 1)) (zwI h 75 (256 * v + s) (nI (qD (pV P) (qTu P L) v s))) = K (nI (2 ^ pV P - 1)) (nI s + (-1)) h' ∧ zfr (fun b _ => b = 75) h0 h' ∧ qGw h' P L s ∧ (∀ x, x < pV P → s.testBit x = true → zI h' 75 (256 * x + s) = nI (qD (pV P) (qTu P L) x s)) := by
        have f1 : zfr (fun b k => b = 75 ∧ k = 256 * v + s) h (zwI h 75 (256 * v + s) (nI (qD (pV P) (qTu P L) v s))) := zfr.wI _ _ _ ⟨rfl, rfl⟩
        have c1 : zI (zwI h 75 (256 * v + s) (nI (qD (pV P) (qTu P L) v s))) 75 (256 * v + s) = nI (qD (pV P) (qTu P L) v s) := by rw [zI_wI, if_pos rfl, if_pos rfl]
        generalize zwI h 75 (256 * v + s) (nI (qD (pV P) (qTu P L) v s)) = h2 at f1 c1 ⊢
        refine ih (v + 1) n h2 (by omega) (by omega) (f.tr (f1.mo (fun b k e => e.1))) (fun x y x1 x2 x3 x4 => ?_) (fun x hx hx2 => ?_)
        · rw [f1.i (by omega)]; exact a x y x1 x2 x3 x4
        · by_cases z : x = v
          · rw [z]; exact c1
          · rw [f1.i (by omega)]; exact b x (by omega) hx2
      by_cases q : s = 2 ^ pV P - 1
      · subst q
        rw [if_neg (fun n => n rfl), show s_X11_tellOrder_L35 (s_X11_tellOrder_L15 K n) zfu (nI (2 ^ pV P - 1)) (nI (2 ^ pV P - 1)) (nI v) 0 0 h = _ from k_to1e w1 (by omega) (s_X11_tellOrder_L15 K n) (nI (2 ^ pV P - 1)) (pV P) 0 zfu (by omega) (zq_fu (by omega))]
        exact go
      · rw [if_pos (fun e => q ((nI_eq (by omega) (by omega)).mp e)), show s_X11_tellOrder_L35 (s_X11_tellOrder_L15 K n) zfu (nI (2 ^ pV P - 1)) (nI s) (nI v) 1000 0 h = _ from k_to1 w1 hs (by omega) q a (s_X11_tellOrder_L15 K n) (nI (2 ^ pV P - 1)) (pV P) 0 zfu (by omega) (zq_fu (by omega))]
        exact go
theorem k_to3 (w : zRel c h0 pp P L) : ∀ s n h, s < 2 ^ pV P → s < n → zfr (fun b _ => b = 75) h0 h → qGw h P L s → ∃ h', s_X11_tellOrder_L11 n (nI (2 ^ pV P - 1)) (nI s) h = some h' ∧ zfr (fun b _ => b = 75) h0 h' ∧ qGw h' P L 0 := by
  have hV : pV P ≤ 8 := w.2.1.2.1
  have v256 := q_v8 hV
  intro s
  induction s with
  | zero =>
    intro n h hs hn f a
    obtain ⟨n, rfl, -⟩ := zq_suc hn
    refine ⟨h, ?_, f, a⟩
    rw [s_X11_tellOrder_L11, if_pos (by decide)]
  | succ s ih =>
    intro n h hs hn f a
    obtain ⟨n, rfl, hn2⟩ := zq_suc hn
    rw [s_X11_tellOrder_L11, if_neg (nI_nle (by omega) (by omega))]
    obtain ⟨h1, e1, f1, a1, b1⟩ := k_to2 w hs (s_X11_tellOrder_L11 n) (pV P) 0 zfu h (by omega) (zq_fu (by omega)) f a (fun x hx => by omega)
    obtain ⟨h2, e2, f2, a2⟩ := ih n h1 (by omega) (by omega) f1 (fun x v x1 x2 x3 x4 => by
      by_cases z : x = s + 1
      · subst z; exact b1 v x3 x4
      · exact a1 x v (by omega) x2 x3 x4)
    refine ⟨h2, ?_, f2, a2⟩
    rw [show s_X11_tellOrder_L15 (s_X11_tellOrder_L11 n) zfu (nI (2 ^ pV P - 1)) (nI (s + 1)) 0 h = _ from e1, pk_m1]
    exact e2
theorem k_to (w : zRel c h pp P L) : ∃ h', s_X11_tellOrder h = some h' ∧ zfr (fun b _ => b = 75) h h' ∧ qGw h' P L 0 := by
  have hV : pV P ≤ 8 := w.2.1.2.1
  have v256 := q_v8 hV
  have vp := Nat.two_pow_pos (pV P)
  have wM := w.2.2.2.2.1
  have ea : ((1 : Int32) <<< ((nI (pV P)) &&& 31)) - (1 : Int32) = nI (2 ^ pV P - 1) := by
    rw [show (1 : Int32) <<< (nI (pV P) &&& 31) = nI (2 ^ pV P) from zq_shl (r := pV P) (by omega)]
    exact zq_sub (b := 1) (by omega)
  rw [s_X11_tellOrder, wM.2.1, ea]
  exact k_to3 w (2 ^ pV P - 1) zfu h (by omega) (zq_fu (by omega)) (zfr.rf _ h) (fun x v x1 x2 => by omega)
theorem k_or1 (w : zRel c h pp P L) (a : qGw h P L 0) {s v : Nat} (hs : s < 2 ^ pV P) (s0 : 0 < s) (hv : v < pV P) (hb0 : s.testBit v = true) (K : Int32 → Int32 → Int32 → Int32 → zH → Option (Int32 × zH)) (l1 l4 : Int32) : ∀ m n, m < pV P → m < n → s_X11_order_L54 K n l1 (nI s) (nI v) l4 (qXn (qNp (pV P) (qTu P L) v s) (pV P - 1 - m) m) (nI m) h = K l1 (nI s ||| ((1 : Int32) <<< ((qXn (qNp (pV P) (qTu P L) v s) (pV P - 1) 0) &&& 31))) (qXn (qNp (pV P) (qTu P L) v s) (pV P - 1) 0) (l4 + 1) h := by
  have hV : pV P ≤ 8 := w.2.1.2.1
  have v256 := q_v8 hV
  intro m
  induction m with
  | zero =>
    intro n hm hn
    obtain ⟨n, rfl, -⟩ := zq_suc hn
    rw [s_X11_order_L54, if_pos (by decide)]
    rfl
  | succ m ih =>
    intro n hm hn
    obtain ⟨n, rfl, hn2⟩ := zq_suc hn
    have ih1 := ih n (by omega) (by omega)
    rw [show pV P - 1 - m = (pV P - 1 - (m + 1)) + 1 by omega, qXn] at ih1
    rw [s_X11_order_L54, if_neg (nI_nle (by omega) (by omega)), k_of (by omega) (by omega), ob_e, pk_m1]
    cases hb : s.testBit (m + 1) with
    | true =>
      rw [if_neg (show ¬ qNp (pV P) (qTu P L) v s (m + 1) = true by unfold qNp; rw [hb]; exact Bool.false_ne_true)] at ih1
      rw [if_pos (by decide)]
      exact ih1
    | false =>
      have g1 := q_sor hb
      have g2 := q_sol hs hm
      have t1 := qTu_le P L v (m + 1)
      have c1 := qCt_s hm hb
      have c2 : qCt (s ||| 2 ^ (m + 1)) (pV P) ≤ pV P := fb_ct_le _ _
      have d1 := qD_le hV (qTu_le P L) (pV P - qCt (s ||| 2 ^ (m + 1)) (pV P)) (m + 1) (s ||| 2 ^ (m + 1)) g2 (by omega)
      have d2 := qD_le hV (qTu_le P L) (pV P - qCt s (pV P)) v s hs (by have : qCt s (pV P) ≤ pV P := fb_ct_le _ _; omega)
      rw [if_neg (fun n => n rfl), show s_X11_turns (nI v) (nI (m + 1)) h = some (nI (qTu P L v (m + 1))) from r_turns w hv hm, ob_e, o_or (by omega), o_sh (by omega), zq_ix (by omega) (by omega), a (s ||| 2 ^ (m + 1)) (m + 1) (by omega) g2 hm (by rw [fb_bit_set, decide_eq_true rfl, Bool.or_true]), nI_add, o_sh (by omega), zq_ix (by omega) (by omega), a s v s0 hs hv hb0]
      by_cases q : qTu P L v (m + 1) + qD (pV P) (qTu P L) (m + 1) (s ||| 2 ^ (m + 1)) = qD (pV P) (qTu P L) v s
      · rw [if_pos (show qNp (pV P) (qTu P L) v s (m + 1) = true by unfold qNp; rw [hb, decide_eq_true q]; rfl)] at ih1
        rw [if_neg (fun n => n (by rw [q]))]
        exact ih1
      · rw [if_neg (show ¬ qNp (pV P) (qTu P L) v s (m + 1) = true by unfold qNp; rw [hb, decide_eq_false q]; decide)] at ih1
        rw [if_pos (fun e => q ((nI_eq (by omega) (by omega)).mp e))]
        exact ih1
theorem k_or2 (w : zRel c h pp P L) (a : qGw h P L 0) {i : Nat} (hi : i < pV P) : ∀ k m n, m + k = i → k < n → s_X11_order_L42 n (nI i) (nI (qSq (pV P) (qTu P L) m (0, 1)).2) (nI (qSq (pV P) (qTu P L) m (0, 1)).1) (nI m) h = some (nI (qSq (pV P) (qTu P L) i (0, 1)).1, h) := by
  have hV : pV P ≤ 8 := w.2.1.2.1
  have v256 := q_v8 hV
  have p1 : 2 ^ 1 ≤ 2 ^ pV P := Nat.pow_le_pow_right (by omega) (by omega)
  have z1 : qCt 1 (pV P) = 1 := by
    have h1 := qCt_s (V := pV P) (s := 0) (o := 0) (by omega) (Nat.zero_testBit 0)
    have h2 : qCt 0 (pV P) = 0 := (fb_ct_zero (p := fun i => (0 : Nat).testBit i)).mpr (fun k _ => Nat.zero_testBit k)
    rw [h2] at h1
    exact h1
  intro k
  induction k with
  | zero =>
    intro m n e hn
    obtain ⟨n, rfl, -⟩ := zq_suc hn
    have e2 : m = i := by omega
    subst e2
    rw [s_X11_order_L42, if_pos (nI_le (by omega) (by omega))]
  | succ k ih =>
    intro m n e hn
    obtain ⟨n, rfl, hn2⟩ := zq_suc hn
    obtain ⟨b1, b2, b3, b4⟩ := qSq_in (t := qTu P L) hV (qTu_le P L) m (0, 1) (by show 0 < pV P; omega) (by show 1 < 2 ^ pV P; omega) rfl (by show qCt 1 (pV P) + m ≤ pV P; omega)
    have b4 : qCt (qSq (pV P) (qTu P L) m (0, 1)).2 (pV P) = 1 + m := by rw [b4, show qCt ((0, 1) : Nat × Nat).2 (pV P) = 1 from z1]
    have ih1 := ih (m + 1) n (by omega) (by omega)
    rw [qSq_s] at ih1
    have bb : (qSq (pV P) (qTu P L) m (0, 1)).2.testBit (qSq (pV P) (qTu P L) m (0, 1)).1 = true := by
      cases m with
      | zero => rw [qSq]; rfl
      | succ m =>
        rw [qSq_s]
        generalize qSq (pV P) (qTu P L) m (0, 1) = y
        show (y.2 ||| 2 ^ qNx (pV P) (qTu P L) y.1 y.2).testBit (qNx (pV P) (qTu P L) y.1 y.2) = true
        rw [fb_bit_set, decide_eq_true rfl, Bool.or_true]
    generalize qSq (pV P) (qTu P L) m (0, 1) = x at b1 b2 b3 b4 ih1 bb ⊢
    obtain ⟨n1, n2, n3⟩ := qNx_in (t := qTu P L) hV (qTu_le P L) (v := x.1) b2 (by omega)
    have s0 : 0 < x.2 := by
      rcases Nat.eq_zero_or_pos x.2 with z | z
      · rw [z, Nat.zero_testBit] at b3; cases b3
      · exact z
    have k1 := k_or1 w a b2 s0 b1 bb (s_X11_order_L42 n) (nI i) (nI m) (pV P - 1) zfu (by omega) (zq_fu (by omega))
    rw [show pV P - 1 - (pV P - 1) = 0 by omega, qXn] at k1
    have kx : qXn (qNp (pV P) (qTu P L) x.1 x.2) (pV P - 1) 0 = nI (qNx (pV P) (qTu P L) x.1 x.2) := by
      have := qXn_f (p := qNp (pV P) (qTu P L) x.1 x.2) (pV P - 1) 0 (fun o ho => by
        have e0 : o = 0 := by omega
        subst e0
        unfold qNp
        rw [b3]; rfl) (by rw [show 0 + 1 + (pV P - 1) = pV P by omega]; exact n1)
      rw [this, show 0 + 1 + (pV P - 1) = pV P by omega]
      rfl
    rw [kx, o_or (by omega), show nI m + 1 = nI (m + 1) from nI_1 m] at k1
    rw [s_X11_order_L42, if_neg (nI_ge (by omega) (by omega)), w.2.2.2.2.1.2.1, show nI (pV P) - 1 = nI (pV P - 1) from zq_sub (b := 1) (by omega), show s_X11_order_L54 (s_X11_order_L42 n) zfu (nI i) (nI x.2) (nI x.1) (nI m) (-1) (nI (pV P - 1)) h = _ from k1]
    exact ih1
/-- the class finds it -/
theorem r_ord (w : zRel c h pp P L) : ∃ h1, s_X7_findOrder pp (nI (qAl (lS L) (pR P))) h = some h1 ∧ zfr zAo h h1 ∧ (pV P = 0 → zI h1 44 2 = nI 0) ∧ (0 < pV P → zI h1 44 2 = nI (qD (pV P) (qTu P L) 0 1) ∧ ∀ i, i < pV P → zI h1 46 i = nI (qSq (pV P) (qTu P L) i (0, 1)).1) := by
  have hV : pV P ≤ 8 := w.2.1.2.1
  have wC := w.2.2.2.1
  have f1 : zfr zAo h (zwI h 44 2 0) := zfr.wI _ _ _ (by unfold zAo; omega)
  have c1 : zI (zwI h 44 2 0) 44 2 = nI 0 := by rw [zI_wI, if_pos rfl, if_pos rfl]; rfl
  have w0 : pp = 2 ∨ pp = 9 := w.1
  rw [s_X7_findOrder, zlt_e]
  generalize zwI h 44 2 0 = h1 at f1 c1 ⊢
  rw [f1.i (by unfold zAo; omega), wC.2.2.1]
  by_cases q : pV P = 0
  · rw [q, if_pos (by decide)]
    exact ⟨h1, rfl, f1, fun _ => c1, fun n => by omega⟩
  · rw [if_neg (nI_nle (by omega) (by omega)), zlt_e, zlt_e]
    have f2 : zfr zAo h1 (zwI (zwI h1 44 2 96) 45 0 0) := (zfr.wI 44 2 _ (by unfold zAo; omega)).w 45 0 _ (by unfold zAo; omega)
    have c2 : zI (zwI (zwI h1 44 2 96) 45 0 0) 44 2 = nI 96 := by rw [zI_wI, if_neg (by decide), zI_wI, if_pos rfl, if_pos rfl]; rfl
    have c3 : zI (zwI (zwI h1 44 2 96) 45 0 0) 45 0 = nI 0 := by rw [zI_wI, if_pos rfl, if_pos rfl]; rfl
    generalize zwI (zwI h1 44 2 96) 45 0 0 = h2 at f2 c2 c3 ⊢
    have p1 : 2 ^ 1 ≤ 2 ^ pV P := Nat.pow_le_pow_right (by omega) (by omega)
    have z1 : qCt 1 (pV P) = 1 := by
      have h1 := qCt_s (V := pV P) (s := 0) (o := 0) (by omega) (Nat.zero_testBit 0)
      have h2 : qCt 0 (pV P) = 0 := (fb_ct_zero (p := fun i => (0 : Nat).testBit i)).mpr (fun k _ => Nat.zero_testBit k)
      rw [h2] at h1
      exact h1
    obtain ⟨h3, e3, r3, f3, res⟩ := k_ext (h0 := h) hV (r_all w) w0 wC.2.2.1 wC.2.2.2.1 (pV P - 1) 1 1 0 0 96 10 h2 (by omega) (by omega) (by omega) (by omega) z1 (by omega) (by omega) (by omega) (f1.tr f2) c2 c3
    have bd := qD_le hV (qTu_le P L) (pV P - 1) 0 1 (by omega) (by omega)
    obtain ⟨x1, x2, x3⟩ := res.1 (by
      show 0 + qD (pV P) (qTu P L) 0 1 < 96
      omega)
    rw [u_X7_extendOrder, show t_X7_extendOrder 10 pp (nI (qAl (lS L) (pR P))) 1 1 0 h2 = some h3 from e3, ob_e]
    refine ⟨h3, rfl, f3, fun n => absurd n q, fun _ => ⟨?_, fun i hi => ?_⟩⟩
    · rw [x1, Nat.zero_add]; rfl
    · cases i with
      | zero => rw [x2 0 (by omega), c3]; rfl
      | succ i => rw [show i + 1 = 1 + i by omega, x3 i (by omega), show 1 + i = i + 1 by omega]; rfl
theorem zq_neg1 {x : Int32} (h : x < 0) : x = nM ∨ x < nM := by
  rw [fa_lt, show (0 : Int32).toInt = 0 from rfl] at h
  rw [fa_lt, fa_eq, zq_toM]
  omega
theorem c_order (w : zRel c h pp P L) (x : Int32) : zCall c h pp P (s_L_order pp x 90 1 h) (s_X11_order x) := by
  show zCall c h pp P (zHa (s_X10_order pp x h)) (s_X11_order x)
  have hP := w.2.1
  have hV : pV P ≤ 8 := hP.2.1
  have wC := w.2.2.2.1
  have em : (-1 : Int64) = nM.toInt64 := by decide
  have bad : (x < nM ∨ nI (pV P) ≤ x) → zCall c h pp P (zHa (s_X10_order pp x h)) (s_X11_order x) := by
    intro hx
    refine zCall.i1 (v := nI 0) w ?_ (zAsk.fail (fun h w => ?_))
    · rw [s_X10_order]
      by_cases q : x < (-1 : Int32)
      · rw [if_pos q]
      · rw [if_neg q, wC.2.2.1, if_neg]
        rcases hx with hx | hx
        · exact absurd hx q
        · intro n
          rw [fa_lt] at n
          rw [fa_le] at hx
          omega
    · have z : s_X11_isIn x.toInt64 (-1 : Int64) (zI h 56 1 - 1).toInt64 h = some (nI 0) := by
        rw [em, k_isIn, w.2.2.2.2.1.2.1]
        rcases hx with hx | hx
        · rw [if_pos hx]
        · have : nI (pV P) - 1 < x := by
            rw [fa_le, nI_toInt (by omega)] at hx
            have e1 : (nI (pV P) - 1).toInt = (pV P : Int) - 1 := pk_sub_toInt (b := 1) (by omega) (by omega)
            rw [fa_lt, e1]
            omega
          rw [if_pos this, ite_self]
      rw [z, ob_e, if_neg (fun n => n rfl)]
      rfl
  have ok : ∀ h, zRel c h pp P L → (¬ x < nM) → (¬ nI (pV P) ≤ x) → s_X11_isIn x.toInt64 (-1 : Int64) (zI h 56 1 - 1).toInt64 h = some (nI 1) := by
    intro h w h1 h2
    rw [em, k_isIn, w.2.2.2.2.1.2.1, if_neg h1, if_neg]
    intro n
    apply h2
    have e1 : (nI (pV P) - 1).toInt = (pV P : Int) - 1 := pk_sub_toInt (b := 1) (by omega) (by omega)
    rw [fa_lt, e1] at n
    rw [fa_le, nI_toInt (by omega)]
    omega
  obtain ⟨h1, e1, f1, z1, z2⟩ := r_ord w
  have f1' : zfr zScr h h1 := f1.mo (fun b k e => by unfold zAo at e; unfold zScr; omega)
  have none1 : x = nM → zCall c h pp P (zHa (s_X10_order pp x h)) (s_X11_order x) := by
    intro ex
    subst ex
    have n1 : ¬ nM < nM := by decide
    have n2 : ¬ nI (pV P) ≤ nM := by rw [fa_le, nI_toInt (by omega), zq_toM]; omega
    have n3 : nM < nI (pV P) := zq_Mle (by omega)
    by_cases q : pV P = 0
    · refine zCall.i (v := nI 0) w ?_ f1' (zAsk.go (fun h w k4 => ⟨h, ?_, k4, zfr.rf _ h⟩))
      · rw [s_X10_order, if_neg (show ¬ nM < (-1 : Int32) by decide), wC.2.2.1, if_pos n3, r_al w, ob_e, e1, ob_e, if_neg (fun n => n rfl), z1 q]
      · rw [ok h w n1 n2, ob_e, if_pos (by decide), w.2.2.2.2.1.2.1, q, if_neg (fun n => n rfl)]
        rfl
    · refine zCall.i (v := nI (qD (pV P) (qTu P L) 0 1)) w ?_ f1' (zAsk.go (fun h w k4 => ?_))
      · rw [s_X10_order, if_neg (show ¬ nM < (-1 : Int32) by decide), wC.2.2.1, if_pos n3, r_al w, ob_e, e1, ob_e, if_neg (fun n => n rfl), (z2 (by omega)).1]
      · obtain ⟨h2, e2, f2, a2⟩ := k_to w
        refine ⟨h2, ?_, by rw [f2.i (by omega)]; exact k4, f2.mo (fun b k e => by unfold zScr; omega)⟩
        have p1 : 2 ^ 1 ≤ 2 ^ pV P := Nat.pow_le_pow_right (by omega) (by omega)
        rw [ok h w n1 n2, ob_e, if_pos (by decide), w.2.2.2.2.1.2.1, if_pos (nI_ne0 (by omega) (by omega)), e2, ob_e, if_neg (fun n => n rfl), show zI h2 75 1 = _ from a2 1 0 (by omega) (by omega) (by omega) rfl]
  rcases zq_any x (pV P) (by omega) with hx | hx | ⟨i, hi, rfl⟩
  · rcases zq_neg1 hx with hx | hx
    · exact none1 hx
    · exact bad (Or.inl hx)
  · exact bad (Or.inr hx)
  · have n1 : ¬ nI i < nM := by rw [fa_lt, nI_toInt (by omega), zq_toM]; omega
    have n2 : ¬ nI (pV P) ≤ nI i := nI_ge hi (by omega)
    have n4 : ¬ nI i = nM := by rw [fa_eq, nI_toInt (by omega), zq_toM]; omega
    refine zCall.i (v := nI (qSq (pV P) (qTu P L) i (0, 1)).1) w ?_ f1' (zAsk.go (fun h w k4 => ?_))
    · rw [s_X10_order, if_neg (show ¬ nI i < (-1 : Int32) from n1), wC.2.2.1, if_pos (nI_lt hi (by omega)), r_al w, ob_e, e1, ob_e, if_pos (show ¬ nI i = (-1 : Int32) from n4), zq_ix (by omega) (by omega), (z2 (by omega)).2 i hi]
    · obtain ⟨h2, e2, f2, a2⟩ := k_to w
      have f2' : zfr zScr h h2 := f2.mo (fun b k e => by unfold zScr; omega)
      refine ⟨h2, ?_, by rw [f2.i (by omega)]; exact k4, f2'⟩
      rw [ok h w n1 n2, ob_e, if_pos (by decide), w.2.2.2.2.1.2.1, if_pos (nI_ne0 (by omega) (by omega)), e2, ob_e, if_pos (show ¬ nI i = (-1 : Int32) from n4)]
      exact k_or2 (w.fr f2') a2 hi i 0 zfu (by omega) (zq_fu (by omega))
end OM
