/-! ===== an order of verses, in the class ===== -/
/-- what a search from (v, s) leaves -/
def qRs2 (V : Nat) (t : Nat → Nat → Nat) (h h' : zH) (a k u B v s : Nat) : Prop := (u + qD V t v s < B → zI h' 44 2 = nI (u + qD V t v s) ∧ (∀ j, j < a → zI h' 46 j = zI h 45 j) ∧ ∀ j, j < k → zI h' 46 (a + j) = nI (qSq V t (j + 1) (v, s)).1) ∧ (¬ u + qD V t v s < B → zI h' 44 2 = nI B ∧ ∀ j, zI h' 46 j = zI h 46 j)
def zAo : Nat → Nat → Prop := fun b k => b = 45 ∨ b = 46 ∨ (b = 44 ∧ k = 2)
/-- in the midst of it: the first m are through -/
def qRs3 (V : Nat) (t : Nat → Nat → Nat) (h h' : zH) (a k u B v s m : Nat) : Prop := (u + qMn (fun o => t v o + qD V t o (s ||| 2 ^ o)) (fun o => !s.testBit o) m < B → ∃ o, o < m ∧ s.testBit o = false ∧ t v o + qD V t o (s ||| 2 ^ o) = qMn (fun o => t v o + qD V t o (s ||| 2 ^ o)) (fun o => !s.testBit o) m ∧ (∀ p, p < o → s.testBit p = false → qMn (fun o => t v o + qD V t o (s ||| 2 ^ o)) (fun o => !s.testBit o) m < t v p + qD V t p (s ||| 2 ^ p)) ∧ zI h' 44 2 = nI (u + qMn (fun o => t v o + qD V t o (s ||| 2 ^ o)) (fun o => !s.testBit o) m) ∧ (∀ j, j < a → zI h' 46 j = zI h 45 j) ∧ zI h' 46 a = nI o ∧ ∀ j, j < k → zI h' 46 (a + 1 + j) = nI (qSq V t (j + 1) (o, s ||| 2 ^ o)).1) ∧ (¬ u + qMn (fun o => t v o + qD V t o (s ||| 2 ^ o)) (fun o => !s.testBit o) m < B → zI h' 44 2 = nI B ∧ ∀ j, zI h' 46 j = zI h 46 j)
section OC
variable {pp V al : Nat} {T : Nat → Nat} {h0 : zH}
theorem k_ext (hV : V ≤ 8) (ha : al < 4096) (hp : pp = 2 ∨ pp = 9) (h8 : zI h0 pp 8 = nI V) (hT : ∀ v, v < V → zI h0 (pp + 2) v = nI (T v)) : ∀ k a s v u B n h, a + k = V → 1 ≤ a → k < n → s < 2 ^ V → qCt s V = a → v < V → u ≤ 12 * a → B ≤ 96 → zfr zAo h0 h → zI h 44 2 = nI B → zI h 45 (a - 1) = nI v → ∃ h', t_X7_extendOrder n pp (nI al) (nI a) (nI s) (nI u) h = some h' ∧ (∀ j, j < a → zI h' 45 j = zI h 45 j) ∧ zfr zAo h0 h' ∧ qRs2 V (fun v o => qPc ((T v ^^^ T o) &&& al)) h h' a k u B v s := by
  have ht : ∀ v o : Nat, (fun v o => qPc ((T v ^^^ T o) &&& al)) v o ≤ 12 := fun v o => qPc_le _
  have htu : ∀ h v o, zfr zAo h0 h → v < V → o < V → s_X7_turns pp (nI al) (nI v) (nI o) h = some (nI ((fun v o => qPc ((T v ^^^ T o) &&& al)) v o)) := fun h v o f hv ho => k_turns hV (fun v hv => by rw [f.i (by unfold zAo; omega)]; exact hT v hv) ha hv ho
  generalize (fun v o => qPc ((T v ^^^ T o) &&& al)) = t at ht htu
  intro k
  induction k with
  | zero =>
    intro a s v u B n h e a1 hn hs hc hv hu hB f b2 r1
    obtain ⟨n, rfl, -⟩ := zq_suc hn
    have ea : a = V := by omega
    subst ea
    have d0 : qD a t v s = 0 := by rw [qD_eq hV hs, if_pos (qCt_all hs hc)]
    rw [show t_X7_extendOrder (n + 1) pp (nI al) (nI a) (nI s) (nI u) h = s_X7_extendOrder (t_X7_extendOrder n) pp (nI al) (nI a) (nI s) (nI u) h from rfl, s_X7_extendOrder, b2, f.i (by unfold zAo; omega), h8]
    by_cases q : u < B
    · rw [if_pos (nI_lt q (by omega)), if_pos (nI_le (Nat.le_refl _) (by omega)), s_X7_extendOrder_J12, zlt_e, show (0 : Int32) = nI 0 from rfl, show (8 : Int32) = nI 8 from rfl, zcq_e (by omega) (by omega) (by omega) (by omega)]
      generalize e1 : zwI h 44 2 (nI u) = h1
      have f1 : zfr (fun b k => b = 44 ∧ k = 2) h h1 := by rw [← e1]; exact zfr.wI _ _ _ ⟨rfl, rfl⟩
      have c1 : zI h1 44 2 = nI u := by rw [← e1, zI_wI, if_pos rfl, if_pos rfl]
      generalize e2 : zwA h1 46 (va_cpy (zI h1 45) (zI h1 46) 0 0 8) = h2
      have f2 : zfr (fun b _ => b = 46) h1 h2 := by rw [← e2]; exact (zfr.rf _ h1).cpy _ _ _ _ _ (fun _ _ _ => rfl)
      refine ⟨h2, rfl, fun j hj => ?_, (f.tr (f1.mo (fun b k e => by unfold zAo; omega))).tr (f2.mo (fun b k e => by unfold zAo; omega)), ?_⟩
      · rw [f2.i (by omega), f1.i (by omega)]
      · unfold qRs2
        rw [d0, Nat.add_zero]
        refine ⟨fun _ => ⟨?_, fun j hj => ?_, fun j hj => by omega⟩, fun n => absurd q n⟩
        · rw [f2.i (by omega)]; exact c1
        · rw [← e2, zI_cpy, if_pos (by omega), f1.i (by omega), show 0 + (j - 0) = j by omega]
    · rw [if_neg (nI_nlt (by omega) (by omega))]
      refine ⟨h, rfl, fun _ _ => rfl, f, ?_⟩
      unfold qRs2
      rw [d0, Nat.add_zero]
      exact ⟨fun n => absurd n q, fun _ => ⟨b2, fun _ => rfl⟩⟩
  | succ k ih =>
    intro a s v u B n h e a1 hn hs hc hv hu hB f b2 r1
    obtain ⟨n, rfl, hn2⟩ := zq_suc hn
    have hne : s ≠ 2 ^ V - 1 := qCt_ne (by omega)
    have hd := qD_eq (t := t) (v := v) hV hs
    rw [if_neg hne] at hd
    have bd := qD_le hV ht (k + 1) v s hs (by omega)
    have v256 := q_v8 hV
    rw [show t_X7_extendOrder (n + 1) pp (nI al) (nI a) (nI s) (nI u) h = s_X7_extendOrder (t_X7_extendOrder n) pp (nI al) (nI a) (nI s) (nI u) h from rfl, s_X7_extendOrder, b2, f.i (by unfold zAo; omega), h8]
    by_cases q : u < B
    · rw [if_pos (nI_lt q (by omega)), if_neg (nI_ge (by omega) (by omega)), if_pos (show nI a < (8 : Int32) from nI_lt (b := 8) (by omega) (by omega))]
      have loop : ∀ x m g hh, m + x = V → x < g → (∀ j, j < a → zI hh 45 j = zI h 45 j) → zfr zAo h0 hh → qRs3 V t h hh a k u B v s m → ∃ h', s_X7_extendOrder_L26 (t_X7_extendOrder n) pp g (nI al) (nI a) (nI s) (nI u) (nI m) hh = some h' ∧ (∀ j, j < a → zI h' 45 j = zI h 45 j) ∧ zfr zAo h0 h' ∧ qRs3 V t h h' a k u B v s V := by
        intro x
        induction x with
        | zero =>
          intro m g hh em hg p1 p2 p3
          obtain ⟨g, rfl, -⟩ := zq_suc hg
          have e2 : m = V := by omega
          subst e2
          refine ⟨hh, ?_, p1, p2, p3⟩
          rw [s_X7_extendOrder_L26, p2.i (by unfold zAo; omega), h8, if_pos (nI_le (Nat.le_refl _) (by omega))]
        | succ x ihx =>
          intro m g hh em hg p1 p2 p3
          obtain ⟨g, rfl, hg2⟩ := zq_suc hg
          have hm : m < V := by omega
          rw [s_X7_extendOrder_L26, p2.i (by unfold zAo; omega), h8, if_neg (nI_ge (by omega) (by omega)), show (nI s >>> (nI m &&& 31)) &&& (1 : Int32) = nI (s.testBit m).toNat from zq_bit (by omega) (by omega), show nI m + 1 = nI (m + 1) from nI_1 m]
          cases hb : s.testBit m with
          | true =>
            rw [if_pos (by decide)]
            refine ihx (m + 1) g hh (by omega) (by omega) p1 p2 ?_
            have es : qMn (fun o => t v o + qD V t o (s ||| 2 ^ o)) (fun o => !s.testBit o) (m + 1) = qMn (fun o => t v o + qD V t o (s ||| 2 ^ o)) (fun o => !s.testBit o) m := by rw [qMn, if_neg (by rw [hb]; decide)]
            unfold qRs3 at p3 ⊢
            rw [es]
            refine ⟨fun z => ?_, p3.2⟩
            obtain ⟨o, o1, o2⟩ := p3.1 z
            exact ⟨o, by omega, o2⟩
          | false =>
            rw [if_neg (fun n => n rfl), zq_ix (by omega) (by omega), zlt_e, show nI a - 1 = nI (a - 1) from zq_sub (b := 1) (by omega), zq_ix (by omega) (by omega)]
            have f1 : zfr (fun b k => b = 45 ∧ k = a) hh (zwI hh 45 a (nI m)) := zfr.wI _ _ _ ⟨rfl, rfl⟩
            have c1 : zI (zwI hh 45 a (nI m)) 45 a = nI m := by rw [zI_wI, if_pos rfl, if_pos rfl]
            generalize zwI hh 45 a (nI m) = h1 at f1 c1 ⊢
            have g1 : zfr zAo h0 h1 := p2.tr (f1.mo (fun b k e => by unfold zAo; omega))
            have tm := ht v m
            have em1 := qCt_s hm hb
            have sl := q_sol hs hm
            rw [f1.i (by omega), p1 (a - 1) (by omega), r1, htu h1 v m g1 hv hm, ob_e, show nI a + 1 = nI (a + 1) from nI_1 a, show nI s ||| ((1 : Int32) <<< (nI m &&& 31)) = nI (s ||| 2 ^ m) by rw [show (1 : Int32) <<< (nI m &&& 31) = nI (2 ^ m) from zq_shl (r := m) (by omega), fa_or], nI_add]
            have es : qMn (fun o => t v o + qD V t o (s ||| 2 ^ o)) (fun o => !s.testBit o) (m + 1) = if t v m + qD V t m (s ||| 2 ^ m) < qMn (fun o => t v o + qD V t o (s ||| 2 ^ o)) (fun o => !s.testBit o) m then t v m + qD V t m (s ||| 2 ^ m) else qMn (fun o => t v o + qD V t o (s ||| 2 ^ o)) (fun o => !s.testBit o) m := by rw [qMn, if_pos (by rw [hb]; rfl)]
            have lo := fun o (h1 : o < m) (h2 : s.testBit o = false) => qMn_le (f := fun o => t v o + qD V t o (s ||| 2 ^ o)) (p := fun o => !s.testBit o) m o h1 (by rw [h2]; rfl)
            unfold qRs3 at p3
            generalize hM : qMn (fun o => t v o + qD V t o (s ||| 2 ^ o)) (fun o => !s.testBit o) m = M at p3 es lo
            have step : ∀ B2 : Nat, B2 ≤ 96 → zI h1 44 2 = nI B2 → ((u + M < B ∧ B2 = u + M) ∨ (¬ u + M < B ∧ B2 = B)) → ∃ h', ((t_X7_extendOrder n pp (nI al) (nI (a + 1)) (nI (s ||| 2 ^ m)) (nI (u + t v m)) h1).bind fun h4 => s_X7_extendOrder_L26 (t_X7_extendOrder n) pp g (nI al) (nI a) (nI s) (nI u) (nI (m + 1)) h4) = some h' ∧ (∀ j, j < a → zI h' 45 j = zI h 45 j) ∧ zfr zAo h0 h' ∧ qRs3 V t h h' a k u B v s V := by
              intro B2 hB2 b44 alt
              obtain ⟨h2, e2, r2, g2, res⟩ := ih (a + 1) (s ||| 2 ^ m) m (u + t v m) B2 n h1 (by omega) (by omega) (by omega) sl (by omega) hm (by omega) hB2 g1 b44 (by rw [Nat.add_sub_cancel]; exact c1)
              rw [e2, ob_e]
              have row : ∀ j, j < a → zI h2 45 j = zI h 45 j := fun j hj => by rw [r2 j (by omega), f1.i (by omega)]; exact p1 j hj
              refine ihx (m + 1) g h2 (by omega) (by omega) row g2 ?_
              unfold qRs2 at res
              unfold qRs3
              rw [es]
              by_cases z : u + t v m + qD V t m (s ||| 2 ^ m) < B2
              · obtain ⟨x1, x2, x3⟩ := res.1 z
                have zz : t v m + qD V t m (s ||| 2 ^ m) < M := by rcases alt with ⟨y1, y2⟩ | ⟨y1, y2⟩ <;> omega
                rw [if_pos zz]
                refine ⟨fun _ => ⟨m, by omega, hb, rfl, fun p hp hp2 => ?_, by rw [x1, Nat.add_assoc], fun j hj => ?_, ?_, fun j hj => x3 j hj⟩, fun nn => ?_⟩
                · exact Nat.lt_of_lt_of_le zz (lo p hp hp2)
                · rw [x2 j (by omega), f1.i (by omega)]; exact p1 j hj
                · rw [x2 a (by omega)]; exact c1
                · exfalso
                  rcases alt with ⟨y1, y2⟩ | ⟨y1, y2⟩ <;> omega
              · obtain ⟨x1, x2⟩ := res.2 z
                rcases alt with ⟨y1, y2⟩ | ⟨y1, y2⟩
                · rw [if_neg (by omega)]
                  refine ⟨fun _ => ?_, fun nn => absurd y1 nn⟩
                  obtain ⟨o, o1, o2, o3, o4, o5, o6, o7, o8⟩ := p3.1 y1
                  refine ⟨o, by omega, o2, o3, o4, by rw [x1, y2], fun j hj => ?_, ?_, fun j hj => ?_⟩
                  · rw [x2, f1.i (by omega)]; exact o6 j hj
                  · rw [x2, f1.i (by omega)]; exact o7
                  · rw [x2, f1.i (by omega)]; exact o8 j hj
                · have nb : ¬ u + (if t v m + qD V t m (s ||| 2 ^ m) < M then t v m + qD V t m (s ||| 2 ^ m) else M) < B := by split <;> omega
                  refine ⟨fun y => absurd y nb, fun _ => ⟨by rw [x1, y2], fun j => ?_⟩⟩
                  rw [x2, f1.i (by omega)]
                  exact (p3.2 y1).2 j
            by_cases z : u + M < B
            · obtain ⟨o, o1, o2, o3, o4, o5, -⟩ := p3.1 z
              exact step (u + M) (by omega) (by rw [f1.i (by omega)]; exact o5) (Or.inl ⟨z, rfl⟩)
            · exact step B hB (by rw [f1.i (by omega)]; exact (p3.2 z).1) (Or.inr ⟨z, rfl⟩)
      obtain ⟨h', e1, p1, p2, p3⟩ := loop V 0 zfu h (by omega) (zq_fu (by omega)) (fun _ _ => rfl) f (by
        unfold qRs3
        rw [qMn]
        exact ⟨fun z => by omega, fun _ => ⟨b2, fun _ => rfl⟩⟩)
      refine ⟨h', e1, p1, p2, ?_⟩
      unfold qRs3 at p3
      rw [← hd] at p3
      refine ⟨fun z => ?_, p3.2⟩
      obtain ⟨o, o1, o2, o3, o4, o5, o6, o7, o8⟩ := p3.1 z
      have en : qNx V t v s = o := by
        refine fa_first_eq ?_ (fun p hp => ?_) o1
        · unfold qNp
          rw [o2, decide_eq_true o3]; rfl
        · unfold qNp
          cases hb : s.testBit p with
          | true => rfl
          | false =>
            have := o4 p hp hb
            rw [decide_eq_false (by omega)]; rfl
      have est : qSt2 V t (v, s) = (o, s ||| 2 ^ o) := by
        show (qNx V t v s, s ||| 2 ^ qNx V t v s) = _
        rw [en]
      refine ⟨o5, o6, fun j hj => ?_⟩
      rw [qSq, est]
      cases j with
      | zero => rw [qSq]; exact o7
      | succ j => rw [show a + (j + 1) = a + 1 + j by omega]; exact o8 j (by omega)
    · rw [if_neg (nI_nlt (by omega) (by omega))]
      refine ⟨h, rfl, fun _ _ => rfl, f, ⟨fun z => by omega, fun _ => ⟨b2, fun _ => rfl⟩⟩⟩
end OC
