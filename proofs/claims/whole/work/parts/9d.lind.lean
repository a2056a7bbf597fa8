/-! ===== lines in the class ===== -/
section LD
variable {h0 h h1 : zH} {B : Nat → Nat} {N tp x : Nat} {D : zDf} {A : Nat → Nat → Prop}
theorem zLo_b {F : Option (Int32 × zH)} {r : pRd} (h : zLo h0 B N tp F r) : zLo h0 B N tp (zbd F fun v7 h6 => some (v7, h6)) r := by
  cases r with
  | inl p =>
    obtain ⟨h6, b1, b2, b3⟩ := h
    exact ⟨h6, by rw [b1, zbd_e], b2, b3⟩
  | inr p =>
    obtain ⟨h6, b1, b2⟩ := h
    exact ⟨h6, by rw [b1, zbd_e], b2⟩
theorem x_ver (w : zTbc h0 B N) (hp : tp = 2 ∨ tp = 9) (s : zLs h0 B N tp h x D) (hx : x ≤ N) (ok : dOk D x) : zLo h0 B N tp (s_X4_readVerse tp h) (pVer B N D x) := by
  have hN := w.1
  obtain ⟨s1, s2, s3⟩ := id s
  have r8 := ok.2.2.2.1
  have e2 := (tE_le (B := B) hx).2.1
  unfold pVer
  rw [s_X4_readVerse, s3.2.2.1]
  by_cases q : dV D = 8
  · rw [if_neg (show ¬ nI (dV D) < (8 : Int32) by rw [q]; decide), if_pos q]
    exact ⟨h, rfl, s2.1, s1⟩
  · rw [if_pos (show nI (dV D) < (8 : Int32) from nI_lt (b := 8) (by omega) (by omega)), if_neg q]
    obtain ⟨h2, g2, t2⟩ := x_adv w hp s hx
    have nb := pNc_b (B := B) (N := N) 4095 (tE B N x)
    rw [g2, ob_e, show s_X4_checkNumber tp (4095 : Int32) h2 = _ from x_chk t2.2.1 e2 hN (top := 4095) (by omega), ob_e]
    by_cases q0 : pNc B N 4095 (tE B N x) = 0
    · obtain ⟨k1, k2, k3⟩ := pNc_0 q0
      have e4 := (tE_le (B := B) e2).2.1
      obtain ⟨u1, u2, u3⟩ := id t2
      obtain ⟨v1, v2, v3, v4, v5, v6, v7, v8, v9, v10, v11⟩ := id u3
      rw [q0, if_pos (show nI 0 = 0 from rfl), if_pos rfl, v3, zq_ix (by omega) (by omega), zlt_e, zlt_e, u2.2.2.2 k1, zI_wI, if_neg (by omega), v3, show nI (dV D) + 1 = nI (dV D + 1) from nI_1 _]
      have f3 : zfr (fun b k => (b = tp + 2 ∧ k = dV D) ∨ (b = tp ∧ k = 8)) h2 (zwI (zwI h2 (tp + 2) (dV D) (nI (tV B N (tE B N x)))) tp 8 (nI (dV D + 1))) := (zfr.wI (tp + 2) _ _ (Or.inl ⟨rfl, rfl⟩)).w tp 8 _ (Or.inr ⟨rfl, rfl⟩)
      have c3 : zI (zwI (zwI h2 (tp + 2) (dV D) (nI (tV B N (tE B N x)))) tp 8 (nI (dV D + 1))) (tp + 2) (dV D) = nI (tV B N (tE B N x)) := by rw [zI_wI, if_neg (by omega), zI_wI, if_pos rfl, if_pos rfl]
      have c8 : zI (zwI (zwI h2 (tp + 2) (dV D) (nI (tV B N (tE B N x)))) tp 8 (nI (dV D + 1))) tp 8 = nI (dV D + 1) := by rw [zI_wI, if_pos rfl, if_pos rfl]
      generalize zwI (zwI h2 (tp + 2) (dV D) (nI (tV B N (tE B N x)))) tp 8 (nI (dV D + 1)) = h4 at f3 c3 c8 ⊢
      have s4 : zLs h0 B N tp h4 (tE B N x) (dR D, dJ D, dS D, dV D + 1, zu (dT D) (dV D) (tV B N (tE B N x)), dk D, dl D, dcl D, dC D, dW D) := by
        refine ⟨u1.tr (f3.mo (fun b k e => by unfold zAl; omega)), u2.fr f3 (fun b k e => by omega), ?_, ?_, c8, ?_, ?_, fun r hr => ?_, fun v hv => ?_, ?_, ?_, ?_, ?_⟩
        · rw [f3.i (by omega)]; exact v1
        · rw [f3.i (by omega)]; exact v2
        · rw [f3.i (by omega)]; exact v4
        · rw [f3.i (by omega)]; exact v5
        · rw [f3.i (by omega)]; exact v6 r hr
        · have hv : v < dV D + 1 := hv
          show zI h4 (tp + 2) v = nI (zu (dT D) (dV D) (tV B N (tE B N x)) v)
          by_cases z : v = dV D
          · rw [z, zu_eq]; exact c3
          · rw [zu_ne _ _ z, f3.i (by omega)]; exact v7 v (by omega)
        · rw [f3.i (by omega)]; exact v8
        · rw [f3.i (by omega)]; exact v9
        · exact v10.fr f3 (fun k => by omega) (fun k _ => by omega) (Nat.le_refl _)
        · exact v11.fr f3 (fun k => by omega) (fun k _ => by omega) (Nat.le_refl _)
      obtain ⟨h5, g5, s5⟩ := x_adv w hp s4 e2
      rw [g5, ob_e]
      exact zLo_b (x_end w hp s5 e4)
    · rw [if_neg (nI_ne0 (by omega) (by omega)), if_neg q0]
      exact ⟨h2, rfl, t2.2.1.1, t2.1⟩
/-- a draft whose skills are others -/
theorem x_sk (hp : tp = 2 ∨ tp = 9) (s : zLs h0 B N tp h x D) {k v : Nat} (hk : k < 2) {E : zDf} (eE : E = (dR D, dJ D, dS D, dV D, dT D, (if k = 0 then v else dk D), (if k = 0 then dl D else v), dcl D, dC D, dW D)) : zLs h0 B N tp (zwI h (tp + 3) k (nI v)) x E := by
  obtain ⟨u1, u2, v1, v2, v3, v4, v5, v6, v7, v8, v9, v10, v11⟩ := s
  subst eE
  have f3 : zfr (fun b j => b = tp + 3 ∧ j = k) h (zwI h (tp + 3) k (nI v)) := zfr.wI _ _ _ ⟨rfl, rfl⟩
  have c3 : zI (zwI h (tp + 3) k (nI v)) (tp + 3) k = nI v := by rw [zI_wI, if_pos rfl, if_pos rfl]
  generalize zwI h (tp + 3) k (nI v) = h4 at f3 c3 ⊢
  refine ⟨u1.tr (f3.mo (fun b k e => by unfold zAl; omega)), u2.fr f3 (fun b k e => by omega), ?_, ?_, ?_, ?_, ?_, fun r hr => ?_, fun v hv => ?_, ?_, ?_, ?_, ?_⟩
  · rw [f3.i (by omega)]; exact v1
  · rw [f3.i (by omega)]; exact v2
  · rw [f3.i (by omega)]; exact v3
  · rw [f3.i (by omega)]; exact v4
  · rw [f3.i (by omega)]; exact v5
  · rw [f3.i (by omega)]; exact v6 r hr
  · rw [f3.i (by omega)]; exact v7 v hv
  · show zI h4 (tp + 3) 0 = nI (if k = 0 then v else dk D)
    by_cases z : k = 0
    · rw [if_pos z, ← z]; exact c3
    · rw [if_neg z, f3.i (by omega)]; exact v8
  · show zI h4 (tp + 3) 1 = nI (if k = 0 then dl D else v)
    by_cases z : k = 0
    · rw [if_pos z, f3.i (by omega)]; exact v9
    · rw [if_neg z, ← show k = 1 by omega]; exact c3
  · exact v10.fr f3 (fun k => by omega) (fun k _ => by omega) (Nat.le_refl _)
  · exact v11.fr f3 (fun k => by omega) (fun k _ => by omega) (Nat.le_refl _)
theorem x_cla (w : zTbc h0 B N) (hp : tp = 2 ∨ tp = 9) (s : zLs h0 B N tp h x D) (hx : x ≤ N) : zLo h0 B N tp (s_X4_readClans tp h) (pCla B N D x) := by
  have hN := w.1
  obtain ⟨s1, s2, s3⟩ := id s
  obtain ⟨c1, c2, c3, c4, c5, c6, c7, c8, c9, c10, c11⟩ := id s3
  have e2 := (tE_le (B := B) hx).2.1
  unfold pCla
  rw [s_X4_readClans, c5]
  cases hq : dcl D with
  | true =>
    rw [if_neg (by decide), if_pos rfl]
    exact ⟨h, rfl, s2.1, s1⟩
  | false =>
    rw [if_pos (show nI false.toNat = 0 from rfl), if_neg (by decide), zlt_e]
    have f1 : zfr (fun b k => b = tp ∧ k = 10) h (zwI h tp 10 (1 : Int32)) := zfr.wI _ _ _ ⟨rfl, rfl⟩
    have d1 : zI (zwI h tp 10 (1 : Int32)) tp 10 = nI true.toNat := by rw [zI_wI, if_pos rfl, if_pos rfl]; rfl
    generalize zwI h tp 10 (1 : Int32) = h1 at f1 d1 ⊢
    have t1 : zLs h0 B N tp h1 x (dR D, dJ D, dS D, dV D, dT D, dk D, dl D, true, dC D, dW D) := by
      refine ⟨s1.tr (f1.mo (fun b k e => by unfold zAl; omega)), s2.fr f1 (fun b k e => by omega), ?_, ?_, ?_, ?_, d1, fun r hr => ?_, fun v hv => ?_, ?_, ?_, ?_, ?_⟩
      · rw [f1.i (by omega)]; exact c1
      · rw [f1.i (by omega)]; exact c2
      · rw [f1.i (by omega)]; exact c3
      · rw [f1.i (by omega)]; exact c4
      · rw [f1.i (by omega)]; exact c6 r hr
      · rw [f1.i (by omega)]; exact c7 v hv
      · rw [f1.i (by omega)]; exact c8
      · rw [f1.i (by omega)]; exact c9
      · exact c10.fr f1 (fun k => by omega) (fun k _ => by omega) (Nat.le_refl _)
      · exact c11.fr f1 (fun k => by omega) (fun k _ => by omega) (Nat.le_refl _)
    obtain ⟨h2, g2, t2⟩ := x_adv w hp t1 hx
    obtain ⟨z, ez⟩ := b_zf
    obtain ⟨z2, ez2, -⟩ := zq_suc (show 0 < z by have : 2 < zfu := zq_fu (by omega); omega)
    obtain ⟨z3, ez3, -⟩ := zq_suc (show 0 < z2 by have : 3 < zfu := zq_fu (by omega); omega)
    have nb := pNc_b (B := B) (N := N) 9 (tE B N x)
    have nb2 := pNc_b (B := B) (N := N) 9 (tE B N (tE B N x))
    rw [g2, ob_e, ez, s_X4_readClans_L14, if_neg (by decide), show s_X4_checkNumber tp (9 : Int32) h2 = _ from x_chk t2.2.1 e2 hN (top := 9) (by omega), ob_e]
    by_cases q0 : pNc B N 9 (tE B N x) = 0
    · obtain ⟨k1, k2, k3⟩ := pNc_0 q0
      have e4 := (tE_le (B := B) e2).2.1
      rw [q0, if_pos (show nI 0 = 0 from rfl), if_pos rfl, show (0 : Int32) = nI 0 from rfl, zq_ix (by omega) (by omega), zlt_e, t2.2.1.2.2.2 k1]
      have t3 := x_sk hp t2 (k := 0) (v := tV B N (tE B N x)) (by omega) rfl
      generalize zwI h2 (tp + 3) 0 (nI (tV B N (tE B N x))) = h3 at t3 ⊢
      obtain ⟨h4, g4, t4⟩ := x_adv w hp t3 e2
      rw [g4, ob_e, ez2, s_X4_readClans_L14, show nI 0 + (1 : Int32) = nI 1 from rfl, if_neg (by decide), show s_X4_checkNumber tp (9 : Int32) h4 = _ from x_chk t4.2.1 e4 hN (top := 9) (by omega), ob_e]
      by_cases q2 : pNc B N 9 (tE B N (tE B N x)) = 0
      · obtain ⟨j1, j2, j3⟩ := pNc_0 q2
        have e6 := (tE_le (B := B) e4).2.1
        rw [q2, if_pos (show nI 0 = 0 from rfl), if_pos rfl, zq_ix (by omega) (by omega), zlt_e, t4.2.1.2.2.2 j1]
        have t5 := x_sk hp t4 (k := 1) (v := tV B N (tE B N (tE B N x))) (by omega) rfl
        generalize zwI h4 (tp + 3) 1 (nI (tV B N (tE B N (tE B N x)))) = h5 at t5 ⊢
        obtain ⟨h6, g6, t6⟩ := x_adv w hp t5 e4
        rw [g6, ob_e, ez3, s_X4_readClans_L14, show nI 1 + (1 : Int32) = nI 2 from rfl, if_pos (by decide)]
        exact zLo_b (x_end w hp t6 e6)
      · rw [if_neg (nI_ne0 (by omega) (by omega)), if_neg q2]
        exact ⟨h4, rfl, t4.2.1.1, t4.1⟩
    · rw [if_neg (nI_ne0 (by omega) (by omega)), if_neg q0]
      exact ⟨h2, rfl, t2.2.1.1, t2.1⟩
theorem x_rul (w : zTbc h0 B N) (hp : tp = 2 ∨ tp = 9) (s : zLs h0 B N tp h x D) (hx : x ≤ N) (ok : dOk D x) {wv : Bool} (hk : tW B N x (if wv = true then 17 else 6) = true) : zLo h0 B N tp (s_X4_readRule tp (tp + (if wv = true then 6 else 5)) (nI (if wv = true then 0 else 1)) h) (pRul B N wv D x) := by
  have hN := w.1
  obtain ⟨s1, s2, s3⟩ := id s
  obtain ⟨c1, c2, c3, c4, c5, c6, c7, c8, c9, c10, c11⟩ := id s3
  have e1 := tE_le (B := B) hx
  have k2 := tW_k hk
  have x4 : x + 4 ≤ tE B N x := by
    have p1 := tP_le (B := B) hx
    have := (of_decide_eq_true hk).2.1
    have l4 : 4 ≤ zbl zTX (if wv = true then 17 else 6) := by cases wv <;> decide +kernel
    omega
  have hru : ∃ ru, ru = tp + (if wv = true then 6 else 5) ∧ (ru = tp + 5 ∨ ru = tp + 6) := ⟨_, rfl, by cases wv <;> simp⟩
  obtain ⟨ru, eru, hru⟩ := hru
  have told : zI h ru 0 = nI (if dRu wv D = [] then 0 else 1) := by
    rw [eru]
    cases wv
    · exact c10.1
    · exact c11.1
  have hc := ok.2.2.2.2.2.2.2.2.2
  generalize hc0 : (dC D).length + (dW D).length = c0 at c4 hc
  unfold pRul
  rw [← eru, s_X4_readRule, told]
  by_cases q : dRu wv D = []
  · rw [if_pos (show nI (if dRu wv D = [] then 0 else 1) = 0 by rw [if_pos q]; rfl), if_pos q, zlt_e, zlt_e]
    rw [show zI (zwI h ru 0 (1 : Int32)) tp 9 = nI c0 by rw [zI_wI, if_neg (by omega)]; exact c4]
    have zb : ∀ X : Option (Int32 × zH), zbo (nI (if wv = true then 0 else 1)) X = X := by intro X; cases wv <;> rfl
    rw [zb, zlt_e, zlt_e, zlt_e]
    generalize hh5 : zwI (zwI (zwI (zwI (zwI h ru 0 (1 : Int32)) ru 1 (nI c0)) 16 11 (nI (if wv = true then 0 else 1))) 16 8 (0 : Int32)) 16 9 (0 : Int32) = h5
    have f5 : zfr (fun b k => (b = ru ∧ k ≤ 1) ∨ (b = 16 ∧ (k = 8 ∨ k = 9 ∨ k = 11))) h h5 := by
      rw [← hh5]
      exact ((((zfr.wI ru 0 _ (by omega)).w ru 1 _ (by omega)).w 16 11 _ (by omega)).w 16 8 _ (by omega)).w 16 9 _ (by omega)
    have r0 : zI h5 ru 0 = nI 1 := by rw [← hh5, zI_wI, if_neg (by omega), zI_wI, if_neg (by omega), zI_wI, if_neg (by omega), zI_wI, if_pos rfl, if_neg (by decide), zI_wI, if_pos rfl, if_pos rfl]; rfl
    have r1 : zI h5 ru 1 = nI c0 := by rw [← hh5, zI_wI, if_neg (by omega), zI_wI, if_neg (by omega), zI_wI, if_neg (by omega), zI_wI, if_pos rfl, if_pos rfl]
    have r11 : zI h5 16 11 = nI (if wv = true then 0 else 1) := by rw [← hh5, zI_wI, if_pos rfl, if_neg (by decide), zI_wI, if_pos rfl, if_neg (by decide), zI_wI, if_pos rfl, if_pos rfl]
    have r8 : zI h5 16 8 = nI 0 := by rw [← hh5, zI_wI, if_pos rfl, if_neg (by decide), zI_wI, if_pos rfl, if_pos rfl]; rfl
    have r9 : zI h5 16 9 = nI 0 := by rw [← hh5, zI_wI, if_pos rfl, if_pos rfl]; rfl
    have bc : zBc wv h5 B N tp := ⟨(x_tb w hp s1).fr f5 (fun b k e => by omega), r11, hp⟩
    have cs5 : zCS h5 B N tp c0 h5 x [] [] 0 := ⟨zfr.rf _ _, s2.fr f5 (fun b k e => by omega), r8, fun i hi => absurd hi (Nat.not_lt_zero i), r9, by rw [f5.i (by omega)]; exact c4, fun i hi => absurd hi (Nat.not_lt_zero i)⟩
    obtain ⟨h6, g6, s6, d6⟩ := v_exp bc cs5 (nf := 1) (by omega)
    rw [show s_X4_expectPart tp (1 : Int32) h5 = some h6 from g6, ob_e, zlt_e]
    have f7 : zfr (fun b k => b = 16 ∧ k = 14) h6 (zwI h6 16 14 (1 : Int32)) := zfr.wI _ _ _ ⟨rfl, rfl⟩
    have b7 : zI (zwI h6 16 14 (1 : Int32)) 16 14 = nI 1 := by rw [zI_wI, if_pos rfl, if_pos rfl]; rfl
    generalize zwI h6 16 14 (1 : Int32) = h7 at f7 b7 ⊢
    have s7 := s6.fr bc f7 (fun b k e => by omega)
    obtain ⟨h8, g8, s8, f8⟩ := v_adv bc s7 hx
    have d8 : zDu h8 1 0 1 := by
      obtain ⟨u1, u2, u3, u4⟩ := d6
      exact ⟨by rw [f8.i (by omega), f7.i (by omega)]; exact u1, by rw [f8.i (by omega), f7.i (by omega)]; exact u2, by rw [f8.i (by omega), f7.i (by omega)]; exact u3, by rw [f8.i (by omega)]; exact b7⟩
    have hM : 800 ≤ zfu := Nat.le_of_lt (zq_fu (by omega))
    have r := v_ex (c0 := c0) (ru := ru) (M := zfu) bc hM 9 0 (by omega) (by omega) h8 (tE B N x) [] [] 0 1 0 1 s8 d8 ⟨rfl, rfl, rfl⟩ ⟨fun o ho => absurd ho (by simp), fun V o e => by simp at e⟩ (by simp) (by omega) e1.2.1 (by simp only [List.length_nil]; omega)
    have gG := pEx_G (wv := wv) (B := B) (N := N) 9 0 (tE B N x) e1.2.1
    have gZ := pEx_Z (wv := wv) (B := B) (N := N) 9 0 (tE B N x) e1.2.1
    have eg : s_X4_readRule_L32 tp ru zfu (0 : Int32) h8 = pGo tp ru zfu 0 h8 := by
      unfold pGo
      rw [Nat.sub_zero]
      rfl
    rw [g8, ob_e, eg]
    have out : ∀ h9, zfr (zAr tp c0) h5 h9 → zfr (zAl tp) h0 h9 := fun h9 f9 => (s1.tr (f5.mo (fun b k e => by unfold zAl; omega))).tr (f9.mo (fun b k e => by unfold zAr at e; unfold zAl; omega))
    cases hp9 : pEx wv B N 9 0 (tE B N x) with
    | inl p =>
      rw [hp9] at r
      obtain ⟨h9, b1, b2, b3⟩ := r
      exact ⟨h9, b1, b2, out h9 b3⟩
    | inr p =>
      rw [hp9] at r gG gZ
      obtain ⟨h9, i9, S, D9, b1, b2, b3, b4, b5, b6, b7, b8⟩ := r
      obtain ⟨l1, l2, l3⟩ := gG
      obtain ⟨z1, z2, z3, z4⟩ := gZ p.1 p.2 rfl
      rw [List.nil_append] at b2
      have ld : p.2.length = D9.length + S.length := by rw [← b4, List.length_append, pFl_len]
      have b2' : zCS h5 B N tp c0 h9 p.1 ([] ++ S) D9 0 := by rw [List.nil_append]; exact b2
      have lS : ([] ++ S : List Nat).length ≤ 100 := by rw [List.nil_append]; omega
      show zLo h0 B N tp _ (pEnd B N (dPut wv D p.2) p.1)
      unfold pEnd
      rw [b1]
      cases h59 : tM B N p.1 59 with
      | false =>
        rw [if_neg (by decide)]
        obtain ⟨h10, y1, y2, y3⟩ := v_end (ru := ru) bc hM (show i9 < 700 by omega) b2' l2 (by omega) b3 (Or.inr ⟨rfl, h59⟩) z4 z3 z2 z1 b8 (fun o ho => (b5 o ho).1) lS (fun o ho => absurd ho (by simp)) (by omega)
        exact ⟨h10, y1, y2, out h10 y3⟩
      | true =>
        rw [if_pos rfl]
        obtain ⟨h10, y1, y2, y3⟩ := v_wo0 bc (r := 1) (by omega) b2' b5 ⟨fun o ho => absurd ho (by simp), fun V o e => by simp at e⟩ lS (by omega)
        rw [b4] at y2
        have f11 : zfr (fun b k => b = ru ∧ k = 2) h10 (zwI h10 ru 2 (nI (c0 + p.2.length))) := zfr.wI _ _ _ ⟨rfl, rfl⟩
        have r2 : zI (zwI h10 ru 2 (nI (c0 + p.2.length))) ru 2 = nI (c0 + p.2.length) := by rw [zI_wI, if_pos rfl, if_pos rfl]
        have tb9 := bc.tb b2
        have e10 : pGo tp ru zfu i9 h9 = ((s_X4_advance tp (zwI h10 ru 2 (nI (c0 + p.2.length)))).bind fun h4 => some ((0 : Int32), h4)) := by
          unfold pGo
          obtain ⟨m, em⟩ : ∃ m, zfu - i9 = m + 1 := ⟨zfu - i9 - 1, by omega⟩
          rw [em, s_X4_readRule_L32, if_neg (show ¬ (700 : Int32) ≤ nI i9 from nI_ge (b := 700) (by omega) (by omega)), b3, if_neg (fun n => n rfl), b2.2.2.2.2.1, if_neg (fun n => n rfl), show s_X4_isSign tp (59 : Int32) h9 = _ from k_isS tb9 b2.2.1 l2 (c := 59) (by omega), ob_e, h59, if_neg (by decide), show s_X4_workOut tp (1 : Int32) h9 = some h10 from y1, ob_e, zlt_e, y2.2.2.2.2.2.1]
        generalize zwI h10 ru 2 (nI (c0 + p.2.length)) = h11 at f11 r2 e10
        have fr11 : zfr (zAl tp) h0 h11 := (out h10 y2.1).tr (f11.mo (fun b k e => by unfold zAl; omega))
        have F : zfr (fun b k => (b = ru ∧ k ≤ 2) ∨ (b = 16) ∨ b = 17 ∨ (b = tp ∧ k = 9) ∨ (b = tp + 4 ∧ c0 ≤ k)) h h11 := ((f5.mo (fun b k e => by omega)).tr (y2.1.mo (fun b k e => by unfold zAr at e; omega))).tr (f11.mo (fun b k e => by omega))
        have ok9 := pEx_ok (wv := wv) hN e1.2.1 hp9
        have rv : zRv h11 tp ru p.2 (c0 + p.2.length) := by
          refine ⟨?_, fun _ => ⟨c0, Nat.le_refl _, ?_, r2, fun i hi => ?_⟩⟩
          · rw [if_neg ok9.1, f11.i (by omega), y2.1.i (by unfold zAr; omega)]; exact r0
          · rw [f11.i (by omega), y2.1.i (by unfold zAr; omega)]; exact r1
          · rw [f11.i (by omega)]; exact y2.2.2.2.2.2.2 i hi
        have s11 : zLs h0 B N tp h11 p.1 (dPut wv D p.2) := by
          have cn : (dC (dPut wv D p.2)).length + (dW (dPut wv D p.2)).length = c0 + p.2.length := by
            cases wv
            · have q : dC D = [] := q
              show p.2.length + (dW D).length = c0 + p.2.length
              rw [q] at hc0
              have : 0 + (dW D).length = c0 := hc0
              omega
            · have q : dW D = [] := q
              show (dC D).length + p.2.length = c0 + p.2.length
              rw [q] at hc0
              have : (dC D).length + 0 = c0 := hc0
              omega
          refine ⟨fr11, y2.2.1.fr f11 (fun b k e => by omega), ?_, ?_, ?_, ?_, ?_, fun r hr => ?_, fun v hv => ?_, ?_, ?_, ?_, ?_⟩
          · rw [F.i (by omega)]; exact c1
          · rw [F.i (by omega)]; exact c2
          · rw [F.i (by omega)]; exact c3
          · rw [cn, f11.i (by omega)]; exact y2.2.2.2.2.2.1
          · rw [F.i (by omega)]; exact c5
          · rw [F.i (by omega)]; exact c6 r hr
          · rw [F.i (by omega)]; exact c7 v hv
          · rw [F.i (by omega)]; exact c8
          · rw [F.i (by omega)]; exact c9
          · rw [cn]
            cases wv
            · rw [show tp + 5 = ru by rw [eru]; rfl]; exact rv
            · have : ru = tp + 6 := eru
              exact c10.fr F (fun k => by omega) (fun k hk => by omega) (by omega)
          · rw [cn]
            cases wv
            · have : ru = tp + 5 := eru
              exact c11.fr F (fun k => by omega) (fun k hk => by omega) (by omega)
            · rw [show tp + 6 = ru by rw [eru]; rfl]; exact rv
        obtain ⟨h12, g12, s12⟩ := x_adv w hp s11 l2
        rw [e10, g12, ob_e]
        exact ⟨h12, rfl, s12⟩
  · rw [if_neg (show ¬ nI (if dRu wv D = [] then 0 else 1) = 0 by rw [if_neg q]; decide), if_neg q]
    exact ⟨h, rfl, s2.1, s1⟩
/-- the loop over lines -/
theorem x_lo (w : zTbc h0 B N) (hp : tp = 2 ∨ tp = 9) : ∀ f x D h i n, N - x < f → f < n → zLs h0 B N tp h x D → x ≤ N → dOk D x → i ≤ x → (match pLo B N f x D with
    | Sum.inl q => ∃ h', s_X4_read_L18 tp n (0 : Int32) (nI i) h = some (nI q.1, h') ∧ zI h' 16 3 = nI q.2 ∧ zfr (zAl tp) h0 h'
    | Sum.inr E => ∃ h', s_X4_read_L18 tp n (0 : Int32) (nI i) h = some (nI 0, h') ∧ zDC h' tp E ∧ zfr (zAl tp) h0 h') ∧ ∀ q, pLo B N f x D = Sum.inl q → 1 ≤ q.1 ∧ q.1 ≤ 5 := by
  have hN := w.1
  intro f
  induction f with
  | zero => intro x D h i n h1; omega
  | succ f ih =>
    intro x D h i n h1 h2 s hx ok hi
    obtain ⟨n, rfl, hn2⟩ := zq_suc h2
    have tb := x_tb w hp s.1
    have hkl := tK_le (B := B) (N := N) (x := x)
    rw [pLo, s_X4_read_L18]
    by_cases q : tK B N x = 0
    · rw [if_pos q]
      refine ⟨⟨h, ?_, s.2.2, s.1⟩, fun p e => by cases e⟩
      rw [s.2.1.2.2.1, q]
      by_cases z : (700 : Int32) ≤ nI i
      · rw [if_pos z]; rfl
      · rw [if_neg z, if_pos (show nI 0 = 0 from rfl)]; rfl
    · rw [if_neg q]
      have pl := (tK_p (B := B) (N := N) (x := x) q).1
      have xl := (tP_le (B := B) hx).1
      rw [if_neg (show ¬ (700 : Int32) ≤ nI i from nI_ge (b := 700) (by omega) (by omega)), s.2.1.2.2.1, if_neg (nI_ne0 (by omega) (by omega)), if_neg (fun n => n rfl), show nI i + 1 = nI (i + 1) from nI_1 i]
      have pk := pLine_k (B := B) hN hx q ok
      have go : ∀ F : Option (Int32 × zH), zLo h0 B N tp F (pLine B N D x) → (match (match pLine B N D x with
          | Sum.inl q => (Sum.inl q : (Nat × Nat) ⊕ zDf)
          | Sum.inr q => pLo B N f q.1 q.2) with
          | Sum.inl q => ∃ h', (zbd F fun v h7 => s_X4_read_L18 tp n v (nI (i + 1)) h7) = some (nI q.1, h') ∧ zI h' 16 3 = nI q.2 ∧ zfr (zAl tp) h0 h'
          | Sum.inr E => ∃ h', (zbd F fun v h7 => s_X4_read_L18 tp n v (nI (i + 1)) h7) = some (nI 0, h') ∧ zDC h' tp E ∧ zfr (zAl tp) h0 h') ∧ ∀ q, (match pLine B N D x with
          | Sum.inl q => (Sum.inl q : (Nat × Nat) ⊕ zDf)
          | Sum.inr q => pLo B N f q.1 q.2) = Sum.inl q → 1 ≤ q.1 ∧ q.1 ≤ 5 := by
        intro F r
        cases hl : pLine B N D x with
        | inl p =>
          rw [hl] at r pk
          obtain ⟨h3, b1, b2, b3⟩ := r
          refine ⟨⟨h3, ?_, b2, b3⟩, fun p2 e => by cases e; exact pk⟩
          obtain ⟨m, rfl, -⟩ := zq_suc (show f < n by omega)
          have p1 := pk.1
          have p5 := pk.2
          rw [b1, zbd_e, s_X4_read_L18]
          by_cases z : (700 : Int32) ≤ nI (i + 1)
          · rw [if_pos z]
          · rw [if_neg z]
            by_cases z2 : zI h3 16 5 = 0
            · rw [if_pos z2]
            · rw [if_neg z2, if_pos (nI_ne0 (by omega) (by omega))]
        | inr p =>
          rw [hl] at r pk
          obtain ⟨h3, b1, b2⟩ := r
          obtain ⟨l1, l2, l3⟩ := pk
          rw [b1, zbd_e]
          exact ih p.1 p.2 h3 (i + 1) n (by omega) (by omega) b2 l2 l3 (by omega)
      have W := fun d hd => k_isW (tp := tp) tb s.2.1 hx (d := d) hd
      rw [W 2 (by omega), ob_e, W 3 (by omega), ob_e, W 4 (by omega), ob_e, W 5 (by omega), ob_e, W 6 (by omega), ob_e, W 17 (by omega), ob_e]
      have eL : pLine B N D x = pLine B N D x := rfl
      conv at eL => rhs; unfold pLine
      cases w2 : tW B N x 2 with
      | true =>
        rw [w2, if_pos rfl] at eL
        rw [if_neg (by decide)]
        exact go _ (by rw [eL]; exact x_rib w hp s hx q ok (jw := 0) (by omega))
      | false =>
        rw [w2, if_neg (by decide)] at eL
        rw [if_pos (show nI false.toNat = 0 from rfl)]
        cases w3 : tW B N x 3 with
        | true =>
          rw [w3, if_pos rfl] at eL
          rw [if_neg (by decide)]
          exact go _ (by rw [eL]; exact x_rib w hp s hx q ok (jw := 1) (by omega))
        | false =>
          rw [w3, if_neg (by decide)] at eL
          rw [if_pos (show nI false.toNat = 0 from rfl)]
          cases w4 : tW B N x 4 with
          | true =>
            rw [w4, if_pos rfl] at eL
            rw [if_neg (by decide)]
            exact go _ (by rw [eL]; exact x_cla w hp s hx)
          | false =>
            rw [w4, if_neg (by decide)] at eL
            rw [if_pos (show nI false.toNat = 0 from rfl)]
            cases w5 : tW B N x 5 with
            | true =>
              rw [w5, if_pos rfl] at eL
              rw [if_neg (by decide)]
              exact go _ (by rw [eL]; exact x_ver w hp s hx ok)
            | false =>
              rw [w5, if_neg (by decide)] at eL
              rw [if_pos (show nI false.toNat = 0 from rfl)]
              cases w6 : tW B N x 6 with
              | true =>
                rw [w6, if_pos rfl] at eL
                rw [if_neg (by decide)]
                exact go _ (by rw [eL]; exact x_rul (wv := false) w hp s hx ok w6)
              | false =>
                rw [w6, if_neg (by decide)] at eL
                rw [if_pos (show nI false.toNat = 0 from rfl)]
                cases w17 : tW B N x 17 with
                | true =>
                  rw [w17, if_pos rfl] at eL
                  rw [if_neg (by decide)]
                  exact go _ (by rw [eL]; exact x_rul (wv := true) w hp s hx ok w17)
                | false =>
                  rw [w17, if_neg (by decide)] at eL
                  rw [if_pos (show nI false.toNat = 0 from rfl)]
                  have := go (some (nI 1, h)) (by rw [eL]; exact ⟨h, rfl, s.2.1.1, s.1⟩)
                  rw [zbd_e] at this
                  exact this
end LD
