/-! ===== undo, see, forget ===== -/
def lUn (L : zLg) : zLg := (lA L (ln L - 1), ln L - 1, lA L, lm L, lr L, ld L, lg L, lt L)
def lSe (L : zLg) (r d g : Nat) : zLg := (lS L, ln L, lA L, lm L + 1, (fun i => if i = lm L then r else lr L i), (fun i => if i = lm L then d else ld L i), (fun i => if i = lm L then g else lg L i), lt L)
def lFo (L : zLg) : zLg := (lS L, ln L, lA L, 0, lr L, ld L, lg L, lt L)
section AE
variable {c pp : Nat} {h h1 h2 : zH} {P : zPl} {L L2 : zLg} {v : Int32} {K : zH → Option (Int32 × zH)}
theorem lUn_ok {R : Nat} (h : lOk R L) (n : ln L ≠ 0) : lOk R (lUn L) := by
  obtain ⟨h1, h2, h3, h4, h5⟩ := h
  refine ⟨h3 _ (by omega), ?_, fun i hi => ?_, h4, h5⟩
  · show ln L - 1 ≤ 40
    omega
  · have hi : i < ln L - 1 := hi
    exact h3 i (by omega)
theorem c_undo (w : zRel c h pp P L) : zCal2 c h pp P (s_X10_undo pp h) s_X11_undo := by
  obtain ⟨w0, hP, hL, wC, wM, cC, cM, wa, -⟩ := id w
  have hR := hP.1
  have hn := hL.2.1
  by_cases q : ln L = 0
  · refine zCal2.of (v := nM) w ?_ (zfr.rf _ h) (zAsk.val (fun h w => ?_))
    · rw [s_X10_undo, cC.2.1, q, if_neg (fun n => n rfl)]; rfl
    · obtain ⟨w0, hP, hL, wC, wM, cC, cM, -⟩ := id w
      rw [cM.2.1, q, if_neg (fun n => n rfl)]; rfl
  · have n0 : ¬ nI (ln L) = 0 := fun e => q ((nI_eq (b := 0) (by omega) (by omega)).mp e)
    have ok := (hL.2.2.1 (ln L - 1) (by omega)).1.2.2.2.2.2
    have f0 : zfr (fun b k => b = 18 ∧ k = 6) h (zwI h 18 6 (nI (ln L - 1))) := zfr.wI 18 6 _ ⟨rfl, rfl⟩
    have z0 : zI (zwI h 18 6 (nI (ln L - 1))) 18 6 = nI (ln L - 1) := rfl
    have x0 : s_X10_undo pp h = (s_X8_unpack 19 29 1520 (zI (zwI h 18 6 (nI (ln L - 1))) 18 6 * 38) (zwI h 18 6 (nI (ln L - 1)))).bind (fun h1 => (s_X10_noteChange pp h1).bind fun h2 => some ((zI h2 18 6), h2)) := by
      rw [s_X10_undo, cC.2.1, if_pos n0, s_X2_undoAct, cC.2.1, show nI (ln L) - 1 = nI (ln L - 1) from zq_sub (b := 1) (by omega), zlt_e]
      cases s_X8_unpack (18 + 1) (18 + 11) 1520 (zI (zwI h 18 6 (nI (ln L - 1))) 18 6 * 38) (zwI h 18 6 (nI (ln L - 1))) <;> rfl
    generalize zwI h 18 6 (nI (ln L - 1)) = h3 at f0 z0 x0
    rw [z0, show nI (ln L - 1) * 38 = nI ((ln L - 1) * 38) from pk_mul _ 38] at x0
    have a3 : zAC h3 29 ((ln L - 1) * 38) (pR P) (lA L (ln L - 1)) := by
      have := cC.2.2.1 (ln L - 1) (by omega)
      rw [show 38 * (ln L - 1) = (ln L - 1) * 38 by omega] at this
      exact this.sm f0.sm (fun j _ _ => by omega) hR ok
    obtain ⟨h4, e4, s4, f4⟩ := k_unpack (a0 := 19) (b := 29) (n := 1520) (by omega) hR ok (by omega) (by omega) a3
    obtain ⟨h5, e5, o5, f5⟩ := k_off (pp := pp) h4
    have f35 : zfr (fun b k => (19 ≤ b ∧ b ≤ 24) ∨ (b = 39 ∧ k = 5) ∨ (b = 47 ∧ (k = 4 ∨ k = 8))) h3 h5 := (f4.mo (fun b k e => by omega)).tr (f5.mo (fun b k e => by omega))
    have f05 : zfr (fun b k => (19 ≤ b ∧ b ≤ 24) ∨ (b = 39 ∧ k = 5) ∨ (b = 47 ∧ (k = 4 ∨ k = 8)) ∨ (b = 18 ∧ k = 6)) h h5 := (f0.mo (fun b k e => by omega)).tr (f35.mo (fun b k e => by omega))
    have z5 : zI h5 18 6 = nI (ln L - 1) := by rw [f35.i (by omega)]; exact z0
    have l5 : zLC h5 18 (pR P) (lUn L) := by
      obtain ⟨c1, c2, c3, c4, c5, c6⟩ := cC
      refine ⟨s4.fr f5 (fun b k _ _ => by omega), z5, fun j hj => ?_, ?_, fun j hj => ⟨?_, ?_, ?_⟩, fun j hj => ?_⟩
      · have hj : j < ln L - 1 := hj
        exact (c3 j (by omega)).sm f05.sm (fun _ _ _ => by omega) hR (hL.2.2.1 j (by omega)).1.2.2.2.2.2
      · rw [f05.i (by omega)]; exact c4
      · rw [f05.i (by omega)]; exact (c5 j hj).1
      · rw [f05.i (by omega)]; exact (c5 j hj).2.1
      · rw [f05.i (by omega)]; exact (c5 j hj).2.2
      · rw [f05.i (by omega)]; exact c6 j hj
    refine zCal2.act (v := nI (ln L - 1)) (L2 := lUn L) w ?_ (f05.mo (fun b k e => by unfold zAcl; omega)) l5 o5.ca (lUn_ok hL q) (zDo.go (fun h p l k4 => ?_) hR hL)
    · rw [x0, e4, ob_e, e5, ob_e, z5]
    · obtain ⟨c1, c2, c3, c4, c5, c6⟩ := l
      rw [c2, if_pos n0, show nI (ln L) - 1 = nI (ln L - 1) from zq_sub (b := 1) (by omega), zlt_e]
      have f0 : zfr (fun b k => b = 52 ∧ k = 35) h (zwI h 52 35 (nI (ln L - 1))) := zfr.wI 52 35 _ ⟨rfl, rfl⟩
      have z0 : zI (zwI h 52 35 (nI (ln L - 1))) 52 35 = nI (ln L - 1) := rfl
      generalize zwI h 52 35 (nI (ln L - 1)) = h3 at f0 z0 ⊢
      rw [z0, show (38 : Int32) * nI (ln L - 1) = nI (38 * (ln L - 1)) from pk_mul 38 _]
      have a3 : zAM h3 68 (38 * (ln L - 1)) (pR P) (lA L (ln L - 1)) := (c3 (ln L - 1) (by omega)).sm f0.sm (fun j _ _ => by omega) hR ok
      obtain ⟨h4, e4, v4, f4⟩ := k_unpM (h := h3) (b := 68) (n := 1520) (o := 38 * (ln L - 1)) (by omega) (by omega) (by omega)
      have s4 : zSM h4 (pR P) (lA L (ln L - 1)) := zSM.of hR ok a3 v4
      have f04 : zfr (fun b k => (64 ≤ b ∧ b ≤ 67) ∨ (b = 52 ∧ 29 ≤ k ∧ k ≤ 35)) h h4 := (f0.mo (fun b k e => by omega)).tr (f4.mo (fun b k e => by unfold zAs at e; omega))
      have z4 : zI h4 52 35 = nI (ln L - 1) := by rw [f4.i (by unfold zAs; omega)]; exact z0
      refine ⟨h4, by rw [e4, ob_e, z4], by rw [f04.i (by omega)]; exact k4, ?_, f04.mo (fun b k e => by unfold zAmo; omega)⟩
      refine ⟨s4, z4, fun j hj => ?_, ?_, fun j hj => ⟨?_, ?_, ?_⟩, fun j hj => ?_⟩
      · have hj : j < ln L - 1 := hj
        exact (c3 j (by omega)).sm f04.sm (fun _ _ _ => by omega) hR (hL.2.2.1 j (by omega)).1.2.2.2.2.2
      · rw [f04.i (by omega)]; exact c4
      · rw [f04.i (by omega)]; exact (c5 j hj).1
      · rw [f04.i (by omega)]; exact (c5 j hj).2.1
      · rw [f04.i (by omega)]; exact (c5 j hj).2.2
      · rw [f04.i (by omega)]; exact c6 j hj
theorem c_forget (w : zRel c h pp P L) : zCal2 c h pp P ((s_X10_forget pp h).bind fun h1 => some (nI 0, h1)) (fun h => (s_X11_forget h).bind fun h1 => some (nI 0, h1)) := by
  obtain ⟨w0, hP, hL, wC, wM, cC, cM, wa, -⟩ := id w
  have hR := hP.1
  have ok : lOk (pR P) (lFo L) := ⟨hL.1, hL.2.1, hL.2.2.1, Nat.zero_le _, fun i hi => absurd hi (Nat.not_lt_zero _)⟩
  obtain ⟨h5, e5, o5, f5⟩ := k_off (pp := pp) (zwI h 18 7 (0 : Int32))
  have f0 : zfr (fun b k => b = 18 ∧ k = 7) h (zwI h 18 7 (0 : Int32)) := zfr.wI 18 7 _ ⟨rfl, rfl⟩
  have z0 : zI (zwI h 18 7 (0 : Int32)) 18 7 = nI 0 := rfl
  have x0 : (s_X10_forget pp h).bind (fun h1 => some (nI 0, h1)) = some (nI 0, h5) := by rw [s_X10_forget, zlt_e, e5, ob_e, ob_e]
  generalize zwI h 18 7 (0 : Int32) = h3 at f0 z0 e5 f5
  have f05 : zfr (fun b k => (b = 39 ∧ k = 5) ∨ (b = 47 ∧ (k = 4 ∨ k = 8)) ∨ (b = 18 ∧ k = 7)) h h5 := (f0.mo (fun b k e => by omega)).tr (f5.mo (fun b k e => by omega))
  have l5 : zLC h5 18 (pR P) (lFo L) := by
    obtain ⟨c1, c2, c3, c4, c5, c6⟩ := cC
    refine ⟨c1.fr f05 (fun b k _ _ => by omega), ?_, fun j hj => (c3 j hj).sm f05.sm (fun _ _ _ => by omega) hR (hL.2.2.1 j hj).1.2.2.2.2.2, ?_, fun j hj => absurd hj (Nat.not_lt_zero _), fun j hj => ?_⟩
    · rw [f05.i (by omega)]; exact c2
    · rw [f5.i (by omega)]; exact z0
    · rw [f05.i (by omega)]; exact c6 j hj
  refine zCal2.act (v := nI 0) (L2 := lFo L) w x0 (f05.mo (fun b k e => by unfold zAcl; omega)) l5 o5.ca ok ?_
  have g : zDo P L (lFo L) (fun h => zlt (zwI h 52 4 (0 : Int32)) (fun h1 => some (nI 0, zwI h1 52 36 (0 : Int32)))) (nI 0) := by
    refine zDo.go (fun h p l k4 => ?_) hR hL
    have f : zfr (fun b k => b = 52 ∧ k = 36) h (zwI h 52 36 (0 : Int32)) := zfr.wI 52 36 _ ⟨rfl, rfl⟩
    refine ⟨_, rfl, by rw [f.i (by omega)]; exact k4, ?_, f.mo (fun b k e => by unfold zAmo; omega)⟩
    obtain ⟨c1, c2, c3, c4, c5, c6⟩ := l
    refine ⟨c1.fr f (fun b k e => by omega), ?_, fun j hj => (c3 j hj).sm f.sm (fun _ _ _ => by omega) hR (hL.2.2.1 j hj).1.2.2.2.2.2, rfl, fun j hj => absurd hj (Nat.not_lt_zero _), fun j hj => ?_⟩
    · rw [f.i (by omega)]; exact c2
    · rw [f.i (by omega)]; exact c6 j hj
  exact g
theorem k_and1 (x : Int32) : ∃ g, g ≤ 1 ∧ x &&& 1 = nI g := by
  refine ⟨(x &&& 1).toUInt32.toNat, ?_, ?_⟩
  · have : (x &&& 1).toUInt32.toNat = x.toUInt32.toNat &&& 1 := by
      show (x.toBitVec &&& 1#32).toNat = x.toBitVec.toNat &&& 1
      rw [BitVec.toNat_and]; rfl
    rw [this, Nat.and_one_is_mod]
    omega
  · apply Int32.toBitVec.inj
    show (x &&& 1).toBitVec = BitVec.ofNat 32 (x &&& 1).toBitVec.toNat
    rw [BitVec.ofNat_toNat, BitVec.setWidth_eq]
theorem lSe_ok {R r d g : Nat} (h : lOk R L) (hm : lm L < 8) (hr : r < R) (hd : d ≤ 20) (hg : g ≤ 1) : lOk R (lSe L r d g) := by
  obtain ⟨h1, h2, h3, h4, h5⟩ := h
  refine ⟨h1, h2, h3, hm, fun i hi => ?_⟩
  have hi : i < lm L + 1 := hi
  show (if i = lm L then r else lr L i) < R ∧ (if i = lm L then d else ld L i) ≤ 20 ∧ (if i = lm L then g else lg L i) ≤ 1
  by_cases q : i = lm L
  · rw [if_pos q, if_pos q, if_pos q]; exact ⟨hr, hd, hg⟩
  · rw [if_neg q, if_neg q, if_neg q]; exact h5 i (by omega)
theorem c_see (w : zRel c h pp P L) (x y z : Int32) : zCall c h pp P (s_L_see pp x y z 90 1 h) (s_X11_see x y z) := by
  show zCall c h pp P (zHa (s_X10_see pp x y z h)) (s_X11_see x y z)
  obtain ⟨w0, hP, hL, wC, wM, cC, cM, wa, -⟩ := id w
  have hR := hP.1
  have hm := hL.2.2.2.1
  have bad : (x < nI 0 ∨ nI (pR P) ≤ x) → zCall c h pp P (zHa (s_X10_see pp x y z h)) (s_X11_see x y z) := by
    intro hx
    refine zCall.i1 (v := nI 0) w (by rw [s_X10_see, n_rib0 w hx, zbx_r]) (zAsk.fail (fun h w => ?_))
    rw [r_rib0 w hx, ob_e, if_neg (fun n => n rfl)]
    rfl
  rcases zq_any x (pR P) (by omega) with hx | hx | ⟨j, hj, rfl⟩
  · exact bad (Or.inl hx)
  · exact bad (Or.inr hx)
  · have refu : (lm L = 8 ∨ (y < nI 0 ∨ nI 20 < y)) → zCall c h pp P (zHa (s_X10_see pp (nI j) y z h)) (s_X11_see (nI j) y z) := by
      intro hy
      refine zCall.ref w (i := 2) (by omega) ?_ (fun h p l => ?_)
      · rw [s_X10_see, n_rib1 w hj, zbx_l, cC.2.2.2.1, s_X10_see_J13, show (2 : Int32) = nI 2 from rfl]
        by_cases q : lm L = 8
        · rw [if_pos (show (8 : Int32) ≤ nI (lm L) from nI_le (a := 8) (by omega) (by omega))]
        · rw [if_neg (show ¬ (8 : Int32) ≤ nI (lm L) from nI_ge (b := 8) (by omega) (by omega))]
          by_cases q2 : y < 0
          · rw [if_pos q2]
          · rw [if_neg q2, if_neg (show ¬ y ≤ 20 from fun n => by
              have e := (hy.resolve_left q).resolve_left q2
              rw [Int32.lt_iff_toInt_lt] at e
              rw [Int32.le_iff_toInt_le] at n
              exact absurd (Int.lt_of_lt_of_le e n) (Int.lt_irrefl _))]
      · rw [k_rib1 hR p.1 hj, ob_e, if_pos (by decide), l.2.2.2.1, s_X11_see_J21, show (2 : Int32) = nI 2 from rfl]
        by_cases q : lm L = 8
        · rw [if_pos (show nI (lm L) = 8 by rw [q]; rfl)]
        · rw [if_neg (show ¬ nI (lm L) = 8 from fun e => q ((nI_eq (b := 8) (by omega) (by omega)).mp e)), show s_X11_isIn y.toInt64 (0 : Int64) (20 : Int64) h = some (nI 0) from k_in0 (a := 0) (b := 20) (hy.resolve_left q) h, ob_e, if_neg (fun n => n rfl)]
    by_cases q : lm L = 8
    · exact refu (Or.inl q)
    · rcases zq_with y 0 20 (by omega) (by omega) with hy | ⟨d, d1, d2, rfl⟩
      · exact refu (Or.inr hy)
      · have q8 : lm L < 8 := by omega
        obtain ⟨g, g1, eg⟩ := k_and1 z
        have ok := lSe_ok hL q8 hj d2 g1
        have f0 : zfr (fun b k => (25 ≤ b ∧ b ≤ 27) ∨ (b = 18 ∧ k = 7)) h (zwI (zwI (zwI (zwI h 25 (lm L) (nI j)) 26 (lm L) (nI d)) 27 (lm L) (nI g)) 18 7 (nI (lm L + 1))) := (((zfr.wI 25 _ _ (by omega)).w 26 _ _ (by omega)).w 27 _ _ (by omega)).w 18 7 _ (by omega)
        have v0 : ∀ i, zI (zwI (zwI (zwI (zwI h 25 (lm L) (nI j)) 26 (lm L) (nI d)) 27 (lm L) (nI g)) 18 7 (nI (lm L + 1))) 25 i = (if i = lm L then nI j else zI h 25 i) ∧ zI (zwI (zwI (zwI (zwI h 25 (lm L) (nI j)) 26 (lm L) (nI d)) 27 (lm L) (nI g)) 18 7 (nI (lm L + 1))) 26 i = (if i = lm L then nI d else zI h 26 i) ∧ zI (zwI (zwI (zwI (zwI h 25 (lm L) (nI j)) 26 (lm L) (nI d)) 27 (lm L) (nI g)) 18 7 (nI (lm L + 1))) 27 i = (if i = lm L then nI g else zI h 27 i) := by
          intro i
          refine ⟨?_, ?_, ?_⟩
          · rw [zI_wI, if_neg (by omega), zI_wI, if_neg (by omega), zI_wI, if_neg (by omega), zI_wI, if_pos rfl]
          · rw [zI_wI, if_neg (by omega), zI_wI, if_neg (by omega), zI_wI, if_pos rfl, zI_wI, if_neg (show ¬ (26 : Nat) = 25 by omega)]
          · rw [zI_wI, if_neg (by omega), zI_wI, if_pos rfl, zI_wI, if_neg (show ¬ (27 : Nat) = 26 by omega), zI_wI, if_neg (show ¬ (27 : Nat) = 25 by omega)]
        have z0 : zI (zwI (zwI (zwI (zwI h 25 (lm L) (nI j)) 26 (lm L) (nI d)) 27 (lm L) (nI g)) 18 7 (nI (lm L + 1))) 18 7 = nI (lm L + 1) := rfl
        have x0 : s_X2_addSeen 18 (nI j) (nI d) z h = some (zwI (zwI (zwI (zwI h 25 (lm L) (nI j)) 26 (lm L) (nI d)) 27 (lm L) (nI g)) 18 7 (nI (lm L + 1))) := by
          rw [s_X2_addSeen, cC.2.2.2.1, zq_ix q8 (by omega), zlt_e, zI_wI, if_neg (by omega), cC.2.2.2.1, zq_ix q8 (by omega), zlt_e, zI_wI, if_neg (by omega), zI_wI, if_neg (by omega), cC.2.2.2.1, zq_ix q8 (by omega), eg, zlt_e, zI_wI, if_neg (by omega), zI_wI, if_neg (by omega), zI_wI, if_neg (by omega), cC.2.2.2.1, show nI (lm L) + 1 = nI (lm L + 1) from nI_1 _, zlt_e]
        generalize zwI (zwI (zwI (zwI h 25 (lm L) (nI j)) 26 (lm L) (nI d)) 27 (lm L) (nI g)) 18 7 (nI (lm L + 1)) = h3 at f0 v0 z0 x0
        obtain ⟨h5, e5, o5, f5⟩ := k_off (pp := pp) h3
        have f05 : zfr (fun b k => (25 ≤ b ∧ b ≤ 27) ∨ (b = 18 ∧ k = 7) ∨ (b = 39 ∧ k = 5) ∨ (b = 47 ∧ (k = 4 ∨ k = 8))) h h5 := (f0.mo (fun b k e => by omega)).tr (f5.mo (fun b k e => by omega))
        have z5 : zI h5 18 7 = nI (lm L + 1) := by rw [f5.i (by omega)]; exact z0
        have l5 : zLC h5 18 (pR P) (lSe L j d g) := by
          obtain ⟨c1, c2, c3, c4, c5, c6⟩ := cC
          refine ⟨c1.fr f05 (fun b k _ _ => by omega), ?_, fun j hj => (c3 j hj).sm f05.sm (fun _ _ _ => by omega) hR (hL.2.2.1 j hj).1.2.2.2.2.2, z5, fun i hi => ?_, fun i hi => ?_⟩
          · rw [f05.i (by omega)]; exact c2
          · have hi : i < lm L + 1 := hi
            rw [show zI h5 (18 + 7) i = _ from f5.i (by omega), show zI h5 (18 + 8) i = _ from f5.i (by omega), show zI h5 (18 + 9) i = _ from f5.i (by omega)]
            obtain ⟨v1, v2, v3⟩ := v0 i
            show zI h3 25 i = nI (if i = lm L then j else lr L i) ∧ zI h3 26 i = nI (if i = lm L then d else ld L i) ∧ zI h3 27 i = nI (if i = lm L then g else lg L i)
            rw [v1, v2, v3]
            by_cases q : i = lm L
            · rw [if_pos q, if_pos q, if_pos q, if_pos q, if_pos q, if_pos q]; exact ⟨rfl, rfl, rfl⟩
            · rw [if_neg q, if_neg q, if_neg q, if_neg q, if_neg q, if_neg q]; exact c5 i (by omega)
          · rw [f05.i (by omega)]; exact c6 i hi
        refine zCall.act (v := nI (lm L + 1)) (L2 := lSe L j d g) w (zL_in ?_).1 (f05.mo (fun b k e => by unfold zAcl; omega)) l5 o5.ca ok (zDo.go (fun h p l k4 => ?_) hR hL)
        · rw [s_X10_see, n_rib1 w hj, zbx_l, cC.2.2.2.1, if_neg (show ¬ (8 : Int32) ≤ nI (lm L) from nI_ge (b := 8) (by omega) (by omega)), if_neg (show ¬ nI d < 0 from nI_nlt (b := 0) (by omega) (by omega)), if_pos (show nI d ≤ 20 from nI_le (b := 20) d2 (by omega)), x0, ob_e, e5, ob_e, z5]
        · have f0 : zfr (fun b k => b = 76 ∨ b = 77 ∨ b = 79 ∨ (b = 52 ∧ k = 36)) h (zwI (zwI (zwI (zwI h 76 (lm L) (nI j)) 77 (lm L) (nI d)) 79 (lm L) (nI g)) 52 36 (nI (lm L + 1))) := (((zfr.wI 76 _ _ (by omega)).w 77 _ _ (by omega)).w 79 _ _ (by omega)).w 52 36 _ (by omega)
          have v0 : ∀ i, zI (zwI (zwI (zwI (zwI h 76 (lm L) (nI j)) 77 (lm L) (nI d)) 79 (lm L) (nI g)) 52 36 (nI (lm L + 1))) 76 i = (if i = lm L then nI j else zI h 76 i) ∧ zI (zwI (zwI (zwI (zwI h 76 (lm L) (nI j)) 77 (lm L) (nI d)) 79 (lm L) (nI g)) 52 36 (nI (lm L + 1))) 77 i = (if i = lm L then nI d else zI h 77 i) ∧ zI (zwI (zwI (zwI (zwI h 76 (lm L) (nI j)) 77 (lm L) (nI d)) 79 (lm L) (nI g)) 52 36 (nI (lm L + 1))) 79 i = (if i = lm L then nI g else zI h 79 i) := by
            intro i
            refine ⟨?_, ?_, ?_⟩
            · rw [zI_wI, if_neg (by omega), zI_wI, if_neg (by omega), zI_wI, if_neg (by omega), zI_wI, if_pos rfl]
            · rw [zI_wI, if_neg (by omega), zI_wI, if_neg (by omega), zI_wI, if_pos rfl, zI_wI, if_neg (show ¬ (77 : Nat) = 76 by omega)]
            · rw [zI_wI, if_neg (by omega), zI_wI, if_pos rfl, zI_wI, if_neg (show ¬ (79 : Nat) = 77 by omega), zI_wI, if_neg (show ¬ (79 : Nat) = 76 by omega)]
          have z0 : zI (zwI (zwI (zwI (zwI h 76 (lm L) (nI j)) 77 (lm L) (nI d)) 79 (lm L) (nI g)) 52 36 (nI (lm L + 1))) 52 36 = nI (lm L + 1) := rfl
          obtain ⟨c1, c2, c3, c4, c5, c6⟩ := l
          rw [k_rib1 hR p.1 hj, ob_e, if_pos (by decide), c4, if_neg (show ¬ nI (lm L) = 8 from fun e => q ((nI_eq (b := 8) (by omega) (by omega)).mp e)), show s_X11_isIn (nI d).toInt64 (0 : Int64) (20 : Int64) h = some (nI 1) from k_in1 (a := 0) (b := 20) d1 d2 (by omega) h, ob_e, if_pos (by decide), zq_ix q8 (by omega), zlt_e, zI_wI, if_neg (by omega), c4, zq_ix q8 (by omega), zlt_e, zI_wI, if_neg (by omega), zI_wI, if_neg (by omega), c4, zq_ix q8 (by omega), eg, zlt_e, zI_wI, if_neg (by omega), zI_wI, if_neg (by omega), zI_wI, if_neg (by omega), c4, show nI (lm L) + 1 = nI (lm L + 1) from nI_1 _, zlt_e]
          generalize zwI (zwI (zwI (zwI h 76 (lm L) (nI j)) 77 (lm L) (nI d)) 79 (lm L) (nI g)) 52 36 (nI (lm L + 1)) = h3 at f0 v0 z0 ⊢
          refine ⟨h3, by rw [z0], by rw [f0.i (by omega)]; exact k4, ?_, f0.mo (fun b k e => by unfold zAmo; omega)⟩
          refine ⟨c1.fr f0 (fun b k e => by omega), ?_, fun j hj => (c3 j hj).sm f0.sm (fun _ _ _ => by omega) hR (hL.2.2.1 j hj).1.2.2.2.2.2, z0, fun i hi => ?_, fun i hi => ?_⟩
          · rw [f0.i (by omega)]; exact c2
          · have hi : i < lm L + 1 := hi
            obtain ⟨v1, v2, v3⟩ := v0 i
            show zI h3 76 i = nI (if i = lm L then j else lr L i) ∧ zI h3 77 i = nI (if i = lm L then d else ld L i) ∧ zI h3 79 i = nI (if i = lm L then g else lg L i)
            rw [v1, v2, v3]
            by_cases q : i = lm L
            · rw [if_pos q, if_pos q, if_pos q, if_pos q, if_pos q, if_pos q]; exact ⟨rfl, rfl, rfl⟩
            · rw [if_neg q, if_neg q, if_neg q, if_neg q, if_neg q, if_neg q]; exact c5 i (by omega)
          · rw [f0.i (by omega)]; exact c6 i hi
end AE
