/-! ===== what there is: count, rib, verse, sail, skill, between, both, fault ===== -/
section Q1
variable {c pp : Nat} {h : zH} {P : zPl} {L : zLg}
theorem r_al (w : zRel c h pp P L) : s_X10_aliveNow pp h = some (nI (qAl (lS L) (pR P))) := by
  obtain ⟨w0, hP, hL, wC, wM, cC, cM, -⟩ := w
  rw [s_X10_aliveNow, wC.1, k_alive hP.1 cC.1.1 hL.1.1.1]
  rfl
theorem r_gn (w : zRel c h pp P L) : s_X8_goneBits 19 (zI h pp 6) h = some (nI (qGo (lS L) (pR P))) := by
  obtain ⟨w0, hP, hL, wC, wM, cC, cM, -⟩ := w
  rw [wC.1, k_gone hP.1 cC.1.1 hL.1.1.1]
theorem r_gnM (w : zRel c h pp P L) : s_X11_goneNow h = some (nI (qGo (lS L) (pR P))) := by
  obtain ⟨w0, hP, hL, wC, wM, cC, cM, -⟩ := w
  exact k_goneM hP.1 wM.1 cM.1.1 hL.1.1.1
theorem r_th (w : zRel c h pp P L) : s_X11_thereNow h = some (nI (qAl (lS L) (pR P))) := by
  obtain ⟨w0, hP, hL, wC, wM, cC, cM, -⟩ := w
  exact k_there hP.1 wM.1 cM.1.1 hL.1.1.1
theorem r_kd (w : zRel c h pp P L) {al : Nat} (ha : al < 4096) : s_X7_kinds pp (nI al) h = some (nI (qKd (pT P) al (pV P) (pV P))) := by
  obtain ⟨w0, hP, hL, wC, wM, cC, cM, -⟩ := w
  exact k_kinds hP.2.1 wC.2.2.1 wC.2.2.2.1 ha
theorem r_kdM (w : zRel c h pp P L) {al : Nat} (ha : al < 4096) : s_X11_kindsBy (nI al) h = some (nI (qKd (pT P) al (pV P) (pV P))) := by
  obtain ⟨w0, hP, hL, wC, wM, cC, cM, -⟩ := w
  exact k_kindsM hP.2.1 wM.2.1 wM.2.2.2.1 ha
theorem r_ak (w : zRel c h pp P L) {al v : Nat} (ha : al < 4096) (hv : v < pV P) : s_X7_alike pp (nI al) (nI v) h = some (nI (qAk (pT P) al v (pV P))) := by
  obtain ⟨w0, hP, hL, wC, wM, cC, cM, -⟩ := w
  exact k_alike hP.2.1 wC.2.2.1 wC.2.2.2.1 ha hv
theorem r_akM (w : zRel c h pp P L) {al v : Nat} (ha : al < 4096) (hv : v < pV P) : s_X11_alikeBy (nI v) (nI al) h = some (nI (qAk (pT P) al v (pV P))) := by
  obtain ⟨w0, hP, hL, wC, wM, cC, cM, -⟩ := w
  exact k_alikeM hP.2.1 wM.2.1 wM.2.2.2.1 ha hv
theorem r_all (w : zRel c h pp P L) : qAl (lS L) (pR P) < 4096 := qAl_l _ w.2.1.1
theorem c_count (w : zRel c h pp P L) (x : Int32) : zCall c h pp P (s_L_count pp x 90 1 h) (s_X11_count x) := by
  show zCall c h pp P (zHa (s_X10_count pp x h)) (s_X11_count x)
  obtain ⟨w0, hP, hL, wC, wM, cC, cM, wa, wi, ⟨t, wt⟩, wf, wk⟩ := id w
  have ha := r_all w
  by_cases q0 : x = 0
  · subst q0
    have e : s_X10_count pp 0 h = some (Sum.inl (zI h pp 6), h) := rfl
    refine zCall.i (v := nI (pR P)) w (by rw [e, wC.1]) (zfr.rf _ h) ?_
    show zAsk c pp P L (fun h => zlt (zwI h 52 4 (0 : Int32)) fun h => some (zI h 56 0, h)) 0 _
    refine zAsk.val (fun h w => ?_)
    obtain ⟨w0, hP, hL, wC, wM, cC, cM, -⟩ := w
    rw [wM.1]
  by_cases q1 : x = 1
  · subst q1
    have e : s_X10_count pp 1 h = some (Sum.inl (zI h pp 8), h) := rfl
    refine zCall.i (v := nI (pV P)) w (by rw [e, wC.2.2.1]) (zfr.rf _ h) ?_
    show zAsk c pp P L (fun h => zlt (zwI h 52 4 (0 : Int32)) fun h => some (zI h 56 1, h)) 0 _
    refine zAsk.val (fun h w => ?_)
    obtain ⟨w0, hP, hL, wC, wM, cC, cM, -⟩ := w
    rw [wM.2.1]
  by_cases q2 : x = 2
  · subst q2
    have e : s_X10_count pp 2 h = some (Sum.inl (zI h 19 6), h) := rfl
    refine zCall.i (v := nI (lS L 35)) w (by rw [e, cC.1.2.2.2.2.2.2.1]) (zfr.rf _ h) ?_
    show zAsk c pp P L (fun h => zlt (zwI h 52 4 (0 : Int32)) fun h => some (zI h 52 29, h)) 0 _
    refine zAsk.val (fun h w => ?_)
    obtain ⟨w0, hP, hL, wC, wM, cC, cM, -⟩ := w
    rw [cM.1.2.2.2.2.2.2.1]
  by_cases q3 : x = 3
  · subst q3
    have e : s_X10_count pp 3 h = some (Sum.inl (zI h 22 0), h) := rfl
    refine zCall.i (v := nI (lS L 32)) w (by rw [e, cC.1.2.2.2.1]) (zfr.rf _ h) ?_
    show zAsk c pp P L (fun h => zlt (zwI h 52 4 (0 : Int32)) fun h => some (zI h 52 30, h)) 0 _
    refine zAsk.val (fun h w => ?_)
    obtain ⟨w0, hP, hL, wC, wM, cC, cM, -⟩ := w
    rw [cM.1.2.2.2.1]
  by_cases q4 : x = 4
  · subst q4
    have e : s_X10_count pp 4 h = some (Sum.inl (zI h 22 1), h) := rfl
    refine zCall.i (v := nI (lS L 33)) w (by rw [e, cC.1.2.2.2.2.1]) (zfr.rf _ h) ?_
    show zAsk c pp P L (fun h => zlt (zwI h 52 4 (0 : Int32)) fun h => some (zI h 52 31, h)) 0 _
    refine zAsk.val (fun h w => ?_)
    obtain ⟨w0, hP, hL, wC, wM, cC, cM, -⟩ := w
    rw [cM.1.2.2.2.2.1]
  by_cases q5 : x = 5
  · subst q5
    have e : s_X10_count pp 5 h = some (Sum.inl (zI h 19 7), h) := rfl
    refine zCall.i (v := nI (lS L 36)) w (by rw [e, cC.1.2.2.2.2.2.2.2.1]) (zfr.rf _ h) ?_
    show zAsk c pp P L (fun h => zlt (zwI h 52 4 (0 : Int32)) fun h => some (zI h 52 33, h)) 0 _
    refine zAsk.val (fun h w => ?_)
    obtain ⟨w0, hP, hL, wC, wM, cC, cM, -⟩ := w
    rw [cM.1.2.2.2.2.2.2.2.1]
  by_cases q6 : x = 6
  · subst q6
    have e : s_X10_count pp 6 h = some (Sum.inl (zI h 19 8), h) := rfl
    refine zCall.i (v := nI (lS L 37)) w (by rw [e, cC.1.2.2.2.2.2.2.2.2.1]) (zfr.rf _ h) ?_
    show zAsk c pp P L (fun h => zlt (zwI h 52 4 (0 : Int32)) fun h => some (zI h 52 34, h)) 0 _
    refine zAsk.val (fun h w => ?_)
    obtain ⟨w0, hP, hL, wC, wM, cC, cM, -⟩ := w
    rw [cM.1.2.2.2.2.2.2.2.2.1]
  by_cases q7 : x = 7
  · subst q7
    have e : s_X10_count pp 7 h = ((s_X8_goneBits 19 (zI h pp 6) h).bind fun v1 => some (Sum.inl v1, h)) := rfl
    refine zCall.i (v := nI (qGo (lS L) (pR P))) w (by rw [e, r_gn w, ob_e]) (zfr.rf _ h) ?_
    show zAsk c pp P L (fun h => zlt (zwI h 52 4 (0 : Int32)) fun h => (s_X11_goneNow h).bind fun v4 => some (v4, h)) 0 _
    refine zAsk.val (fun h w => ?_)
    rw [r_gnM w, ob_e]
  by_cases q8 : x = 8
  · subst q8
    have e : s_X10_count pp 8 h = some (Sum.inl (zI h 19 5), h) := rfl
    refine zCall.i (v := nI (lS L 34)) w (by rw [e, cC.1.2.2.2.2.2.1]) (zfr.rf _ h) ?_
    show zAsk c pp P L (fun h => zlt (zwI h 52 4 (0 : Int32)) fun h => some (zI h 52 32, h)) 0 _
    refine zAsk.val (fun h w => ?_)
    obtain ⟨w0, hP, hL, wC, wM, cC, cM, -⟩ := w
    rw [cM.1.2.2.2.2.2.1]
  by_cases q9 : x = 9
  · subst q9
    have e : s_X10_count pp 9 h = ((s_X10_aliveNow pp h).bind fun v2 => (s_X7_kinds pp v2 h).bind fun v3 => some (Sum.inl v3, h)) := rfl
    refine zCall.i (v := nI (qKd (pT P) (qAl (lS L) (pR P)) (pV P) (pV P))) w (by rw [e, r_al w, ob_e, r_kd w ha, ob_e]) (zfr.rf _ h) ?_
    show zAsk c pp P L (fun h => zlt (zwI h 52 4 (0 : Int32)) fun h => (s_X11_thereNow h).bind fun v5 => (s_X11_kindsBy v5 h).bind fun v6 => some (v6, h)) 0 _
    refine zAsk.val (fun h w => ?_)
    rw [r_th w, ob_e, r_kdM w ha, ob_e]
  by_cases q10 : x = 10
  · subst q10
    have e : s_X10_count pp 10 h = some (Sum.inl (zI h 18 6), h) := rfl
    refine zCall.i (v := nI (ln L)) w (by rw [e, cC.2.1]) (zfr.rf _ h) ?_
    show zAsk c pp P L (fun h => zlt (zwI h 52 4 (0 : Int32)) fun h => some (zI h 52 35, h)) 0 _
    refine zAsk.val (fun h w => ?_)
    obtain ⟨w0, hP, hL, wC, wM, cC, cM, -⟩ := w
    rw [cM.2.1]
  by_cases q11 : x = 11
  · subst q11
    have e : s_X10_count pp 11 h = some (Sum.inl (zI h 18 7), h) := rfl
    refine zCall.i (v := nI (lm L)) w (by rw [e, cC.2.2.2.1]) (zfr.rf _ h) ?_
    show zAsk c pp P L (fun h => zlt (zwI h 52 4 (0 : Int32)) fun h => some (zI h 52 36, h)) 0 _
    refine zAsk.val (fun h w => ?_)
    obtain ⟨w0, hP, hL, wC, wM, cC, cM, -⟩ := w
    rw [cM.2.2.2.1]
  by_cases q12 : x = 12
  · subst q12
    have e : s_X10_count pp 12 h = some (Sum.inl (zI h 0 1), h) := rfl
    refine zCall.one (v := zI h 0 1) w (zfr.rf _ h) (zL_in e).1 ⟨zwI (zwL h 90 0 (zI h 0 1).toInt64) 52 4 0, ?_, rfl, zfr.wI 52 4 _ (by unfold zScr; omega)⟩
    show some (zI h 52 13, _) = _
    rw [wt.2.2.1, wt.2.1]
  by_cases q13 : x = 13
  · subst q13
    have e : s_X10_count pp 13 h = some (Sum.inl (zI h 28 0), h) := rfl
    refine zCall.i (v := lt L 0) w (by rw [e, cC.2.2.2.2.2 0 (by omega)]) (zfr.rf _ h) ?_
    show zAsk c pp P L (fun h => zlt (zwI h 52 4 (0 : Int32)) fun h => some (zI h 62 0, h)) 0 _
    refine zAsk.val (fun h w => ?_)
    obtain ⟨w0, hP, hL, wC, wM, cC, cM, -⟩ := w
    rw [cM.2.2.2.2.2 0 (by omega)]
  by_cases q14 : x = 14
  · subst q14
    have e : s_X10_count pp 14 h = some (Sum.inl (zI h 28 1), h) := rfl
    refine zCall.i (v := lt L 1) w (by rw [e, cC.2.2.2.2.2 1 (by omega)]) (zfr.rf _ h) ?_
    show zAsk c pp P L (fun h => zlt (zwI h 52 4 (0 : Int32)) fun h => some (zI h 62 1, h)) 0 _
    refine zAsk.val (fun h w => ?_)
    obtain ⟨w0, hP, hL, wC, wM, cC, cM, -⟩ := w
    rw [cM.2.2.2.2.2 1 (by omega)]
  by_cases q15 : x = 15
  · subst q15
    have e : s_X10_count pp 15 h = some (Sum.inl (zI h 28 2), h) := rfl
    refine zCall.i (v := lt L 2) w (by rw [e, cC.2.2.2.2.2 2 (by omega)]) (zfr.rf _ h) ?_
    show zAsk c pp P L (fun h => zlt (zwI h 52 4 (0 : Int32)) fun h => some (zI h 62 2, h)) 0 _
    refine zAsk.val (fun h w => ?_)
    obtain ⟨w0, hP, hL, wC, wM, cC, cM, -⟩ := w
    rw [cM.2.2.2.2.2 2 (by omega)]
  have e : s_X10_count pp x h = some (Sum.inr 1, zth h) := by
    rw [s_X10_count, if_neg q0, if_neg q1, if_neg q2, if_neg q3, if_neg q4, if_neg q5, if_neg q6, if_neg q7, if_neg q8, if_neg q9, if_neg q10, if_neg q11, if_neg q12, if_neg q13, if_neg q14, if_neg q15]
  refine zCall.i1 (v := nI 0) w e ?_
  refine zAsk.fail (fun h w => ?_)
  rw [if_neg q0, if_neg q1, if_neg q2, if_neg q3, if_neg q4, if_neg q5, if_neg q6, if_neg q7, if_neg q8, if_neg q9, if_neg q10, if_neg q11, if_neg q12, if_neg q13, if_neg q14, if_neg q15]
  rfl
end Q1
