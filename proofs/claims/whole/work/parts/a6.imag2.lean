/-! ===== image, restore: both ===== -/
section IN2
variable {h h1 h2 : zH} {pp c R : Nat} {P : zPl} {L : zLg} {S : Nat → Nat}
theorem zAM.cp {b b1 o : Nat} (w : zAM h b o R S) (v : ∀ j, j < 1520 → zI h1 b1 j = zI h b j) (ho : o + 38 ≤ 1520) (hR : R ≤ 12) (hk : S 37 ≤ 9) : zAM h1 b1 o R S := by
  obtain ⟨w0, ⟨w1, w2, w3, w4, w5, w6, w7, w8⟩, w9⟩ := w
  refine ⟨fun r hr => ?_, ⟨?_, ?_, ?_, ?_, ?_, ?_, ?_, ?_⟩, fun i hi => ⟨?_, ?_⟩⟩
  · rw [v _ (by omega)]; exact w0 r hr
  · rw [v _ (by omega)]; exact w1
  · rw [v _ (by omega)]; exact w2
  · rw [v _ (by omega)]; exact w3
  · rw [v _ (by omega)]; exact w4
  · rw [v _ (by omega)]; exact w5
  · rw [v _ (by omega)]; exact w6
  · rw [v _ (by omega)]; exact w7
  · rw [v _ (by omega)]; exact w8
  · rw [v _ (by omega)]; exact (w9 i hi).1
  · rw [v _ (by omega)]; exact (w9 i hi).2
def zAim : Nat → Nat → Prop := fun b k => (84 ≤ b ∧ b ≤ 89) ∨ (b = 52 ∧ (k = 4 ∨ k = 59 ∨ k = 60 ∨ k = 61))
theorem k_imgM (hR : R ≤ 12) (hL : lOk R L) (w : zLM h R L) : ∃ h1, s_X11_image h = some h1 ∧ zLI h1 R L ∧ zI h1 52 59 = nI 1 ∧ zfr zAim h h1 := by
  obtain ⟨w1, w2, w3, w4, w5, w6⟩ := w
  obtain ⟨o1, o2, o3, o4, o5⟩ := id hL
  have hk := o1.1.2.2.2.2.2
  have f4 : zfr (fun b k => b = 52 ∧ (k = 4 ∨ k = 59 ∨ k = 60 ∨ k = 61)) h (zwI (zwI (zwI (zwI h 52 4 (0 : Int32)) 52 59 (1 : Int32)) 52 60 (nI (ln L))) 52 61 (nI (lm L))) := (((zfr.wI 52 4 _ (by omega)).w 52 59 _ (by omega)).w 52 60 _ (by omega)).w 52 61 _ (by omega)
  have v59 : zI (zwI (zwI (zwI (zwI h 52 4 (0 : Int32)) 52 59 (1 : Int32)) 52 60 (nI (ln L))) 52 61 (nI (lm L))) 52 59 = nI 1 := rfl
  have v60 : zI (zwI (zwI (zwI (zwI h 52 4 (0 : Int32)) 52 59 (1 : Int32)) 52 60 (nI (ln L))) 52 61 (nI (lm L))) 52 60 = nI (ln L) := rfl
  have v61 : zI (zwI (zwI (zwI (zwI h 52 4 (0 : Int32)) 52 59 (1 : Int32)) 52 60 (nI (ln L))) 52 61 (nI (lm L))) 52 61 = nI (lm L) := rfl
  have key : s_X11_image h = ((s_X11_pack 84 38 (nI 0) (zwI (zwI (zwI (zwI h 52 4 (0 : Int32)) 52 59 (1 : Int32)) 52 60 (nI (ln L))) 52 61 (nI (lm L)))).bind fun h5 => (s_X11_copyTo 85 1520 68 1520 h5).bind fun h6 => (s_X11_copyTo 86 8 76 8 h6).bind fun h7 => (s_X11_copyTo 87 8 77 8 h7).bind fun h8 => s_X11_image_L36 zfu (nI 0) h8) := by
    rw [s_X11_image, zlt_e, zlt_e, show zI (zwI (zwI h 52 4 (0 : Int32)) 52 59 (1 : Int32)) 52 35 = nI (ln L) from w2, zlt_e, show zI (zwI (zwI (zwI h 52 4 (0 : Int32)) 52 59 (1 : Int32)) 52 60 (nI (ln L))) 52 36 = nI (lm L) from w4, zlt_e, zq_0]
  generalize zwI (zwI (zwI (zwI h 52 4 (0 : Int32)) 52 59 (1 : Int32)) 52 60 (nI (ln L))) 52 61 (nI (lm L)) = h4 at f4 v59 v60 v61 key
  obtain ⟨h5, e5, v5, f5⟩ := k_packM (h := h4) (b := 84) (n := 38) (o := 0) (by omega) (by omega) (by omega)
  have s4 : zSM h4 R (lS L) := w1.fr f4 (fun b k e => by omega)
  have a5 : zAM h5 84 0 R (lS L) := zAM.of hR hk s4 v5
  obtain ⟨h6, e6, v6, f6⟩ := k_cto (a0 := 85) (a1 := 68) 1520 (by omega) (by omega) h5
  obtain ⟨h7, e7, v7, f7⟩ := k_cto (a0 := 86) (a1 := 76) 8 (by omega) (by omega) h6
  obtain ⟨h8, e8, v8, f8⟩ := k_cto (a0 := 87) (a1 := 77) 8 (by omega) (by omega) h7
  have F8 : zfr (fun b k => (84 ≤ b ∧ b ≤ 87) ∨ (b = 52 ∧ (k = 4 ∨ k = 59 ∨ k = 60 ∨ k = 61))) h h8 := ((((f4.mo (fun b k e => by omega)).tr (f5.mo (fun b k e => by omega))).tr (f6.mo (fun b k e => by omega))).tr (f7.mo (fun b k e => by omega))).tr (f8.mo (fun b k e => by omega))
  obtain ⟨h9, e9, v9, f9⟩ := k_i36 (m := lm L) o4 8 0 zfu h8 (by omega) (zq_fu (by omega)) (fun i hi => ⟨lg L i, (o5 i hi).2.2, by rw [F8.i (by omega)]; exact (w5 i hi).2.2⟩)
  obtain ⟨h10, e10, v10, f10⟩ := k_cto (a0 := 88) (a1 := 62) 3 (by omega) (by omega) h9
  have G5 : zfr (fun b _ => 85 ≤ b ∧ b ≤ 89) h5 h10 := ((((f6.mo (fun b k e => by omega)).tr (f7.mo (fun b k e => by omega))).tr (f8.mo (fun b k e => by omega))).tr (f9.mo (fun b k e => by omega))).tr (f10.mo (fun b k e => by omega))
  have G6 : zfr (fun b _ => 86 ≤ b ∧ b ≤ 89) h6 h10 := (((f7.mo (fun b k e => by omega)).tr (f8.mo (fun b k e => by omega))).tr (f9.mo (fun b k e => by omega))).tr (f10.mo (fun b k e => by omega))
  have G7 : zfr (fun b _ => 87 ≤ b ∧ b ≤ 89) h7 h10 := ((f8.mo (fun b k e => by omega)).tr (f9.mo (fun b k e => by omega))).tr (f10.mo (fun b k e => by omega))
  have G8 : zfr (fun b _ => 88 ≤ b ∧ b ≤ 89) h8 h10 := (f9.mo (fun b k e => by omega)).tr (f10.mo (fun b k e => by omega))
  refine ⟨h10, ?_, ⟨a5.sm G5.sm (fun j _ _ => by omega) hR hk, ?_, fun i hi => ?_, ?_, fun i hi => ⟨?_, ?_, ?_⟩, fun i hi => ?_⟩, ?_, (F8.mo (fun b k e => by unfold zAim; omega)).tr (G8.mo (fun b k e => by unfold zAim; omega))⟩
  · rw [key, e5, ob_e, e6, ob_e, e7, ob_e, e8, ob_e, e9, e10, ob_e]
  · rw [G5.i (by omega), f5.i (by omega)]; exact v60
  · have hk2 := (o3 i hi).1.2.2.2.2.2
    refine (w3 i hi).cp (fun j hj => ?_) (by omega) hR hk2
    rw [G6.i (by omega), v6 j hj, f5.i (by omega), f4.i (by omega)]
  · rw [G5.i (by omega), f5.i (by omega)]; exact v61
  · rw [G7.i (by omega), v7 i (by omega), f6.i (by omega), f5.i (by omega), f4.i (by omega)]; exact (w5 i hi).1
  · rw [G8.i (by omega), v8 i (by omega), f7.i (by omega), f6.i (by omega), f5.i (by omega), f4.i (by omega)]; exact (w5 i hi).2.1
  · rw [f10.i (by omega), v9 i (by omega) hi, F8.i (by omega)]; exact (w5 i hi).2.2
  · rw [v10 i hi, f9.i (by omega), F8.i (by omega)]; exact w6 i hi
  · rw [G5.i (by omega), f5.i (by omega)]; exact v59
def zArs : Nat → Nat → Prop := fun b k => (b = 52 ∧ (k = 4 ∨ (29 ≤ k ∧ k ≤ 36))) ∨ b = 62 ∨ (64 ≤ b ∧ b ≤ 68) ∨ b = 76 ∨ b = 77 ∨ b = 79
theorem k_rstM (hR : R ≤ 12) (hL : lOk R L) (h59 : zI h 52 59 = nI 1) (w : zLI h R L) : ∃ h1, s_X11_restore h = some (nI 1, h1) ∧ zLM h1 R L ∧ zfr zArs h h1 := by
  obtain ⟨w1, w2, w3, w4, w5, w6⟩ := w
  obtain ⟨o1, o2, o3, o4, o5⟩ := id hL
  have hk := o1.1.2.2.2.2.2
  have f3 : zfr (fun b k => b = 52 ∧ (k = 4 ∨ k = 35 ∨ k = 36)) h (zwI (zwI (zwI h 52 4 (0 : Int32)) 52 35 (nI (ln L))) 52 36 (nI (lm L))) := ((zfr.wI 52 4 _ (by omega)).w 52 35 _ (by omega)).w 52 36 _ (by omega)
  have v35 : zI (zwI (zwI (zwI h 52 4 (0 : Int32)) 52 35 (nI (ln L))) 52 36 (nI (lm L))) 52 35 = nI (ln L) := rfl
  have v36 : zI (zwI (zwI (zwI h 52 4 (0 : Int32)) 52 35 (nI (ln L))) 52 36 (nI (lm L))) 52 36 = nI (lm L) := rfl
  have key : s_X11_restore h = ((s_X11_unpack 84 38 (nI 0) (zwI (zwI (zwI h 52 4 (0 : Int32)) 52 35 (nI (ln L))) 52 36 (nI (lm L)))).bind fun h4 => (s_X11_copyTo 68 1520 85 1520 h4).bind fun h5 => (s_X11_copyTo 76 8 86 8 h5).bind fun h6 => (s_X11_copyTo 77 8 87 8 h6).bind fun h7 => s_X11_restore_L38 zfu (nI 0) h7) := by
    rw [s_X11_restore, zlt_e, show zI (zwI h 52 4 (0 : Int32)) 52 59 = nI 1 from h59, if_pos (by decide), show zI (zwI h 52 4 (0 : Int32)) 52 60 = nI (ln L) from w2, zlt_e, show zI (zwI (zwI h 52 4 (0 : Int32)) 52 35 (nI (ln L))) 52 61 = nI (lm L) from w4, zlt_e, zq_0]
  generalize zwI (zwI (zwI h 52 4 (0 : Int32)) 52 35 (nI (ln L))) 52 36 (nI (lm L)) = h3 at f3 v35 v36 key
  obtain ⟨h4, e4, v4, f4⟩ := k_unpM (h := h3) (b := 84) (n := 38) (o := 0) (by omega) (by omega) (by omega)
  have s4 : zSM h4 R (lS L) := zSM.of hR hk (w1.sm f3.sm (fun j _ _ => by omega) hR hk) v4
  obtain ⟨h5, e5, v5, f5⟩ := k_cto (a0 := 68) (a1 := 85) 1520 (by omega) (by omega) h4
  obtain ⟨h6, e6, v6, f6⟩ := k_cto (a0 := 76) (a1 := 86) 8 (by omega) (by omega) h5
  obtain ⟨h7, e7, v7, f7⟩ := k_cto (a0 := 77) (a1 := 87) 8 (by omega) (by omega) h6
  have F4 : zfr (fun b k => (64 ≤ b ∧ b ≤ 67) ∨ (b = 52 ∧ (k = 4 ∨ (29 ≤ k ∧ k ≤ 36)))) h h4 := (f3.mo (fun b k e => by omega)).tr (f4.mo (fun b k e => by unfold zAs at e; omega))
  have F7 : zfr (fun b k => (64 ≤ b ∧ b ≤ 68) ∨ b = 76 ∨ b = 77 ∨ (b = 52 ∧ (k = 4 ∨ (29 ≤ k ∧ k ≤ 36)))) h h7 := (((F4.mo (fun b k e => by omega)).tr (f5.mo (fun b k e => by omega))).tr (f6.mo (fun b k e => by omega))).tr (f7.mo (fun b k e => by omega))
  obtain ⟨h8, e8, v8, f8⟩ := k_r38 (m := lm L) o4 8 0 zfu h7 (by omega) (zq_fu (by omega)) (fun i hi => ⟨lg L i, (o5 i hi).2.2, by rw [F7.i (by omega)]; exact (w5 i hi).2.2⟩)
  obtain ⟨h9, e9, v9, f9⟩ := k_cto (a0 := 62) (a1 := 88) 3 (by omega) (by omega) h8
  have G4 : zfr (fun b _ => b = 62 ∨ b = 68 ∨ b = 76 ∨ b = 77 ∨ b = 79) h4 h9 := ((((f5.mo (fun b k e => by omega)).tr (f6.mo (fun b k e => by omega))).tr (f7.mo (fun b k e => by omega))).tr (f8.mo (fun b k e => by omega))).tr (f9.mo (fun b k e => by omega))
  have G5 : zfr (fun b _ => b = 62 ∨ b = 76 ∨ b = 77 ∨ b = 79) h5 h9 := (((f6.mo (fun b k e => by omega)).tr (f7.mo (fun b k e => by omega))).tr (f8.mo (fun b k e => by omega))).tr (f9.mo (fun b k e => by omega))
  have G6 : zfr (fun b _ => b = 62 ∨ b = 77 ∨ b = 79) h6 h9 := ((f7.mo (fun b k e => by omega)).tr (f8.mo (fun b k e => by omega))).tr (f9.mo (fun b k e => by omega))
  have G7 : zfr (fun b _ => b = 62 ∨ b = 79) h7 h9 := (f8.mo (fun b k e => by omega)).tr (f9.mo (fun b k e => by omega))
  refine ⟨h9, ?_, ⟨s4.fr G4 (fun b k e => by omega), ?_, fun i hi => ?_, ?_, fun i hi => ⟨?_, ?_, ?_⟩, fun i hi => ?_⟩, (F4.mo (fun b k e => by unfold zArs; omega)).tr (G4.mo (fun b k e => by unfold zArs; omega))⟩
  · rw [key, e4, ob_e, e5, ob_e, e6, ob_e, e7, ob_e, e8, e9, ob_e]
    rfl
  · rw [G4.i (by omega), f4.i (by unfold zAs; omega)]; exact v35
  · have hk2 := (o3 i hi).1.2.2.2.2.2
    refine (w3 i hi).cp (fun j hj => ?_) (by omega) hR hk2
    rw [G5.i (by omega), v5 j hj, F4.i (by omega)]
  · rw [G4.i (by omega), f4.i (by unfold zAs; omega)]; exact v36
  · rw [G6.i (by omega), v6 i (by omega), f5.i (by omega), F4.i (by omega)]; exact (w5 i hi).1
  · rw [G7.i (by omega), v7 i (by omega), f6.i (by omega), f5.i (by omega), F4.i (by omega)]; exact (w5 i hi).2.1
  · rw [f9.i (by omega), v8 i (by omega) hi, F7.i (by omega)]; exact (w5 i hi).2.2
  · rw [v9 i hi, f8.i (by omega), F7.i (by omega)]; exact w6 i hi
theorem c_image (w : zRel c h pp P L) : ∃ h1 h2, s_X10_image h = some h1 ∧ s_X11_image h1 = some h2 ∧ zRel (c + 1) h2 pp P L ∧ zGe h h2 := by
  obtain ⟨w0, hP, hL, wC, wM, cC, cM, wa, -, ⟨t, wt⟩, w02, wk⟩ := id w
  have hR := hP.1
  obtain ⟨g1, e1, l1, f1⟩ := k_cpL (a0 := 91) (a1 := 18) (by omega) hR hL cC
  have f2 : zfr (fun b k => b = 0 ∧ k = 8) g1 (zwI g1 0 8 (1 : Int32)) := zfr.wI _ _ _ ⟨rfl, rfl⟩
  have z2 : zI (zwI g1 0 8 (1 : Int32)) 0 8 = nI 1 := rfl
  have key : s_X10_image h = some (zwI g1 0 8 (1 : Int32)) := by rw [s_X10_image, e1, ob_e, zlt_e]
  generalize zwI g1 0 8 (1 : Int32) = g2 at f2 z2 key
  have F2 : zfr (fun b k => (91 ≤ b ∧ b ≤ 102) ∨ (b = 0 ∧ k = 8)) h g2 := (f1.mo (fun b k e => by omega)).tr (f2.mo (fun b k e => by omega))
  have cM2 : zLM g2 (pR P) L := cM.sm F2.sm (fun b k e => by omega) hR hL
  obtain ⟨g3, e3, l3, z3, f3⟩ := k_imgM hR hL cM2
  have sm : zSm (fun b k => (91 ≤ b ∧ b ≤ 102) ∨ (b = 0 ∧ k = 8) ∨ zAim b k) h g3 := zSm.tr F2.sm f3.sm (fun b k e => by omega) (fun b k e => Or.inr (Or.inr e))
  refine ⟨g2, g3, key, e3, ⟨w0, hP, hL, wC.sm sm (fun b k e1 e2 => by unfold zAim; omega), wM.sm sm (fun b k e => by unfold zAim; omega), cC.sm sm (fun b k e1 e2 => by unfold zAim; omega) hR hL, cM.sm sm (fun b k e => by unfold zAim; omega) hR hL, wa.sm sm (fun b k e => by unfold zAim; omega), ⟨1, Nat.le_refl _, ?_, z3, fun _ => ⟨L, hL, ?_, l3⟩⟩, ⟨t, wt.sm sm (fun b k e => by unfold zAim; omega)⟩, ?_, (wk.sm sm (fun b k e => by unfold zAim; omega)).le (by omega)⟩, ?_⟩
  · rw [f3.i (by unfold zAim; omega)]; exact z2
  · exact (l1.sm f2.sm (fun b k e1 e2 => by omega) hR hL).sm f3.sm (fun b k e1 e2 => by unfold zAim; omega) hR hL
  · rw [sm _ _ (by unfold zAim; omega), sm _ _ (by unfold zAim; omega)]; exact w02
  · obtain ⟨a1, a2, a3, a4, a5, a6, a7⟩ := F2
    obtain ⟨b1, b2, b3, b4, b5, b6, b7⟩ := f3
    refine ⟨b1.trans a1, b4.trans a4, ?_, ?_⟩
    · rw [b5, a5]; omega
    · rw [b6, a6]; omega
theorem c_restore (w : zRel c h pp P L) : (zI h 0 8 = nI 0 ∧ ∃ h2, s_X11_restore h = some (nI 0, h2) ∧ zRel (c + 1) h2 pp P L ∧ zGd h h2) ∨ (zI h 0 8 = nI 1 ∧ ∃ h1 h2 L', s_X10_restore pp h = some (nI 1, h1) ∧ s_X11_restore h1 = some (nI 1, h2) ∧ zRel (c + 1) h2 pp P L' ∧ zGd h h2) := by
  obtain ⟨w0, hP, hL, wC, wM, cC, cM, wa, ⟨b, b1, b8, b59, bI⟩, ⟨t, wt⟩, w02, wk⟩ := id w
  have hR := hP.1
  rcases (show b = 0 ∨ b = 1 by omega) with e | e <;> subst e
  · left
    have f : zfr zScr h (zwI h 52 4 (0 : Int32)) := zfr.wI 52 4 _ (by unfold zScr; omega)
    refine ⟨b8, zwI h 52 4 (0 : Int32), ?_, (w.fr f).up, f.gd (by unfold zScr; omega)⟩
    rw [s_X11_restore, zlt_e, show zI (zwI h 52 4 (0 : Int32)) 52 59 = nI 0 from b59, if_neg (fun n => n rfl)]
    rfl
  · right
    obtain ⟨L9, ok9, l9, i9⟩ := bI rfl
    obtain ⟨g1, e1, l1, f1⟩ := k_cpL (a0 := 18) (a1 := 91) (by omega) hR ok9 l9
    obtain ⟨g2, e2, o2, f2⟩ := k_off (pp := pp) g1
    have F2 : zfr (fun b k => (18 ≤ b ∧ b ≤ 29) ∨ (b = 39 ∧ k = 5) ∨ (b = 47 ∧ (k = 4 ∨ k = 8))) h g2 := (f1.mo (fun b k e => by omega)).tr (f2.mo (fun b k e => by omega))
    obtain ⟨g3, e3, l3, f3⟩ := k_rstM (h := g2) hR ok9 (by rw [F2.i (by omega)]; exact b59) (i9.sm F2.sm (fun b k e => by omega) hR ok9)
    have sm : zSm (fun b k => (18 ≤ b ∧ b ≤ 29) ∨ (b = 39 ∧ k = 5) ∨ (b = 47 ∧ (k = 4 ∨ k = 8)) ∨ zArs b k) h g3 := zSm.tr F2.sm f3.sm (fun b k e => by omega) (fun b k e => Or.inr (Or.inr (Or.inr e)))
    have l4 : zLC g3 18 (pR P) L9 := (l1.sm f2.sm (fun b k e1 e2 => by omega) hR ok9).sm f3.sm (fun b k e1 e2 => by unfold zArs; omega) hR ok9
    have o3 : zOff g3 := o2.fr f3 (fun b k e => by unfold zArs; omega)
    refine ⟨b8, g2, g3, L9, ?_, e3, ⟨w0, hP, ok9, wC.sm sm (fun b k e1 e2 => by unfold zArs; omega), wM.sm sm (fun b k e => by unfold zArs; omega), l4, l3, o3.ca, ⟨1, Nat.le_refl _, ?_, ?_, fun _ => ⟨L9, ok9, l9.sm sm (fun b k e1 e2 => by unfold zArs; omega) hR ok9, i9.sm sm (fun b k e => by unfold zArs; omega) hR ok9⟩⟩, ⟨t, wt.sm sm (fun b k e => by unfold zArs; omega)⟩, ?_, (wk.sm sm (fun b k e => by unfold zArs; omega)).le (by omega)⟩, ?_⟩
    · rw [s_X10_restore, e1, ob_e, e2, ob_e]; rfl
    · rw [sm _ _ (by unfold zArs; omega)]; exact b8
    · rw [sm _ _ (by unfold zArs; omega)]; exact b59
    · rw [sm _ _ (by unfold zArs; omega), sm _ _ (by unfold zArs; omega)]; exact w02
    · obtain ⟨x1, x2, x3, x4, x5, x6, x7⟩ := F2
      obtain ⟨y1, y2, y3, y4, y5, y6, y7⟩ := f3
      refine ⟨y1.trans x1, y4.trans x4, ?_, ?_, sm _ _ (by unfold zArs; omega)⟩
      · rw [y5, x5]; omega
      · rw [y6, x6]; omega
end IN2
