/-! ===== the context at the law's entry ===== -/
section EN
variable {args : Array Value} {s : State} {A : Nat → Prop}
theorem zstr (h : ∀ w ∈ zNr, w.before args s = true) (hA : ∀ a : Nat, a < s.heap.size → ¬ A a) : ∃ adK adV : Nat → Nat, ∀ i : Nat, i < 45 → (zTm i).eval args s none [] s = some (.ref (adK i)) ∧ va_O "java/lang/String" (adK i) A s s.heap ∧ va_OF "java/lang/String" "coder" "B" (.int 0) (adK i) A s s.heap ∧ va_OF "java/lang/String" "value" "[B" (.ref (adV i)) (adK i) A s s.heap ∧ va_T .byte (adV i) (zbl zTX i) (fun j => .int (zby zTX i j)) A s s.heap := by
  have h0 : ∀ i : Nat, ∃ q : Nat × Nat, i < 45 → (zTm i).eval args s none [] s = some (.ref q.1) ∧ va_O "java/lang/String" q.1 A s s.heap ∧ va_OF "java/lang/String" "coder" "B" (.int 0) q.1 A s s.heap ∧ va_OF "java/lang/String" "value" "[B" (.ref q.2) q.1 A s s.heap ∧ va_T .byte q.2 (zbl zTX i) (fun j => .int (zby zTX i j)) A s s.heap := by
    intro i
    by_cases hi : i < 45
    · have hm : ∀ w ∈ zEs i, w.before args s = true := fun w hw => h w (zEs_in hi w hw)
      have hex : (Cond.exactly (zTm i) "java/lang/String").before args s = true := hm _ List.mem_cons_self
      have hco : (Cond.eq (.field (zTm i) "java/lang/String" "coder" "B") (.int 0)).before args s = true := hm _ (List.mem_cons_of_mem _ List.mem_cons_self)
      have har : (Cond.arrayOf (.field (zTm i) "java/lang/String" "value" "[B") .byte).before args s = true := hm _ (List.mem_cons_of_mem _ (List.mem_cons_of_mem _ List.mem_cons_self))
      have hle : (Cond.eq (.length (.field (zTm i) "java/lang/String" "value" "[B")) (.int (Int32.ofNat (zbl zTX i)))).before args s = true := hm _ (List.mem_cons_of_mem _ (List.mem_cons_of_mem _ (List.mem_cons_of_mem _ List.mem_cons_self)))
      have hel : ∀ j : Nat, j < zbl zTX i → (Cond.eq (.elem (.field (zTm i) "java/lang/String" "value" "[B") (.int (Int32.ofNat j))) (.int (zby zTX i j))).before args s = true := fun j hj => hm _ (List.mem_cons_of_mem _ (List.mem_cons_of_mem _ (List.mem_cons_of_mem _ (List.mem_cons_of_mem _ (List.mem_map.mpr ⟨j, List.mem_range.mpr hj, rfl⟩)))))
      obtain ⟨a, c, cA, kA, q1, q2, q3, q4, q5, q6, -⟩ := Cond.exactly_spec (args := args) (first := s) (o := none) (s := s) (idx := []) (t := zTm i) (cls := "java/lang/String") hex
      obtain ⟨t, ht, hT⟩ := va_Tof (f := fun j => .int (zby zTX i j)) (A := A) (zbl_lt i hi) har (va_eqt hle) (fun j hj => va_eqt (hel j hj)) hA
      exact ⟨(a, t), fun _ => ⟨q1, ⟨cA, q3, q5, by rw [q6]; exact q2, hA a (Array.getElem?_eq_some_iff.mp q3).1⟩, vk_OFof q1 (va_eqt hco) hA, vk_OFof q1 ht hA, hT⟩⟩
    · exact ⟨(0, 0), fun h => absurd h hi⟩
  obtain ⟨ad, had⟩ := Classical.axiomOfChoice h0
  exact ⟨fun i => (ad i).1, fun i => (ad i).2, fun i hi => had i hi⟩
theorem zarr {ty : FieldType} (h : (Cond.arrayClass ty).before args s = true) : ∃ cA : ClassId, ArrOfT s cA ty ∧ s.vm.findClass ("[" ++ ty.toString) = some cA := by
  obtain ⟨c, k, comp, h1, h2, h3⟩ := Cond.arrayClass_spec (args := args) (first := s) (o := none) (s := s) (idx := []) h
  exact ⟨c, fun N z => ⟨(fun k h => by cases h), k, h2, comp, h3⟩, h1⟩
theorem zarq {C : String} (h : (Cond.arrayOver (.object C)).before args s = true) : ∃ cA : ClassId, ArrOfT s cA (.object C) ∧ va_RA s cA (.object C) := by
  obtain ⟨comp, c, k, h1, h2, h3, h4, h5⟩ := Cond.arrayOver_spec (args := args) (first := s) (o := none) (s := s) (idx := []) h
  exact ⟨c, fun N z => ⟨(fun k h => by cases h), k, h3, comp, h4⟩, k, comp, h3, h4, h1, h5⟩
theorem zts_in {w : Cond} (h : w ∈ zTs) : w ∈ lw_tbl := (List.mem_filter.mp h).1
theorem zctx {b L : Nat} {xs : Nat → Int32} (hts : ∀ w ∈ lw_tbl, w.before args s = true) (hg : (Jvm.Cond.and given_1 narrow_1).before args s = true) (hX : va_X b L xs s s.heap) (hb : b < s.heap.size) : ∃ G : zCx, zCX G s ∧ gX G = b ∧ gL G = L ∧ gx G = xs ∧ gB G = s.heap.size := by
  have hN := zNr_b hg
  have hA : ∀ a : Nat, a < s.heap.size → ¬ (fun q : Nat => s.heap.size ≤ q) a := fun a h => Nat.not_le.mpr h
  have tw : ∀ {a i : Nat} {w : Cond}, (zTb a)[i]? = some w → w.before args s = true := fun e => hts _ (zTb_in (List.mem_of_getElem? e))
  have nw : ∀ {i : Nat} {w : Cond}, zNr[i]? = some w → w.before args s = true := fun e => hN _ (List.mem_of_getElem? e)
  obtain ⟨adK, adV, had⟩ := zstr hN hA
  obtain ⟨c20, a20, r20⟩ := zarr (tw zt_int)
  obtain ⟨c21, a21, r21⟩ := zarr (tw zt_byte)
  obtain ⟨c22, a22, r22⟩ := zarr (tw zt_boolean)
  obtain ⟨c23, a23, r23⟩ := zarr (tw zt_long)
  obtain ⟨c24, a24, r24⟩ := zarq (tw zt_ao)
  have hk : ∀ x : Nat, ∃ q : ClassId × (Nat → Nat), x < 12 → u_Kn s (zcls x).1 (zcls x).2.1 (zcls x).2.2 q.1 q.2 := by
    intro x
    by_cases hx : x < 12
    · obtain ⟨cC, iS, h⟩ := u_known (C := (zcls x).1) (T := (zcls x).2.1) (N := (zcls x).2.2) (n := (zcls x).2.2) (ws := zTs) (fun w hw => hts w (zts_in hw)) (zlays x hx) (hts _ (zts_in (zinst x hx).1))
      exact ⟨(cC, iS), fun _ => h⟩
    · exact ⟨(0, fun _ => 0), fun h => absurd h hx⟩
  obtain ⟨kf, hkf⟩ := Classical.axiomOfChoice hk
  have hm : ∀ w ∈ zEr, w.before args s = true := fun w hw => hN w (zEr_in w hw)
  obtain ⟨tR, htR, hTR⟩ := va_Tof (tm := .static "RibLoom$Reader" "RANKS" "[I") (ty := .int) (N := 10) (f := fun j => .int (zrk j)) (A := fun q : Nat => s.heap.size ≤ q) (by decide) (hm _ List.mem_cons_self) (va_eqt (hm _ (List.mem_cons_of_mem _ List.mem_cons_self))) (fun j hj => va_eqt (hm _ (List.mem_cons_of_mem _ (List.mem_cons_of_mem _ (List.mem_map.mpr ⟨j, List.mem_range.mpr hj, rfl⟩))))) hA
  have hsf : ∃ vO : Value, (vO = .null ∨ ∃ q : Nat, vO = .ref q) ∧ va_Z "jdk/internal/util/Preconditions" "SIOOBE_FORMATTER" "Ljava/util/function/BiFunction;" vO (fun q : Nat => s.heap.size ≤ q) s s.heap := by
    rcases va_Zqof (A := fun q : Nat => s.heap.size ≤ q) (tw zt_sf) (tw zu_sf) (nw zn_sf) hA with h | ⟨t, h⟩
    · exact ⟨.null, Or.inl rfl, h⟩
    · exact ⟨.ref t, Or.inr ⟨t, rfl⟩, h⟩
  obtain ⟨vO, hO, hZO⟩ := hsf
  refine ⟨((fun x => (kf x).1, fun x => (kf x).2), (fun k => if k = 20 then c20 else if k = 21 then c21 else if k = 22 then c22 else if k = 23 then c23 else c24), adK, adV, tR, b, vO, s.heap.size, L, xs), ⟨⟨fun k q hq => ?_, fun k q hq => ?_⟩, fun i hi => (had i hi).2, fun i q hq => ?_, va_Zref (tw zt_rk) (tw zu_rk) htR hA, hTR, va_Zof (tw zt_cs) (tw zu_cs) (va_eqt (nw zn_cs)) hA, hZO, vx_Zqof (tw zt_us) (tw zu_us) (nw zn_us) hA, vx_Zqof (tw zt_ss) (tw zu_ss) (nw zn_ss) hA, hX, hb, Nat.le_refl _, hO, va_AO.of (tw zt_ao), va_Nc.of (nw zn_nc), fun w hw hb => va_Nw.of (zbk_on hb) (hts w hw)⟩, rfl, rfl, rfl, rfl⟩
  · have hk12 : k < 12 := (List.getElem?_eq_some_iff.mp hq).1
    rw [zcls_at k hk12] at hq
    cases hq
    exact hkf k hk12
  · have hk5 : k < 5 := (List.getElem?_eq_some_iff.mp hq).1
    rcases (show k = 0 ∨ k = 1 ∨ k = 2 ∨ k = 3 ∨ k = 4 by omega) with e | e | e | e | e <;> subst e <;> cases hq
    · exact ⟨a20, r20⟩
    · exact ⟨a21, r21⟩
    · exact ⟨a22, r22⟩
    · exact ⟨a23, r23⟩
    · exact ⟨a24, r24⟩
  · have hi : i < 45 := (List.getElem?_eq_some_iff.mp hq).1
    have eq : zSt.getD i ("", 0, "") = q := by rw [List.getD_eq_getElem?_getD, hq]; rfl
    have h1 := tw (zPs_at i hi)
    have h2 := (had i hi).1
    unfold zTm at h2
    rw [eq] at h1 h2
    exact vk_R.of h1 h2
end EN
