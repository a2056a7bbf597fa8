/-! ===== handlers ===== -/
section HAND
variable {p : Program} {l : Launch} {e : Env} {R : Room} {s : State} {m : MethodId} {args : Array Value} {below : List Frame} {meth : Method} {c : Code} {Q : State → Prop}
variable {G : zCx} {M : zM} {y : zYt} {Y : Nat → Option zYt} {d : Nat} {ad0 : Nat → Nat} {n0 c0 s0 i : Nat} {ls : zLV} {rest : List zV} {h' : zH}
/-- the handler's store -/
theorem zrow_store (F : zFr p l R s m args meth c G M y d) {a b si ei a2 b2 hp ct s2 e2 ti E2 xh E : Nat} (hr : zhs y.1.cls y.2.1 M a b si ei (a2, b2, hp, ct) (s2, e2, ti, E2, xh) E = true) (hlv : ∀ v, some v ∈ ls → zok G (zK h') v)
    (kk : zCfg p l e R s m args below meth c Q G M.1 M.2.1 ad0 n0 c0 s0 ti (zkil ls xh) [] h') {ad : Nat → Nat} {H : Heap} {locs : List Loc} {lc : Array Slot} {cells slots q : Nat} (hag : ∀ n, n < n0 → ad n = ad0 n) (hn0 : n0 ≤ (zK h').length) (hrep : zRep G ad h' H) (hS : va_S (zAf G) s.heap H locs) (hl : zLc G ad M.2.1 ls lc) (hcc : cells + c0 = zc h') (hss : slots + s0 = zs h') :
    W p l e R s m args below meth c H locs cells slots Q (F0 m hp lc [.ref q]) := by
  obtain ⟨⟨hx, hb, hml, hown, hts⟩, X, -⟩ := F
  simp only [zhs, Bool.and_eq_true, Bool.or_eq_true, decide_eq_true_eq] at hr
  obtain ⟨⟨⟨⟨-, -, -, -, -, hxn⟩, -⟩, -⟩, hr⟩ := hr
  rcases hr with ⟨d1, d2⟩ | ⟨⟨rfl, d1⟩, d2⟩
  · refine lv_astore (x := q) hx hb d1 hl.has hxn rfl (fun lc2 hl2 => ?_)
    exact kk ad H locs lc2 _ cells slots d2 hag hn0 hrep hS (hl.kill X.cat hl2) (fun v hv => by cases hv) (zkil_ok hlv) hcc hss
  · refine lv_astore_n (x := q) hx hb d1 rfl hl.has hxn rfl (fun lc2 hl2 => ?_)
    exact kk ad H locs lc2 _ cells slots d2 hag hn0 hrep hS (hl.kill X.cat hl2) (fun v hv => by cases hv) (zkil_ok hlv) hcc hss
theorem zrow_cov {a b si ei pc : Nat} {a0 : zA} (hcov : zcv9 a b si ei 0 M.1 = true) (hcd : M.1[i]? = some a0) (hpc : zpcs M.1 i = some pc) (hi : Nat.ble si i = true ∧ Nat.blt i ei = true) (hp ct : Nat) : covers ⟨a, b, hp, ct⟩ pc = true := by
  have e9 : a0.1 = pc := by
    simp only [zpcs, hcd, Option.map_some, Option.some.injEq] at hpc
    exact hpc
  have h1 := (zcv9_spec M.1 0 i a0 hcov hcd).mp ⟨by simpa using Nat.le_of_ble_eq_true hi.1, by rw [Nat.zero_add]; exact Nat.le_of_ble_eq_true hi.2⟩
  rw [e9] at h1
  simp only [covers, Bool.and_eq_true, decide_eq_true_eq]
  exact h1
theorem zrow_link {a b si ei a2 b2 hp ct s2 e2 ti E2 xh E : Nat} (hr : zhs y.1.cls y.2.1 M a b si ei (a2, b2, hp, ct) (s2, e2, ti, E2, xh) E = true) : (a2 = a ∧ b2 = b ∧ s2 = si ∧ e2 = ei ∧ E2 = E) ∧ ct ≠ 0 ∧ Cond.classLink y.1.cls ct (zxn E) ∈ zTs := by
  simp only [zhs, Bool.and_eq_true, decide_eq_true_eq] at hr
  obtain ⟨⟨⟨⟨h1, h2, h3, h4, h5, -⟩, h6⟩, h7⟩, -⟩ := hr
  refine ⟨⟨h1, h2, h3, h4, h5⟩, ?_, ?_⟩
  · rcases h6 with ⟨rfl, -⟩ | ⟨rfl, -⟩ <;> decide
  · rw [h7]
    rcases h6 with ⟨rfl, rfl⟩ | ⟨rfl, rfl⟩
    · exact zthr_c.2.2.1
    · exact zthr_c.2.2.2
theorem zcatch_row (hM : zMg Y M y) (F : zFr p l R s m args meth c G M y d) {x : Nat} {q0 : Nat × Nat} {a0 : zA} (hcd : M.1[i]? = some a0) (hz : zhnd M.2.2 i x = some q0) (hlv : ∀ v, some v ∈ ls → zok G (zK h') v)
    (kk : zCfg p l e R s m args below meth c Q G M.1 M.2.1 ad0 n0 c0 s0 q0.1 (zkil ls q0.2) [] h') : zCfgX p l e R s m args below meth c Q G M.1 M.2.1 ad0 n0 c0 s0 i ls rest h' (zxn x) := by
  intro ad H locs lc pc cells slots q ce hpc hag hn0 hrep hS hl hcc hss hce hcv hcl
  obtain ⟨⟨hx, hb, hml, hown, hts⟩, X, -, -, -, htab, -⟩ := id F
  have htab2 := hM.2
  cases hh : y.2.2.2.1 with
  | none =>
    rw [hh] at htab2
    have e8 : M.2.2 = [] ∨ M.2.2 = [(0, 0, 0, 9, 0)] := by
      change M.2.2 = (match y.2.2.2.2 with
        | 2 => [(0, 0, 0, 9, 0)]
        | _ => []) at htab2
      split at htab2
      · exact Or.inr htab2
      · exact Or.inl htab2
    rcases e8 with e8 | e8
    · rw [e8] at hz
      cases hz
    · rw [e8] at hz
      have q8 : Nat.ble (i + 1) 0 = false := rfl
      have e7 : zhnd [(0, 0, 0, 9, 0)] i x = none := by simp [zhnd, Nat.blt, q8]
      rw [e7] at hz
      cases hz
  | some hh9 =>
    rw [hh] at htab htab2
    change zhok y.1.cls y.2.1 M hh9 = true at htab2
    change c.exceptionTable.toList = tableOf hh9 at htab
    unfold zhok at htab2
    split at htab2
    · rename_i a b hp ct si ei ti E xh em
      simp only [Bool.and_eq_true] at htab2
      obtain ⟨hcov, hr⟩ := htab2
      rw [em] at hz
      simp only [zhnd] at hz
      split at hz
      · rename_i hb9
        cases hz
        simp only [Bool.and_eq_true] at hb9
        have e1 := Nat.eq_of_beq_eq_true hb9.2
        subst e1
        obtain ⟨-, hct, hlk⟩ := zrow_link hr
        exact zcaught (own := y.1.cls) hown [] ⟨a, b, hp, ct⟩ [] htab (fun _ h9 => by cases h9) (zrow_cov hcov hcd hpc ⟨hb9.1.1, hb9.1.2⟩ hp ct) hct (hts _ hlk) hce hcv hcl (zrow_store F hr hlv kk hag hn0 hrep hS hl hcc hss)
      · cases hz
    · rename_i a b hp ct q2 si ei ti E xh r2 em
      simp only [Bool.and_eq_true] at htab2
      obtain ⟨⟨hcov, hr1⟩, hr2⟩ := htab2
      obtain ⟨a2, b2, hp2, ct2⟩ := q2
      obtain ⟨s2, e2, ti2, E2, xh2⟩ := r2
      obtain ⟨⟨-, -, -, -, hE1⟩, hct1, hlk1⟩ := zrow_link hr1
      obtain ⟨⟨rfl, rfl, rfl, rfl, hE2⟩, hct2, hlk2⟩ := zrow_link hr2
      subst hE1
      subst hE2
      rw [em] at hz
      simp only [zhnd] at hz
      split at hz
      · rename_i hb9
        cases hz
        simp only [Bool.and_eq_true] at hb9
        have e1 := Nat.eq_of_beq_eq_true hb9.2
        subst e1
        exact zcaught (own := y.1.cls) hown [] ⟨a2, b2, hp, ct⟩ [⟨a2, b2, hp2, ct2⟩] htab (fun _ h9 => by cases h9) (zrow_cov hcov hcd hpc ⟨hb9.1.1, hb9.1.2⟩ hp ct) hct1 (hts _ hlk1) hce hcv hcl (zrow_store F hr1 hlv kk hag hn0 hrep hS hl hcc hss)
      · split at hz
        · rename_i hb9
          cases hz
          simp only [Bool.and_eq_true] at hb9
          have e1 := Nat.eq_of_beq_eq_true hb9.2
          subst e1
          have hc1 := zrow_cov hcov hcd hpc ⟨hb9.1.1, hb9.1.2⟩ hp ct
          refine zcaught (own := y.1.cls) hown [⟨a2, b2, hp, ct⟩] ⟨a2, b2, hp2, ct2⟩ [] htab (fun z9 h9 => ?_) (zrow_cov hcov hcd hpc ⟨hb9.1.1, hb9.1.2⟩ hp2 ct2) hct2 (hts _ hlk2) hce hcv hcl (zrow_store F hr2 hlv kk hag hn0 hrep hS hl hcc hss)
          rw [List.mem_singleton.mp h9]
          exact ⟨hc1, hct1, _, hts _ hlk1, X.2.2.2.2.2.2.2.2.2.2.2.2.2.2.1⟩
        · cases hz
    · cases htab2
end HAND
