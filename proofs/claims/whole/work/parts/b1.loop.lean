/-! ===== the law's loop ===== -/
theorem k_n6 {n c : Nat} (hn : n ≤ 384) (hc : 6 * c ≤ n) : (Int32.ofNat n - 6 < nI (6 * c)) ↔ n < 6 * c + 6 := by
  by_cases q : 6 ≤ n
  · rw [show Int32.ofNat n - 6 = nI (n - 6) from zq_sub (a := n) (b := 6) q]
    refine ⟨fun e => ?_, fun e => nI_lt (by omega) (by omega)⟩
    rw [Int32.lt_iff_toInt_lt, nI_toInt (by omega), nI_toInt (by omega)] at e
    omega
  · have h0 : c = 0 := by omega
    subst h0
    refine ⟨fun _ => by omega, fun _ => ?_⟩
    rcases (show n = 0 ∨ n = 1 ∨ n = 2 ∨ n = 3 ∨ n = 4 ∨ n = 5 by omega) with e | e | e | e | e | e <;> subst e <;> decide
/-- how the law ends -/
def zQe (o : zO) (h : zH) : Prop := o = Sum.inl (some (zi 1)) ∧ zc h ≤ 600128 ∧ zs h ≤ 7301098
theorem zIv.up {X : Nat → Int32} {c : Nat} {h : zH} (iv : zIv X c h) : zIv X (c + 1) h := by
  obtain ⟨ρ, pp, tp, P, L, w, hR, hρ, hpt, h3, h4, hJ, hX⟩ := iv
  refine ⟨ρ, pp, tp, P, L, w.up, hR, hρ, hpt, h3, h4, ?_, hX⟩
  rcases hJ with ⟨j0, j1, j2, j3, j4⟩ | ⟨j0, j1, j3, j4⟩
  · exact Or.inl ⟨j0, j1, j2, by omega, by omega⟩
  · exact Or.inr ⟨j0, j1, by omega, by omega⟩
theorem w_loop {X : Nat → Int32} {n d : Nat} (hn : n ≤ 384) : ∀ m c h, n < 6 * c + 6 * m + 6 → 6 * c ≤ n → zIv X c h → zwp (d + 103) zm_L_law 13 (zLw n c none none) [] h zQe := by
  intro m
  induction m with
  | zero =>
    intro c h hm hc iv
    refine zwp.gb (B := zb_head) (lo := 0) zb_head_at (m := 5) (j := 18) (ls' := zLw n c none none) (st' := [zi (Int32.ofNat n - 6), zi (nI (6 * c))]) (h' := h) rfl ?_
    refine zwp.br (c := decide (Int32.ofNat n - 6 < nI (6 * c))) (j := 1408) (ls' := zLw n c none none) (st' := []) (h' := h) (j2 := 19) (l2 := zLw n c none none) (s2 := []) (h2 := h) (zsb_e (B := zb_head) (lo := 0) zb_head_at rfl rfl) (fun _ => ?_) (fun e => absurd ((k_n6 hn hc).mpr (by omega)) (of_decide_eq_false e))
    refine zwp.gb (B := zb_end) (lo := 1406) zb_end_at (m := 1) (j := 1409) (ls' := zLw n c none none) (st' := [zi (1 : Int32)]) (h' := h) rfl ?_
    refine zwp.ret (c := zfit 1 1) (v := some (zi 1)) (zsb_e (B := zb_end) (lo := 1406) zb_end_at rfl rfl) rfl ?_
    obtain ⟨ρ, pp, tp, P, L, w, hR, hρ, hpt, h3, h4, hJ, hX⟩ := iv
    rcases hJ with ⟨-, -, -, j1, j2⟩ | ⟨-, -, j1, j2⟩
    · exact ⟨rfl, by omega, by omega⟩
    · exact ⟨rfl, by omega, by omega⟩
  | succ m ih =>
    intro c h hm hc iv
    by_cases q : n < 6 * c + 6
    · refine zwp.gb (B := zb_head) (lo := 0) zb_head_at (m := 5) (j := 18) (ls' := zLw n c none none) (st' := [zi (Int32.ofNat n - 6), zi (nI (6 * c))]) (h' := h) rfl ?_
      refine zwp.br (c := decide (Int32.ofNat n - 6 < nI (6 * c))) (j := 1408) (ls' := zLw n c none none) (st' := []) (h' := h) (j2 := 19) (l2 := zLw n c none none) (s2 := []) (h2 := h) (zsb_e (B := zb_head) (lo := 0) zb_head_at rfl rfl) (fun _ => ?_) (fun e => absurd ((k_n6 hn hc).mpr q) (of_decide_eq_false e))
      refine zwp.gb (B := zb_end) (lo := 1406) zb_end_at (m := 1) (j := 1409) (ls' := zLw n c none none) (st' := [zi (1 : Int32)]) (h' := h) rfl ?_
      refine zwp.ret (c := zfit 1 1) (v := some (zi 1)) (zsb_e (B := zb_end) (lo := 1406) zb_end_at rfl rfl) rfl ?_
      obtain ⟨ρ, pp, tp, P, L, w, hR, hρ, hpt, h3, h4, hJ, hX⟩ := iv
      rcases hJ with ⟨-, -, -, j1, j2⟩ | ⟨-, -, j1, j2⟩
      · exact ⟨rfl, by omega, by omega⟩
      · exact ⟨rfl, by omega, by omega⟩
    · have h6 : 6 * c + 6 ≤ n := by omega
      have kk : ∀ h2 a b, zIv X (c + 1) h2 → zwp (d + 103) zm_L_law 1406 (zLw n c a b) [] h2 zQe := by
        intro h2 a b iv2
        refine zwp.fg (a := zLw n c none none) ⟨rfl, rfl, rfl, rfl, rfl, trivial⟩ ?_
        refine zwp.gb (B := zb_end) (lo := 1406) zb_end_at (m := 2) (j := 13) (ls' := [some (zr ((0, 32, n) : zF)), some (zr ((0, 10, 0) : zF)), some (zr ((52, 11, 0) : zF)), some (zr ((90, 23, 1) : zF)), some (zi (nI (6 * c) + 6)), none, none]) (st' := []) (h' := h2) rfl ?_
        rw [show nI (6 * c) + 6 = nI (6 * (c + 1)) from nI_add (6 * c) 6]
        exact ih (c + 1) h2 (by omega) (by omega) iv2
      refine zwp.gb (B := zb_head) (lo := 0) zb_head_at (m := 5) (j := 18) (ls' := zLw n c none none) (st' := [zi (Int32.ofNat n - 6), zi (nI (6 * c))]) (h' := h) rfl ?_
      refine zwp.br (c := decide (Int32.ofNat n - 6 < nI (6 * c))) (j := 1408) (ls' := zLw n c none none) (st' := []) (h' := h) (j2 := 19) (l2 := zLw n c none none) (s2 := []) (h2 := h) (zsb_e (B := zb_head) (lo := 0) zb_head_at rfl rfl) (fun e => absurd ((k_n6 hn hc).mp (of_decide_eq_true e)) q) (fun _ => ?_)
      refine zwp.gb (B := zb_head) (lo := 0) zb_head_at (m := 2) (j := 21) (ls' := zLw n c none none) (st' := [zi (nI (6 * c)), zr ((0, 32, n) : zF)]) (h' := h) rfl ?_
      refine zwp.ok (c := zin (nI (6 * c)) n) (j := 22) (ls' := zLw n c none none) (st' := [zi (zX h (nI (6 * c)).toNatClampNeg)]) (h' := h) (zsb_e (B := zb_head) (lo := 0) zb_head_at rfl rfl) ?_ ?_
      · unfold zin
        rw [nI_clamp (by omega)]
        have h1 : ¬ nI (6 * c) < 0 := nI_pos (by omega)
        simp [h1]
        omega
      generalize zX h (nI (6 * c)).toNatClampNeg = x
      refine zwp.gb (B := zb_head) (lo := 0) zb_head_at (m := 2) (j := 24) (ls' := zLw n c none none) (st' := [zi (x &&& 63)]) (h' := h) rfl ?_
      refine zwp.nx (j := zsw [(0, 25), (1, 82), (2, 117), (3, 124), (4, 159), (5, 204), (6, 249), (7, 294), (8, 329), (9, 346), (10, 381), (11, 426), (12, 433), (13, 478), (14, 485), (15, 530), (16, 575), (17, 610), (18, 655), (19, 662), (20, 697), (21, 704), (22, 711), (23, 756), (24, 791), (25, 836), (26, 881), (27, 916), (28, 951), (29, 986), (30, 1031), (31, 1066), (32, 1111), (33, 1174), (34, 1209), (35, 1244), (36, 1249), (37, 1304), (38, 1339), (39, 1394), (40, 1399)] 1406 (x &&& 63)) (ls' := zLw n c none none) (st' := []) (h' := h) (zsb_e (B := zb_head) (lo := 0) zb_head_at rfl rfl) ?_
      refine zs_sw (w_feed iv h6 hn kk) ?_
      refine zs_sw (w_loom iv h6 hn kk) ?_
      refine zs_sw (w_fault iv h6 hn kk) ?_
      refine zs_sw (w_count iv h6 hn kk) ?_
      refine zs_sw (w_rib iv h6 hn kk) ?_
      refine zs_sw (w_verse iv h6 hn kk) ?_
      refine zs_sw (w_sail iv h6 hn kk) ?_
      refine zs_sw (w_skill iv h6 hn kk) ?_
      refine zs_sw (w_days iv h6 hn kk) ?_
      refine zs_sw (w_sell iv h6 hn kk) ?_
      refine zs_sw (w_shore iv h6 hn kk) ?_
      refine zs_sw (w_unpick iv h6 hn kk) ?_
      refine zs_sw (w_teach iv h6 hn kk) ?_
      refine zs_sw (w_undo iv h6 hn kk) ?_
      refine zs_sw (w_then iv h6 hn kk) ?_
      refine zs_sw (w_later iv h6 hn kk) ?_
      refine zs_sw (w_gone iv h6 hn kk) ?_
      refine zs_sw (w_done iv h6 hn kk) ?_
      refine zs_sw (w_widest iv h6 hn kk) ?_
      refine zs_sw (w_fall iv h6 hn kk) ?_
      refine zs_sw (w_toTell iv h6 hn kk) ?_
      refine zs_sw (w_missed iv h6 hn kk) ?_
      refine zs_sw (w_between iv h6 hn kk) ?_
      refine zs_sw (w_order iv h6 hn kk) ?_
      refine zs_sw (w_dating iv h6 hn kk) ?_
      refine zs_sw (w_before iv h6 hn kk) ?_
      refine zs_sw (w_strongest iv h6 hn kk) ?_
      refine zs_sw (w_span iv h6 hn kk) ?_
      refine zs_sw (w_mirrored iv h6 hn kk) ?_
      refine zs_sw (w_lost iv h6 hn kk) ?_
      refine zs_sw (w_pace iv h6 hn kk) ?_
      refine zs_sw (w_both iv h6 hn kk) ?_
      refine zs_sw (w_see iv h6 hn kk) ?_
      refine zs_sw (w_strong iv h6 hn kk) ?_
      refine zs_sw (w_look iv h6 hn kk) ?_
      refine zs_sw (w_forget iv h6 hn kk) ?_
      refine zs_sw (w_storms iv h6 hn kk) ?_
      refine zs_sw (w_game iv h6 hn kk) ?_
      refine zs_sw (w_years iv h6 hn kk) ?_
      refine zs_sw (w_image iv h6 hn kk) ?_
      refine zs_sw (w_restore iv h6 hn kk) ?_
      exact kk h none none iv.up
theorem w_law {X : Nat → Int32} {n : Nat} (hn : n ≤ 384) : zwp 103 zm_L_law 0 (zent [zr ((0, 32, n) : zF)] 7) [] (z00 X) zQe := by
  have := w_start (X := X) (n := n) (d := 0) (w_loop (X := X) (d := 0) hn 64 0 (hI X) (by omega) (by omega) (hI_iv X))
  exact this
