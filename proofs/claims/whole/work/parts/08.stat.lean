/-! ===== the classes of the worlds ===== -/
theorem zcls_at : ∀ (x : Nat), x < 12 → vwCl[x]? = some (zcls x)
  | 0, _ => rfl
  | 1, _ => rfl
  | 2, _ => rfl
  | 3, _ => rfl
  | 4, _ => rfl
  | 5, _ => rfl
  | 6, _ => rfl
  | 7, _ => rfl
  | 8, _ => rfl
  | 9, _ => rfl
  | 10, _ => rfl
  | 11, _ => rfl
  | n + 12, h => absurd h (by omega)
theorem zcls_n : ∀ (x : Nat), x < 12 → (zcls x).2.2 = znf x
  | 0, _ => rfl
  | 1, _ => rfl
  | 2, _ => rfl
  | 3, _ => rfl
  | 4, _ => rfl
  | 5, _ => rfl
  | 6, _ => rfl
  | 7, _ => rfl
  | 8, _ => rfl
  | 9, _ => rfl
  | 10, _ => rfl
  | 11, _ => rfl
  | n + 12, h => absurd h (by omega)
theorem ztyok : ∀ (x : Nat), x < 12 → ∀ k, k < (zcls x).2.2 → parseFieldDescriptor ((zcls x).2.1 k).2.2.1 = some (zty x k)
  | 0, _ => tyX0_ok
  | 1, _ => tyX1_ok
  | 2, _ => tyX2_ok
  | 3, _ => tyX3_ok
  | 4, _ => tyX4_ok
  | 5, _ => tyX5_ok
  | 6, _ => tyX6_ok
  | 7, _ => tyX7_ok
  | 8, _ => tyX8_ok
  | 9, _ => tyX9_ok
  | 10, _ => tyX10_ok
  | 11, _ => tyX11_ok
  | n + 12, h => absurd h (by omega)
theorem znmok : ∀ (x : Nat), x < 12 → ∀ a, a < (zcls x).2.2 → ∀ b, b < (zcls x).2.2 → a ≠ b → ((zcls x).2.1 a).2.1 ≠ ((zcls x).2.1 b).2.1
  | 0, _ => nmX0
  | 1, _ => nmX1
  | 2, _ => nmX2
  | 3, _ => nmX3
  | 4, _ => nmX4
  | 5, _ => nmX5
  | 6, _ => nmX6
  | 7, _ => nmX7
  | 8, _ => nmX8
  | 9, _ => nmX9
  | 10, _ => nmX10
  | 11, _ => nmX11
  | n + 12, h => absurd h (by omega)
theorem zlay0 : ∀ j, j < 1 → zwd (([(1, 160)] : List (Nat × Nat)).getD j (0, 0)) (u_lay RX0 TX0 j) = true := by decide +kernel
theorem zini0 : zwd (1, 153) (Cond.instantiable RX0 1) = true ∧ zwd (0, 11) (Cond.initialized RX0) = true := by decide +kernel
theorem zlay1 : ∀ j, j < 6 → zwd (([(1, 73), (1, 75), (1, 77), (1, 79), (1, 81), (1, 83)] : List (Nat × Nat)).getD j (0, 0)) (u_lay RX1 TX1 j) = true := by decide +kernel
theorem zini1 : zwd (1, 56) (Cond.instantiable RX1 6) = true ∧ zwd (0, 8) (Cond.initialized RX1) = true := by decide +kernel
theorem zlay2 : ∀ j, j < 8 → zwd (([(1, 14), (1, 16), (1, 18), (1, 20), (1, 22), (1, 24), (1, 26), (1, 28)] : List (Nat × Nat)).getD j (0, 0)) (u_lay RX2 TX2 j) = true := by decide +kernel
theorem zini2 : zwd (0, 182) (Cond.instantiable RX2 8) = true ∧ zwd (0, 5) (Cond.initialized RX2) = true := by decide +kernel
theorem zlay3 : ∀ j, j < 11 → zwd (([(0, 105), (0, 107), (0, 109), (0, 111), (0, 113), (0, 115), (0, 117), (0, 119), (0, 121), (0, 123), (0, 125)] : List (Nat × Nat)).getD j (0, 0)) (u_lay RX3 TX3 j) = true := by decide +kernel
theorem zini3 : zwd (0, 36) (Cond.instantiable RX3 11) = true ∧ zwd (0, 2) (Cond.initialized RX3) = true := by decide +kernel
theorem zlay4 : ∀ j, j < 15 → zwd (([(0, 150), (0, 152), (0, 154), (0, 156), (0, 158), (0, 160), (0, 162), (0, 164), (0, 166), (0, 168), (0, 170), (0, 172), (0, 174), (0, 176), (0, 178)] : List (Nat × Nat)).getD j (0, 0)) (u_lay RX4 TX4 j) = true := by decide +kernel
theorem zini4 : zwd (0, 129) (Cond.instantiable RX4 15) = true ∧ zwd (0, 4) (Cond.initialized RX4) = true := by decide +kernel
theorem zlay5 : ∀ j, j < 3 → zwd (([(0, 57), (0, 59), (0, 61)] : List (Nat × Nat)).getD j (0, 0)) (u_lay RX5 TX5 j) = true := by decide +kernel
theorem zini5 : zwd (0, 42) (Cond.instantiable RX5 3) = true ∧ zwd (0, 3) (Cond.initialized RX5) = true := by decide +kernel
theorem zlay6 : ∀ j, j < 11 → zwd (([(1, 128), (1, 130), (1, 132), (1, 134), (1, 136), (1, 138), (1, 140), (1, 142), (1, 144), (1, 146), (1, 148)] : List (Nat × Nat)).getD j (0, 0)) (u_lay RX6 TX6 j) = true := by decide +kernel
theorem zini6 : zwd (1, 105) (Cond.instantiable RX6 11) = true ∧ zwd (0, 10) (Cond.initialized RX6) = true := by decide +kernel
theorem zlay7 : ∀ j, j < 3 → zwd (([(1, 97), (1, 99), (1, 101)] : List (Nat × Nat)).getD j (0, 0)) (u_lay RX7 TX7 j) = true := by decide +kernel
theorem zini7 : zwd (1, 87) (Cond.instantiable RX7 3) = true ∧ zwd (0, 9) (Cond.initialized RX7) = true := by decide +kernel
theorem zlay8 : ∀ j, j < 9 → zwd (([(0, 218), (0, 220), (0, 222), (0, 224), (0, 226), (0, 228), (0, 230), (0, 232), (0, 234)] : List (Nat × Nat)).getD j (0, 0)) (u_lay RX8 TX8 j) = true := by decide +kernel
theorem zini8 : zwd (0, 188) (Cond.instantiable RX8 9) = true ∧ zwd (0, 6) (Cond.initialized RX8) = true := by decide +kernel
theorem zlay9 : ∀ j, j < 4 → zwd (([(1, 46), (1, 48), (1, 50), (1, 52)] : List (Nat × Nat)).getD j (0, 0)) (u_lay RX9 TX9 j) = true := by decide +kernel
theorem zini9 : zwd (1, 35) (Cond.instantiable RX9 4) = true ∧ zwd (0, 7) (Cond.initialized RX9) = true := by decide +kernel
theorem zlay10 : ∀ j, j < 16 → zwd (([(1, 194), (1, 196), (1, 198), (1, 200), (1, 202), (1, 204), (1, 206), (1, 208), (1, 210), (1, 212), (1, 214), (1, 216), (1, 218), (1, 220), (1, 222), (1, 224)] : List (Nat × Nat)).getD j (0, 0)) (u_lay RX10 TX10 j) = true := by decide +kernel
theorem zini10 : zwd (0, 28) (Cond.instantiable RX10 16) = true ∧ zwd (0, 1) (Cond.initialized RX10) = true := by decide +kernel
theorem zlay11 : ∀ j, j < 68 → zwd (([(5, 228), (5, 230), (5, 232), (5, 234), (5, 236), (5, 238), (6, 0), (6, 2), (6, 4), (6, 6), (6, 8), (6, 10), (6, 12), (6, 14), (6, 16), (6, 18), (6, 20), (6, 22), (6, 24), (6, 26), (6, 28), (6, 30), (6, 32), (6, 34), (6, 36), (6, 38), (6, 40), (6, 42), (6, 44), (6, 46), (6, 48), (6, 50), (6, 52), (6, 54), (6, 56), (6, 58), (6, 60), (6, 62), (6, 64), (6, 66), (6, 68), (6, 70), (6, 72), (6, 74), (6, 76), (6, 78), (6, 80), (6, 82), (6, 84), (6, 86), (6, 88), (6, 90), (6, 92), (6, 94), (6, 96), (6, 98), (6, 100), (6, 102), (6, 104), (6, 106), (6, 108), (6, 110), (6, 112), (6, 114), (6, 116), (6, 118), (6, 120), (6, 122)] : List (Nat × Nat)).getD j (0, 0)) (u_lay RX11 TX11 j) = true := by decide +kernel
theorem zini11 : zwd (5, 144) (Cond.instantiable RX11 68) = true ∧ zwd (0, 13) (Cond.initialized RX11) = true := by decide +kernel
theorem zlays_of {C : String} {T : u_T} {N : Nat} {L : List (Nat × Nat)} (h : ∀ j, j < N → zwd (L.getD j (0, 0)) (u_lay C T j) = true) : ∀ w ∈ u_ws C T N, w ∈ zTs := by
  intro w hw
  obtain ⟨j, hj, rfl⟩ := List.mem_map.mp hw
  exact zwd_in (h j (List.mem_range.mp hj))
theorem zlays : ∀ (x : Nat), x < 12 → ∀ w ∈ u_ws (zcls x).1 (zcls x).2.1 (zcls x).2.2, w ∈ zTs
  | 0, _ => zlays_of zlay0
  | 1, _ => zlays_of zlay1
  | 2, _ => zlays_of zlay2
  | 3, _ => zlays_of zlay3
  | 4, _ => zlays_of zlay4
  | 5, _ => zlays_of zlay5
  | 6, _ => zlays_of zlay6
  | 7, _ => zlays_of zlay7
  | 8, _ => zlays_of zlay8
  | 9, _ => zlays_of zlay9
  | 10, _ => zlays_of zlay10
  | 11, _ => zlays_of zlay11
  | n + 12, h => absurd h (by omega)
theorem zinst : ∀ (x : Nat), x < 12 → Cond.instantiable (zcls x).1 (zcls x).2.2 ∈ zTs ∧ Cond.initialized (zcls x).1 ∈ zTs
  | 0, _ => ⟨zwd_in zini0.1, zwd_in zini0.2⟩
  | 1, _ => ⟨zwd_in zini1.1, zwd_in zini1.2⟩
  | 2, _ => ⟨zwd_in zini2.1, zwd_in zini2.2⟩
  | 3, _ => ⟨zwd_in zini3.1, zwd_in zini3.2⟩
  | 4, _ => ⟨zwd_in zini4.1, zwd_in zini4.2⟩
  | 5, _ => ⟨zwd_in zini5.1, zwd_in zini5.2⟩
  | 6, _ => ⟨zwd_in zini6.1, zwd_in zini6.2⟩
  | 7, _ => ⟨zwd_in zini7.1, zwd_in zini7.2⟩
  | 8, _ => ⟨zwd_in zini8.1, zwd_in zini8.2⟩
  | 9, _ => ⟨zwd_in zini9.1, zwd_in zini9.2⟩
  | 10, _ => ⟨zwd_in zini10.1, zwd_in zini10.2⟩
  | 11, _ => ⟨zwd_in zini11.1, zwd_in zini11.2⟩
  | n + 12, h => absurd h (by omega)
theorem zdv0 : ∀ x, x < 12 → ∀ j, j < 68 → j < znf x → (defaultValue (zty x j) = if zisr (zty x j) then .null else .int 0) := by decide +kernel
theorem znf_le : ∀ x, x < 12 → znf x ≤ 68 := by decide
theorem zw_obj : Cond.instanceMethod objectInit ∈ zTs ∧ Cond.code objectInit ⟨#[0xb1]⟩ 1 none ∈ zTs := ⟨zwd_in (hn := (0, 33)) (by decide +kernel), zwd_in (hn := (0, 34)) (by decide +kernel)⟩
theorem zw_acp : Cond.native arraycopyName ∈ zTs ∧ Cond.static arraycopyName ∈ zTs ∧ Cond.initialized "java/lang/System" ∈ zTs := ⟨zwd_in (hn := (1, 173)) (by decide +kernel), zwd_in (hn := (1, 172)) (by decide +kernel), zwd_in (hn := (0, 12)) (by decide +kernel)⟩
