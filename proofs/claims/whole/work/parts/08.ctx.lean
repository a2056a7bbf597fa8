/-! ===== the words; the certificate of an instruction ===== -/
def zTs : List Cond := lw_tbl.filter goodWord
def zTb (a : Nat) : List Cond := match a with
  | 0 => tables_1_1
  | 1 => tables_1_2
  | 2 => tables_1_3
  | 3 => tables_1_4
  | 4 => tables_1_5
  | 5 => tables_1_6
  | 6 => tables_1_7
  | 7 => tables_1_8
  | 8 => tables_1_9
  | _ => []
theorem zTb_in {a : Nat} {w : Cond} (h : w ∈ zTb a) : w ∈ lw_tbl := by
  refine List.mem_append_right _ ?_
  unfold tables_1
  unfold zTb at h
  split at h
  · exact List.mem_append_left _ h
  · exact List.mem_append_right _ (List.mem_append_left _ h)
  · exact List.mem_append_right _ (List.mem_append_right _ (List.mem_append_left _ h))
  · exact List.mem_append_right _ (List.mem_append_right _ (List.mem_append_right _ (List.mem_append_left _ h)))
  · exact List.mem_append_right _ (List.mem_append_right _ (List.mem_append_right _ (List.mem_append_right _ (List.mem_append_left _ h))))
  · exact List.mem_append_right _ (List.mem_append_right _ (List.mem_append_right _ (List.mem_append_right _ (List.mem_append_right _ (List.mem_append_left _ h)))))
  · exact List.mem_append_right _ (List.mem_append_right _ (List.mem_append_right _ (List.mem_append_right _ (List.mem_append_right _ (List.mem_append_right _ (List.mem_append_left _ h))))))
  · exact List.mem_append_right _ (List.mem_append_right _ (List.mem_append_right _ (List.mem_append_right _ (List.mem_append_right _ (List.mem_append_right _ (List.mem_append_right _ (List.mem_append_left _ h)))))))
  · exact List.mem_append_right _ (List.mem_append_right _ (List.mem_append_right _ (List.mem_append_right _ (List.mem_append_right _ (List.mem_append_right _ (List.mem_append_right _ (List.mem_append_right _ (h))))))))
  · cases h
def zwd (hn : Nat × Nat) (w : Cond) : Bool := decide ((zTb hn.1)[hn.2]? = some w) && goodWord w
theorem zwd_in {hn : Nat × Nat} {w : Cond} (h : zwd hn w = true) : w ∈ zTs := by
  simp only [zwd, Bool.and_eq_true, decide_eq_true_eq] at h
  exact List.mem_filter.mpr ⟨zTb_in (List.mem_of_getElem? h.1), h.2⟩
/-- the text constants: class, entry, text -/
def zSt : List (String × Nat × String) := [("RibLoom", 111, "the tape has not so many bytes"), ("RibLoom$Reader", 217, ";()+-*/<="), ("RibLoom$Reader", 69, "rib"), ("RibLoom$Reader", 79, "jaw"), ("RibLoom$Reader", 81, "clans"), ("RibLoom$Reader", 87, "verse"), ("RibLoom$Reader", 92, "rots"), ("RibLoom$Reader", 174, "not"), ("RibLoom$Reader", 179, "strength"), ("RibLoom$Reader", 180, "place"), ("RibLoom$Reader", 181, "day"), ("RibLoom$Reader", 183, "beside"), ("RibLoom$Reader", 185, "skill"), ("RibLoom$Reader", 187, "woven"), ("RibLoom$Reader", 189, "left"), ("RibLoom$Reader", 203, "or"), ("RibLoom$Reader", 205, "and"), ("RibLoom$Reader", 101, "weaves"), ("RibLoom", 173, "no such count"), ("RibLoom", 389, "no such rib"), ("RibLoom", 193, "no such what of a rib"), ("RibLoom", 391, "no such verse"), ("RibLoom", 208, "no such what of a verse"), ("RibLoom", 210, "no such kept sail"), ("RibLoom", 395, "no such what"), ("RibLoom", 393, "no such clan"), ("RibLoom", 397, "a number is out of its bounds"), ("RibLoom", 305, "the order has no such place"), ("RibLoom", 399, "not bits of ribs"), ("RibLoomModel", 11, "rib"), ("RibLoomModel", 13, "jaw"), ("RibLoomModel", 19, "strength"), ("RibLoomModel", 21, "place"), ("RibLoomModel", 23, "beside"), ("RibLoomModel", 25, "woven"), ("RibLoomModel", 27, "day"), ("RibLoomModel", 32, "skill"), ("RibLoomModel", 34, "left"), ("RibLoomModel", 270, "clans"), ("RibLoomModel", 272, "rots"), ("RibLoomModel", 274, "weaves"), ("RibLoomModel", 251, "not"), ("RibLoomModel", 259, "and"), ("RibLoomModel", 264, "or"), ("RibLoomModel", 282, "verse")]
/-- words that aren't of the good kind, but stay when the tables grow warmer -/
def zbk (w : Cond) : Bool := match w with
  | .methodLinkNest _ _ _ _ => true
  | .declares _ => true
  | .castable _ _ => true
  | _ => false
theorem zbk_on {w : Cond} (h : zbk w = true) : w.onTables = true := by
  cases w <;> first | rfl | (simp [zbk] at h)
theorem zbk_warm {w : Cond} {s U : State} (h : zbk w = true) (hW : s.WarmedH U.vm) (hZ : va_Nw w s) : va_Nw w U := by
  cases w <;> first | exact va_Nw.warmM hW hZ | exact va_Nw.warmD hW hZ | exact va_Nw.warmC hW hZ | (simp [zbk] at h)
/-- what holds at the start of every method -/
def zCX (G : zCx) (U : State) : Prop := va_K (gD G) vwCl (ztys G) U ∧
  (∀ i : Nat, i < 45 → va_O "java/lang/String" (gS G i) (zAf G) U U.heap ∧ va_OF "java/lang/String" "coder" "B" (.int 0) (gS G i) (zAf G) U U.heap ∧ va_OF "java/lang/String" "value" "[B" (.ref (gV G i)) (gS G i) (zAf G) U U.heap ∧ va_T .byte (gV G i) (zbl zTX i) (fun j => .int (zby zTX i j)) (zAf G) U U.heap) ∧
  (∀ (i : Nat) (q : String × Nat × String), zSt[i]? = some q → vk_R q.1 q.2.1 q.2.2 (gS G i) U) ∧
  va_Z "RibLoom$Reader" "RANKS" "[I" (.ref (gR G)) (zAf G) U U.heap ∧ va_T .int (gR G) 10 (fun j => .int (zrk j)) (zAf G) U U.heap ∧
  va_Z "java/lang/String" "COMPACT_STRINGS" "Z" (.int 1) (zAf G) U U.heap ∧
  va_Z "jdk/internal/util/Preconditions" "SIOOBE_FORMATTER" "Ljava/util/function/BiFunction;" (gO G) (zAf G) U U.heap ∧
  vx_Zq Bundle.tN "UNASSIGNED_STACK" Bundle.steD (zAf G) U U.heap ∧ vx_Zq Bundle.tN "SUPPRESSED_SENTINEL" Bundle.listD (zAf G) U U.heap ∧
  va_X (gX G) (gL G) (gx G) U U.heap ∧ gX G < gB G ∧ gB G ≤ U.heap.size ∧ (gO G = .null ∨ ∃ q : Nat, gO G = .ref q) ∧ va_AO "java/lang/String" U ∧ va_Nc "java/lang/IllegalArgumentException" "java/util/NoSuchElementException" U ∧ ∀ w ∈ lw_tbl, zbk w = true → va_Nw w U
theorem zCX.moved {G : zCx} {s U : State} (h : zCX G s) (hW : s.WarmedH U.vm) (hq : ∀ a : Nat, a < s.heap.size → ¬ zAf G a → U.heap[a]? = s.heap[a]?) (hz : s.heap.size ≤ U.heap.size) : zCX G U := by
  obtain ⟨h1, h2, h3, h4, h5, h6, h7, h8, h9, h10, h11, h12, h13, h14, h15, h16⟩ := h
  have al := hW.alike
  refine ⟨va_K.moved al h1, fun i hi => ?_, fun i q e => vk_R.warm hW (h3 i q e), va_Z.moved al (h4.kept hq), va_T.moved al (h5.kept hq), va_Z.moved al (h6.kept hq), va_Z.moved al (h7.kept hq), vx_Zq.moved al (h8.kept hq), vx_Zq.moved al (h9.kept hq), va_X.moved al (h10.kept (hq _ (by omega) (by unfold zAf; omega))), h11, by omega, h13, va_AO.moved al h14, va_Nc.moved al h15, fun w hw hb => zbk_warm hb hW (h16 w hw hb)⟩
  obtain ⟨a1, a2, a3, a4⟩ := h2 i hi
  exact ⟨va_O.moved al (a1.kept hq), va_OF.moved al (a2.kept hq), va_OF.moved al (a3.kept hq), va_T.moved al (a4.kept hq)⟩
theorem zCX.same {G : zCx} {s U : State} (h : zCX G s) (hv : U.vm = s.vm) (hh : U.heap = s.heap) : zCX G U := by
  obtain ⟨h1, h2, h3, h4, h5, h6, h7, h8, h9, h10, h11, h12, h13, h14, h15, h16⟩ := h
  have al : s.vm.Alike U.vm := by rw [hv]; exact Vm.Alike.refl _
  rw [zCX, hh]
  refine ⟨va_K.moved al h1, fun i hi => ?_, fun i q e => vk_R.same hv (h3 i q e), va_Z.moved al h4, va_T.moved al h5, va_Z.moved al h6, va_Z.moved al h7, vx_Zq.moved al h8, vx_Zq.moved al h9, va_X.moved al h10, h11, h12, h13, va_AO.moved al h14, va_Nc.moved al h15, fun w hw hb => va_Nw.same (zbk_on hb) hv.symm (h16 w hw hb)⟩
  obtain ⟨a1, a2, a3, a4⟩ := h2 i hi
  exact ⟨va_O.moved al a1, va_OF.moved al a2, va_OF.moved al a3, va_T.moved al a4⟩
theorem zCX.cat {G : zCx} {s : State} (h : zCX G s) : (gO G).category = 1 := by
  rcases h.2.2.2.2.2.2.2.2.2.2.2.2.1 with e | ⟨q, e⟩ <;> rw [e] <;> rfl
theorem zCX.rf {G : zCx} {s : State} (h : zCX G s) (ad : Nat → Nat) (r : Option zF) : zcv G ad (zq r) = .null ∨ ∃ q : Nat, zcv G ad (zq r) = .ref q := by
  cases r with
  | none => exact Or.inl rfl
  | some r =>
    unfold zcv
    dsimp only
    split
    · exact h.2.2.2.2.2.2.2.2.2.2.2.2.1
    · exact Or.inr ⟨_, rfl⟩
def zpcs (cd : List zA) (i : Nat) : Option Nat := (cd[i]?).map (fun a => a.1)
def zfl (cd : List zA) (i t : Nat) : Bool := decide (zpcs cd (i + 1) = some t)
def ztg (cd : List zA) (x pc : Nat) (off : Int) : Bool := match zpcs cd x with
  | some t => decide ((pc : Int) + off = (t : Int))
  | none => false
theorem ztg_spec {cd : List zA} {x pc : Nat} {off : Int} (h : ztg cd x pc off = true) : ∃ t : Nat, zpcs cd x = some t ∧ (pc : Int) + off = (t : Int) := by
  unfold ztg at h
  split at h
  · rename_i t e
    exact ⟨t, e, of_decide_eq_true h⟩
  · cases h
def zts1 (cd : List zA) (pc : Nat) : List (Int32 × Nat) → Int → List Int → Bool
  | [], _, [] => true
  | (v, t) :: tb, lo, off :: offs => decide (v.toInt = lo) && ztg cd t pc off && zts1 cd pc tb (lo + 1) offs
  | _, _, _ => false
def zls1 (cd : List zA) (pc : Nat) : List (Int32 × Nat) → List (Int × Int) → Bool
  | [], [] => true
  | (v, t) :: tb, (k, off) :: ps => decide (v.toInt = k) && ztg cd t pc off && zls1 cd pc tb ps
  | _, _ => false
/-- a class of the worlds: name, fields, how many -/
def zcls (ci : Nat) : String × u_T × Nat := match ci with
  | 0 => (RX0, TX0, 1)
  | 1 => (RX1, TX1, 6)
  | 2 => (RX2, TX2, 8)
  | 3 => (RX3, TX3, 11)
  | 4 => (RX4, TX4, 15)
  | 5 => (RX5, TX5, 3)
  | 6 => (RX6, TX6, 11)
  | 7 => (RX7, TX7, 3)
  | 8 => (RX8, TX8, 9)
  | 9 => (RX9, TX9, 4)
  | 10 => (RX10, TX10, 16)
  | 11 => (RX11, TX11, 68)
  | _ => ("", fun _ => ("", "", "", false), 0)
def zkty (k : Nat) : FieldType := match k with
  | 20 => .int
  | 21 => .byte
  | 22 => .boolean
  | _ => .long
noncomputable def zck (own : String) (cc : ByteArray) (ini : Bool) (nL : Nat) (cd : List zA) (hn : Nat × Nat) (i : Nat) (a : zA) : Bool := match a with
  | (pc, ins, len, (x, y, z, _), c, tb) => decide (decode cc pc = .ok (ins, len)) && match ins with
    | .iconst n => decide (len = 1) && zfl cd i (pc + 1) && decide (Int32.ofInt n = c.1)
    | .bipush n => decide (len = 2) && zfl cd i (pc + 2) && decide ((Int8.ofInt n).toInt32 = c.1)
    | .sipush n => decide (len = 3) && zfl cd i (pc + 3) && decide ((Int16.ofInt n).toInt32 = c.1)
    | .ldc idx => decide (len = 2) && zfl cd i (pc + 2) && match z with
      | 0 => zwd hn (Cond.constant own idx c.1)
      | _ => decide (y < 45) && decide ((zSt[y]?).map (fun q => (q.1, q.2.1)) = some (own, idx))
    | .ldc_w idx => decide (len = 3) && zfl cd i (pc + 3) && match z with
      | 0 => zwd hn (Cond.constant own idx c.1)
      | _ => decide (y < 45) && decide ((zSt[y]?).map (fun q => (q.1, q.2.1)) = some (own, idx))
    | .ldc2_w idx => decide (len = 3) && zfl cd i (pc + 3) && zwd hn (Cond.constantLong own idx c.2)
    | .lconst n => decide (len = 1) && zfl cd i (pc + 1) && decide (Int64.ofNat (n : Nat) = c.2)
    | .aconst_null => decide (len = 1) && zfl cd i (pc + 1)
    | .iload_n k => decide (len = 1) && zfl cd i (pc + 1) && decide ((k : Nat) = x)
    | .lload_n k => decide (len = 1) && zfl cd i (pc + 1) && decide ((k : Nat) = x)
    | .aload_n k => decide (len = 1) && zfl cd i (pc + 1) && decide ((k : Nat) = x)
    | .iload k => decide (len = 2) && zfl cd i (pc + 2) && decide (k = x)
    | .lload k => decide (len = 2) && zfl cd i (pc + 2) && decide (k = x)
    | .aload k => decide (len = 2) && zfl cd i (pc + 2) && decide (k = x)
    | .istore_n k => decide (len = 1) && zfl cd i (pc + 1) && decide ((k : Nat) = x) && decide (x < nL)
    | .lstore_n k => decide (len = 1) && zfl cd i (pc + 1) && decide ((k : Nat) = x) && decide (x + 1 < nL)
    | .astore_n k => decide (len = 1) && zfl cd i (pc + 1) && decide ((k : Nat) = x) && decide (x < nL)
    | .istore k => decide (len = 2) && zfl cd i (pc + 2) && decide (k = x) && decide (x < nL)
    | .astore k => decide (len = 2) && zfl cd i (pc + 2) && decide (k = x) && decide (x < nL)
    | .iinc k n => decide (len = 3) && zfl cd i (pc + 3) && decide (k = x) && decide (Int32.ofInt n = c.1)
    | .goto off => decide (len = 3) && ztg cd x pc off
    | .ifCond _ off => decide (len = 3) && zfl cd i (pc + 3) && ztg cd x pc off
    | .if_icmp _ off => decide (len = 3) && zfl cd i (pc + 3) && ztg cd x pc off
    | .ifnull off => decide (len = 3) && zfl cd i (pc + 3) && ztg cd x pc off
    | .ifnonnull off => decide (len = 3) && zfl cd i (pc + 3) && ztg cd x pc off
    | .tableswitch d lo hi offs => ztg cd x pc d && zts1 cd pc tb lo offs.toList && decide (lo + (offs.size : Int) = hi + 1)
    | .lookupswitch d ps => ztg cd x pc d && zls1 cd pc tb ps.toList && (ps.toList.zip (ps.toList.drop 1)).all (fun (a, next) => a.1 < next.1)
    | .newarray t => decide (len = 2) && zfl cd i (pc + 2) && decide (newarray.typeOf t = zkty x) && decide (x = 20 ∨ x = 21 ∨ x = 22 ∨ x = 23) && decide (¬ c.1 < 0) && decide (c.1.toNatClampNeg = y) && decide (y ≤ 1000000) && zwd hn (Cond.arrayClass (zkty x))
    | .anewarray idx => decide (len = 3) && zfl cd i (pc + 3) && decide (¬ c.1 < 0) && decide (c.1.toNatClampNeg = y) && decide (y ≤ 1000000) && zwd hn (Cond.classLink own idx "java/lang/String")
    | .new idx => decide (len = 3) && match z with
      | 0 => zfl cd i (pc + 3) && decide (x < 12) && decide (y = znf x) && zwd hn (Cond.classLink own idx (zcls x).1)
      | _ => true
    | .getfield idx => decide (len = 3) && zfl cd i (pc + 3) && match x with
      | 30 => zwd hn (Cond.fieldLink own idx "java/lang/String" (if z = 2 then "value" else "coder") (if z = 2 then "[B" else "B")) && decide (z = 2 ∨ z = 3)
      | ci => decide (ci < 12) && decide (y < znf ci) && zwd hn (Cond.fieldLink own idx ((zcls ci).2.1 y).1 ((zcls ci).2.1 y).2.1 ((zcls ci).2.1 y).2.2.1) && decide (z = if zisr (zty ci y) then 1 else 0)
    | .putfield idx => decide (len = 3) && zfl cd i (pc + 3) && decide (x < 12) && decide (y < znf x) && zwd hn (Cond.fieldLink own idx ((zcls x).2.1 y).1 ((zcls x).2.1 y).2.1 ((zcls x).2.1 y).2.2.1) && (if ((zcls x).2.1 y).2.2.2 then ini && decide (((zcls x).2.1 y).1 = own) else true) && (match zty x y with
      | .int => decide (z = 0)
      | .boolean => decide (z = 2)
      | .object _ => decide (z = 1)
      | .array _ => decide (z = 1)
      | _ => false)
    | .getstatic idx => decide (len = 3) && zfl cd i (pc + 3) && match z with
      | 0 => zwd hn (Cond.fieldLink own idx "RibLoom$Reader" "RANKS" "[I")
      | 1 => zwd hn (Cond.fieldLink own idx "java/lang/String" "COMPACT_STRINGS" "Z")
      | _ => zwd hn (Cond.fieldLink own idx "jdk/internal/util/Preconditions" "SIOOBE_FORMATTER" "Ljava/util/function/BiFunction;")
    | .invokespecial idx => decide (len = 3) && zfl cd i (pc + 3) && match z with
      | 1 => zwd hn (Cond.methodLink own idx objectInit)
      | _ => true
    | .invokestatic idx => decide (len = 3) && zfl cd i (pc + 3) && match z with
      | 2 => zwd hn (Cond.methodLink own idx arraycopyName)
      | _ => true
    | .invokevirtual _ => decide (len = 3) && zfl cd i (pc + 3)
    | .ireturn => decide (len = 1)
    | .return_ => decide (len = 1)
    | _ => decide (len = 1) && zfl cd i (pc + 1)
