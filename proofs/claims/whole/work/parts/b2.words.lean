/-! ===== the law's entry ===== -/
def zfa : Cond → List Cond → List Cond
  | .and a b, acc => zfa a (zfa b acc)
  | c, acc => c :: acc
theorem zfa_e (T : Cond) : ∀ acc, zfa T acc = flatC T ++ acc := by
  induction T with
  | and a b iha ihb => intro acc; rw [zfa, iha, ihb, flatC, List.append_assoc]
  | _ => intro acc; rfl
/-- all that is said of the start -/
def zNr : List Cond := zfa (.and given_1 narrow_1) []
theorem zNr_b {args : Array Value} {s : State} (h : (Jvm.Cond.and given_1 narrow_1).before args s = true) : ∀ w ∈ zNr, w.before args s = true := by
  intro w hw
  unfold zNr at hw
  rw [zfa_e, List.append_nil] at hw
  exact flat_of_before _ h w hw
/-- the texts -/
def zTm (i : Nat) : Term := .string (zSt.getD i ("", 0, "")).1 (zSt.getD i ("", 0, "")).2.1
def zEs (i : Nat) : List Cond := .exactly (zTm i) "java/lang/String" :: .eq (.field (zTm i) "java/lang/String" "coder" "B") (.int 0) :: .arrayOf (.field (zTm i) "java/lang/String" "value" "[B") .byte :: .eq (.length (.field (zTm i) "java/lang/String" "value" "[B")) (.int (Int32.ofNat (zbl zTX i))) :: (List.range (zbl zTX i)).map (fun j => .eq (.elem (.field (zTm i) "java/lang/String" "value" "[B") (.int (Int32.ofNat j))) (.int (zby zTX i j)))
def zPo : List Nat := [50, 84, 97, 104, 111, 120, 129, 137, 144, 156, 165, 172, 182, 191, 200, 208, 214, 221, 231, 248, 263, 288, 305, 332, 353, 369, 385, 418, 449, 469, 477, 485, 498, 508, 519, 529, 537, 547, 556, 566, 575, 586, 594, 602, 609]
theorem zEs_at : ∀ i, i < 45 → (zNr.drop (zPo.getD i 0)).take (zEs i).length = zEs i := by decide +kernel
theorem zEs_in {i : Nat} (hi : i < 45) : ∀ w ∈ zEs i, w ∈ zNr := by
  intro w hw
  have e := zEs_at i hi
  rw [← e] at hw
  exact List.mem_of_mem_drop (List.mem_of_mem_take hw)
def zEr : List Cond := .arrayOf (.static "RibLoom$Reader" "RANKS" "[I") .int :: .eq (.length (.static "RibLoom$Reader" "RANKS" "[I")) (.int (Int32.ofNat 10)) :: (List.range 10).map (fun j => .eq (.elem (.static "RibLoom$Reader" "RANKS" "[I") (.int (Int32.ofNat j))) (.int (zrk j)))
theorem zEr_at : (zNr.drop 12).take 12 = zEr := by decide +kernel
theorem zEr_in : ∀ w ∈ zEr, w ∈ zNr := by
  intro w hw
  rw [← zEr_at] at hw
  exact List.mem_of_mem_drop (List.mem_of_mem_take hw)
theorem zbl_lt : ∀ i, i < 45 → zbl zTX i < 2 ^ 31 := by decide +kernel
def zPs : List (Nat × Nat) := [(2, 237), (3, 40), (3, 123), (3, 165), (3, 166), (3, 171), (3, 176), (3, 203), (3, 212), (3, 213), (3, 214), (3, 215), (3, 216), (3, 217), (3, 218), (3, 228), (3, 229), (3, 230), (4, 14), (4, 32), (4, 39), (4, 51), (4, 58), (4, 66), (4, 71), (4, 83), (4, 120), (4, 176), (4, 196), (5, 151), (5, 152), (5, 153), (5, 154), (5, 155), (5, 156), (5, 157), (5, 158), (5, 159), (6, 174), (6, 175), (6, 176), (6, 205), (6, 226), (6, 227), (6, 236)]
theorem zPs_at : ∀ i, i < 45 → (zTb (zPs.getD i (0, 0)).1)[(zPs.getD i (0, 0)).2]? = some (Cond.stringRef (zSt.getD i ("", 0, "")).1 (zSt.getD i ("", 0, "")).2.1 (zSt.getD i ("", 0, "")).2.2) := by decide +kernel
theorem zn_us : zNr[4]? = some (Cond.isRef (.static "java/lang/Throwable" "UNASSIGNED_STACK" "[Ljava/lang/StackTraceElement;")) := by decide +kernel
theorem zn_ss : zNr[5]? = some (Cond.isRef (.static "java/lang/Throwable" "SUPPRESSED_SENTINEL" "Ljava/util/List;")) := by decide +kernel
theorem zn_cs : zNr[6]? = some (Cond.eq (.static "java/lang/String" "COMPACT_STRINGS" "Z") (.int 1)) := by decide +kernel
theorem zn_sf : zNr[7]? = some (Cond.isRef (.static "jdk/internal/util/Preconditions" "SIOOBE_FORMATTER" "Ljava/util/function/BiFunction;")) := by decide +kernel
theorem zn_nc : zNr[49]? = some (Cond.not (.castable "java/lang/IllegalArgumentException" "java/util/NoSuchElementException")) := by decide +kernel
theorem zt_rk : (zTb 3)[190]? = some (Cond.laysStatic "RibLoom$Reader" "RANKS" "[I") := by decide +kernel
theorem zu_rk : (zTb 0)[4]? = some (Cond.initialized "RibLoom$Reader") := by decide +kernel
theorem zt_cs : (zTb 3)[54]? = some (Cond.laysStatic "java/lang/String" "COMPACT_STRINGS" "Z") := by decide +kernel
theorem zu_cs : (zTb 0)[18]? = some (Cond.initialized "java/lang/String") := by decide +kernel
theorem zt_sf : (zTb 3)[93]? = some (Cond.laysStatic "jdk/internal/util/Preconditions" "SIOOBE_FORMATTER" "Ljava/util/function/BiFunction;") := by decide +kernel
theorem zu_sf : (zTb 0)[22]? = some (Cond.initialized "jdk/internal/util/Preconditions") := by decide +kernel
theorem zt_us : (zTb 2)[224]? = some (Cond.laysStatic "java/lang/Throwable" "UNASSIGNED_STACK" "[Ljava/lang/StackTraceElement;") := by decide +kernel
theorem zu_us : (zTb 0)[14]? = some (Cond.initialized "java/lang/Throwable") := by decide +kernel
theorem zt_ss : (zTb 2)[226]? = some (Cond.laysStatic "java/lang/Throwable" "SUPPRESSED_SENTINEL" "Ljava/util/List;") := by decide +kernel
theorem zu_ss : (zTb 0)[14]? = some (Cond.initialized "java/lang/Throwable") := by decide +kernel
theorem zt_int : (zTb 0)[65]? = some (Cond.arrayClass .int) := by decide +kernel
theorem zt_byte : (zTb 0)[64]? = some (Cond.arrayClass .byte) := by decide +kernel
theorem zt_boolean : (zTb 1)[31]? = some (Cond.arrayClass .boolean) := by decide +kernel
theorem zt_long : (zTb 1)[151]? = some (Cond.arrayClass .long) := by decide +kernel
theorem zt_ao : (zTb 5)[150]? = some (Cond.arrayOver (.object "java/lang/String")) := by decide +kernel
