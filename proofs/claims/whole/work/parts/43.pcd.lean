/-! ===== how many bits ===== -/
def qPc (n : Nat) : Nat := fb_ct (fun i => n.testBit i) 12
theorem qPc_le (n : Nat) : qPc n ≤ 12 := fb_ct_le _ 12
def qb1 (a : Int32) : Int32 := a - ((a.toUInt32 >>> ((1 : Int32).toUInt32 &&& Int32.toUInt32 31)).toInt32 &&& (1431655765 : Int32))
def qb2 (a : Int32) : Int32 := (a &&& (858993459 : Int32)) + ((a.toUInt32 >>> ((2 : Int32).toUInt32 &&& Int32.toUInt32 31)).toInt32 &&& (858993459 : Int32))
def qb3 (a : Int32) : Int32 := (a + (a.toUInt32 >>> ((4 : Int32).toUInt32 &&& Int32.toUInt32 31)).toInt32) &&& (252645135 : Int32)
def qb4 (a : Int32) : Int32 := a + (a.toUInt32 >>> ((8 : Int32).toUInt32 &&& Int32.toUInt32 31)).toInt32
def qb5 (a : Int32) : Int32 := (a + (a.toUInt32 >>> ((16 : Int32).toUInt32 &&& Int32.toUInt32 31)).toInt32) &&& (63 : Int32)
theorem qb_eq (a : Int32) (h : zH) : s_J6_bitCount_0f7a4 a h = some (qb5 (qb4 (qb3 (qb2 (qb1 a))))) := rfl
set_option maxRecDepth 100000 in
theorem qb_all : (List.range 4096).all (fun n => decide (qb5 (qb4 (qb3 (qb2 (qb1 (nI n))))) = nI (qPc n))) = true := by decide +kernel
theorem k_bc {n : Nat} (hn : n < 4096) (h : zH) : s_J6_bitCount_0f7a4 (nI n) h = some (nI (qPc n)) := by
  rw [qb_eq, co_dec qb_all hn]
set_option maxRecDepth 100000 in
theorem qPc_all : (List.range 4096).all (fun n => decide (n = 0 ∨ (n &&& (n - 1) < n ∧ qPc (n &&& (n - 1)) + 1 = qPc n))) = true := by decide +kernel
