/-! THE PURE PART. O: bits counted -/
def pcn (v : Int32) : Nat → Int32
  | 0 => 0
  | n + 1 => pcn v n + ((v >>> (nI n &&& 31)) &&& 1)
def bc0 (p : Int32) : Int32 := p - ((p.toUInt32 >>> ((1 : Int32).toUInt32 &&& Int32.toUInt32 31)).toInt32 &&& (1431655765 : Int32))
def bc1 (p : Int32) : Int32 := (p &&& (858993459 : Int32)) + ((p.toUInt32 >>> ((2 : Int32).toUInt32 &&& Int32.toUInt32 31)).toInt32 &&& (858993459 : Int32))
def bc2 (p : Int32) : Int32 := (p + (p.toUInt32 >>> ((4 : Int32).toUInt32 &&& Int32.toUInt32 31)).toInt32) &&& (252645135 : Int32)
def bc3 (p : Int32) : Int32 := p + (p.toUInt32 >>> ((8 : Int32).toUInt32 &&& Int32.toUInt32 31)).toInt32
def bc4 (p : Int32) : Int32 := (p + (p.toUInt32 >>> ((16 : Int32).toUInt32 &&& Int32.toUInt32 31)).toInt32) &&& (63 : Int32)
theorem px_bits0 (p : Int32) (M : g_M) : x_J6_bitCount_0f7a4 p M = some (bc4 (bc3 (bc2 (bc1 (bc0 p)))), M) := rfl
def bc (p : Int32) : Int32 := bc4 (bc3 (bc2 (bc1 (bc0 p))))
theorem bc_all : ∀ a, a < 64 → ∀ b, b < 64 → bc (nI (64 * a + b)) = pcn (nI (64 * a + b)) 31 ∧ 0 ≤ bc (nI (64 * a + b)) ∧ bc (nI (64 * a + b)) ≤ 12 := by decide +kernel
