/-! small sets as numbers -/
theorem bt_get : ∀ B : Fin 256, ∀ k : Fin 8, ((nn B.val >>> (nn k.val &&& 31)) &&& 1) = (if B.val.testBit k.val = true then (1 : Int32) else 0) := by decide +kernel
theorem bt_or : ∀ B : Fin 256, ∀ k : Fin 8, nn B.val ||| (1 <<< (nn k.val &&& 31)) = nn (B.val ||| 2 ^ k.val) := by decide +kernel
theorem bt_xor : ∀ B : Fin 256, ∀ k : Fin 8, nn B.val ^^^ (1 <<< (nn k.val &&& 31)) = nn (B.val ^^^ 2 ^ k.val) := by decide +kernel
theorem bt_pow : ∀ k : Fin 9, (1 : Int32) <<< (nn k.val &&& 31) = nn (2 ^ k.val) := by decide +kernel
theorem bget {B k : Nat} (hB : B < 256) (hk : k < 8) : ((nn B >>> (nn k &&& 31)) &&& 1) = (if B.testBit k = true then (1 : Int32) else 0) := bt_get ⟨B, hB⟩ ⟨k, hk⟩
theorem bor {B k : Nat} (hB : B < 256) (hk : k < 8) : nn B ||| (1 <<< (nn k &&& 31)) = nn (B ||| 2 ^ k) := bt_or ⟨B, hB⟩ ⟨k, hk⟩
theorem bxor {B k : Nat} (hB : B < 256) (hk : k < 8) : nn B ^^^ (1 <<< (nn k &&& 31)) = nn (B ^^^ 2 ^ k) := bt_xor ⟨B, hB⟩ ⟨k, hk⟩
theorem bpow {k : Nat} (hk : k < 9) : (1 : Int32) <<< (nn k &&& 31) = nn (2 ^ k) := bt_pow ⟨k, hk⟩
theorem bt_n0 : ∀ B : Fin 256, ∀ k : Fin 8, ((nn B.val >>> (nn k.val &&& 31)) &&& 1 = 0 ↔ B.val.testBit k.val = false) ∧ ((nn B.val >>> (nn k.val &&& 31)) &&& 1 = 1 ↔ B.val.testBit k.val = true) := fun B k => by
  rw [bt_get B k]
  cases B.val.testBit k.val <;> decide
theorem bis0 {B k : Nat} (hB : B < 256) (hk : k < 8) : ((nn B >>> (nn k &&& 31)) &&& 1) = 0 ↔ B.testBit k = false := (bt_n0 ⟨B, hB⟩ ⟨k, hk⟩).1
theorem bis1 {B k : Nat} (hB : B < 256) (hk : k < 8) : ((nn B >>> (nn k &&& 31)) &&& 1) = 1 ↔ B.testBit k = true := (bt_n0 ⟨B, hB⟩ ⟨k, hk⟩).2
theorem or_lt {n B k : Nat} (hB : B < 2 ^ n) (hk : k < n) : B ||| 2 ^ k < 2 ^ n := Nat.or_lt_two_pow hB (Nat.pow_lt_pow_right (by omega) hk)
theorem xor_lt {n B k : Nat} (hB : B < 2 ^ n) (hk : k < n) : B ^^^ 2 ^ k < 2 ^ n := Nat.xor_lt_two_pow hB (Nat.pow_lt_pow_right (by omega) hk)
theorem tb_or {B k j : Nat} : (B ||| 2 ^ k).testBit j = (B.testBit j || decide (k = j)) := by rw [Nat.testBit_or, Nat.testBit_two_pow]
theorem tb_xor {B k j : Nat} : (B ^^^ 2 ^ k).testBit j = (B.testBit j ^^ decide (k = j)) := by rw [Nat.testBit_xor, Nat.testBit_two_pow]
theorem pow_le {n : Nat} (h : n ≤ 8) : 2 ^ n ≤ 256 := Nat.pow_le_pow_right (by omega) h
/-! the reference counts bits one by one -/
def mbV (v : Int32) : Nat → Int32
  | 0 => 0
  | k + 1 => mbV v k + ((v >>> (nn k &&& 31)) &&& 1)
theorem bitsM (s : mSt) (v : Int32) : mo_bits s v = rI (mbV v 16) s := by
  rw [mo_bits_eq]
  obtain ⟨c, e1, e2⟩ := loopS (σ := Int32) (fun c k => mo_bits_4 s v c (nn k)) 16 (fun k c => c = mbV v k) (i0 := 0) (s0 := 0) (fun k c hk hI => by
    show ∃ c', mo_bits_4 s v c (nn k) = mo_bits_4 s v c' (nn (k + 1)) ∧ _
    refine ⟨c + ((v >>> (nn k &&& 31)) &&& 1), ?_, by rw [hI]; rfl⟩
    rw [mo_bits_4_eq s v c (nn k), if_neg (show ¬ (16 : Int32) ≤ nn k from nle (i := 16) hk (by omega)), nn_s]) (by omega) rfl
  have e1 : mo_bits_4 s v 0 0 = mo_bits_4 s v c (nn 16) := e1
  rw [e1, mo_bits_4_eq, if_pos (show (16 : Int32) ≤ nn 16 by decide), e2]
def bcV (x0 : Int32) : Int32 := ((((((((x0 - ((x0.toUInt32 >>> (Int32.toUInt32 1 &&& Int32.toUInt32 31)).toInt32 &&& 1431655765)) &&& 858993459) + (((x0 - ((x0.toUInt32 >>> (Int32.toUInt32 1 &&& Int32.toUInt32 31)).toInt32 &&& 1431655765)).toUInt32 >>> (Int32.toUInt32 2 &&& Int32.toUInt32 31)).toInt32 &&& 858993459)) + ((((x0 - ((x0.toUInt32 >>> (Int32.toUInt32 1 &&& Int32.toUInt32 31)).toInt32 &&& 1431655765)) &&& 858993459) + (((x0 - ((x0.toUInt32 >>> (Int32.toUInt32 1 &&& Int32.toUInt32 31)).toInt32 &&& 1431655765)).toUInt32 >>> (Int32.toUInt32 2 &&& Int32.toUInt32 31)).toInt32 &&& 858993459)).toUInt32 >>> (Int32.toUInt32 4 &&& Int32.toUInt32 31)).toInt32) &&& 252645135) + ((((((x0 - ((x0.toUInt32 >>> (Int32.toUInt32 1 &&& Int32.toUInt32 31)).toInt32 &&& 1431655765)) &&& 858993459) + (((x0 - ((x0.toUInt32 >>> (Int32.toUInt32 1 &&& Int32.toUInt32 31)).toInt32 &&& 1431655765)).toUInt32 >>> (Int32.toUInt32 2 &&& Int32.toUInt32 31)).toInt32 &&& 858993459)) + ((((x0 - ((x0.toUInt32 >>> (Int32.toUInt32 1 &&& Int32.toUInt32 31)).toInt32 &&& 1431655765)) &&& 858993459) + (((x0 - ((x0.toUInt32 >>> (Int32.toUInt32 1 &&& Int32.toUInt32 31)).toInt32 &&& 1431655765)).toUInt32 >>> (Int32.toUInt32 2 &&& Int32.toUInt32 31)).toInt32 &&& 858993459)).toUInt32 >>> (Int32.toUInt32 4 &&& Int32.toUInt32 31)).toInt32) &&& 252645135).toUInt32 >>> (Int32.toUInt32 8 &&& Int32.toUInt32 31)).toInt32) + (((((((x0 - ((x0.toUInt32 >>> (Int32.toUInt32 1 &&& Int32.toUInt32 31)).toInt32 &&& 1431655765)) &&& 858993459) + (((x0 - ((x0.toUInt32 >>> (Int32.toUInt32 1 &&& Int32.toUInt32 31)).toInt32 &&& 1431655765)).toUInt32 >>> (Int32.toUInt32 2 &&& Int32.toUInt32 31)).toInt32 &&& 858993459)) + ((((x0 - ((x0.toUInt32 >>> (Int32.toUInt32 1 &&& Int32.toUInt32 31)).toInt32 &&& 1431655765)) &&& 858993459) + (((x0 - ((x0.toUInt32 >>> (Int32.toUInt32 1 &&& Int32.toUInt32 31)).toInt32 &&& 1431655765)).toUInt32 >>> (Int32.toUInt32 2 &&& Int32.toUInt32 31)).toInt32 &&& 858993459)).toUInt32 >>> (Int32.toUInt32 4 &&& Int32.toUInt32 31)).toInt32) &&& 252645135) + ((((((x0 - ((x0.toUInt32 >>> (Int32.toUInt32 1 &&& Int32.toUInt32 31)).toInt32 &&& 1431655765)) &&& 858993459) + (((x0 - ((x0.toUInt32 >>> (Int32.toUInt32 1 &&& Int32.toUInt32 31)).toInt32 &&& 1431655765)).toUInt32 >>> (Int32.toUInt32 2 &&& Int32.toUInt32 31)).toInt32 &&& 858993459)) + ((((x0 - ((x0.toUInt32 >>> (Int32.toUInt32 1 &&& Int32.toUInt32 31)).toInt32 &&& 1431655765)) &&& 858993459) + (((x0 - ((x0.toUInt32 >>> (Int32.toUInt32 1 &&& Int32.toUInt32 31)).toInt32 &&& 1431655765)).toUInt32 >>> (Int32.toUInt32 2 &&& Int32.toUInt32 31)).toInt32 &&& 858993459)).toUInt32 >>> (Int32.toUInt32 4 &&& Int32.toUInt32 31)).toInt32) &&& 252645135).toUInt32 >>> (Int32.toUInt32 8 &&& Int32.toUInt32 31)).toInt32).toUInt32 >>> (Int32.toUInt32 16 &&& Int32.toUInt32 31)).toInt32) &&& 63)
theorem bitCountC (s : mSt) (x : Int32) : ig_bitCount s x = rI (bcV x) s := ig_bitCount_eq s x
theorem bc_mb : ∀ B : Fin 256, bcV (nn B.val) = mbV (nn B.val) 16 := by decide +kernel
theorem bc_left : ∀ n : Fin 8, ∀ D : Fin 128, D.val < 2 ^ n.val → bcV (nn ((2 ^ n.val - 1) ^^^ D.val)) = nn n.val - mbV (nn D.val) 16 := by decide +kernel
