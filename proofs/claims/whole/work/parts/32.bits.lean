/-! ===== lN n to 2^64: shifts, and, or, masks, one bit ===== -/
theorem wb_tb (n : Nat) : (lN n).toBitVec = BitVec.ofNat 64 n := rfl
theorem wb_inj {a b : Int64} (h : a.toBitVec = b.toBitVec) : a = b := Int64.toBitVec_inj.mp h
theorem wb_tn {n : Nat} (h : n < 2 ^ 64) : (lN n).toBitVec.toNat = n := by rw [wb_tb, BitVec.toNat_ofNat, Nat.mod_eq_of_lt h]
theorem wb_of (x : Int64) : ∃ n, n < 2 ^ 64 ∧ x = lN n := ⟨x.toBitVec.toNat, x.toBitVec.isLt, wb_inj (by rw [wb_tb]; simp)⟩
theorem wb_of32 (x : Int32) : ∃ n, n < 2 ^ 32 ∧ x = nI n := ⟨x.toBitVec.toNat, x.toBitVec.isLt, Int32.toBitVec_inj.mp (by show _ = BitVec.ofNat 32 _; simp)⟩
theorem wb_c : ∀ k, k < 64 → ((nI k).toInt64 &&& 63) = lN k := by decide +kernel
theorem wb_cu : ∀ k, k < 64 → ((nI k).toInt64.toUInt64 &&& Int64.toUInt64 63) = UInt64.ofNat k := by decide +kernel
theorem wb_sm : ∀ k, k < 64 → (BitVec.ofNat 64 k).smod 64 = BitVec.ofNat 64 k := by decide +kernel
theorem wb_pw {a b : Nat} (h : a ≤ b) : 2 ^ b = 2 ^ a * 2 ^ (b - a) := by rw [← Nat.pow_add]; congr 1; omega
theorem wb_lt2 {a b : Nat} (h : a < b) : 2 ^ a < 2 ^ b := Nat.pow_lt_pow_right (by decide) h
theorem wb_mod (n : Nat) : lN n = lN (n % 2 ^ 64) := wb_inj (by rw [wb_tb, wb_tb]; apply BitVec.eq_of_toNat_eq; rw [BitVec.toNat_ofNat, BitVec.toNat_ofNat, Nat.mod_mod])
theorem wb_shr {n k : Nat} (hn : n < 2 ^ 64) (hk : k < 64) : ((lN n).toUInt64 >>> ((nI k).toInt64.toUInt64 &&& Int64.toUInt64 63)).toInt64 = lN (n / 2 ^ k) := by
  rw [wb_cu k hk]
  apply wb_inj
  apply BitVec.eq_of_toNat_eq
  show ((lN n).toUInt64 >>> UInt64.ofNat k).toNat = (BitVec.ofNat 64 _).toNat
  have h1 : (UInt64.ofNat k).toNat = k := by
    show (BitVec.ofNat 64 k).toNat = k
    rw [BitVec.toNat_ofNat, Nat.mod_eq_of_lt (by omega)]
  have h2 : (lN n).toUInt64.toNat = n := wb_tn hn
  rw [UInt64.toNat_shiftRight, h1, h2, Nat.mod_eq_of_lt hk, Nat.shiftRight_eq_div_pow, BitVec.toNat_ofNat, Nat.mod_eq_of_lt (Nat.lt_of_le_of_lt (Nat.div_le_self _ _) hn)]
theorem wb_shl (n : Nat) {k : Nat} (hk : k < 64) : lN n <<< ((nI k).toInt64 &&& 63) = lN (n * 2 ^ k) := by
  rw [wb_c k hk]
  apply wb_inj
  rw [Int64.toBitVec_shiftLeft, wb_tb, wb_tb, wb_tb, wb_sm k hk]
  apply BitVec.eq_of_toNat_eq
  rw [BitVec.shiftLeft_eq', BitVec.toNat_shiftLeft, BitVec.toNat_ofNat, BitVec.toNat_ofNat, BitVec.toNat_ofNat, Nat.mod_eq_of_lt (show k < 2 ^ 64 by omega), Nat.shiftLeft_eq, Nat.mul_mod, Nat.mod_mod, ← Nat.mul_mod]
theorem wb_and {a b : Nat} (ha : a < 2 ^ 64) (hb : b < 2 ^ 64) : lN a &&& lN b = lN (a &&& b) := by
  apply wb_inj
  rw [Int64.toBitVec_and, wb_tb, wb_tb, wb_tb]
  apply BitVec.eq_of_toNat_eq
  rw [BitVec.toNat_and, BitVec.toNat_ofNat, BitVec.toNat_ofNat, BitVec.toNat_ofNat, Nat.mod_eq_of_lt ha, Nat.mod_eq_of_lt hb, Nat.mod_eq_of_lt (Nat.and_lt_two_pow _ hb)]
theorem wb_or {a b : Nat} (ha : a < 2 ^ 64) (hb : b < 2 ^ 64) : lN a ||| lN b = lN (a ||| b) := by
  apply wb_inj
  rw [Int64.toBitVec_or, wb_tb, wb_tb, wb_tb]
  apply BitVec.eq_of_toNat_eq
  rw [BitVec.toNat_or, BitVec.toNat_ofNat, BitVec.toNat_ofNat, BitVec.toNat_ofNat, Nat.mod_eq_of_lt ha, Nat.mod_eq_of_lt hb, Nat.mod_eq_of_lt (Nat.or_lt_two_pow ha hb)]
theorem wb_mask {n k : Nat} (hn : n < 2 ^ 64) (hk : k < 64) : lN n &&& lN (2 ^ k - 1) = lN (n % 2 ^ k) := by
  rw [wb_and hn (by have := wb_lt2 hk; omega), Nat.and_two_pow_sub_one_eq_mod]
theorem wb_a1 {n : Nat} (hn : n < 2 ^ 64) : lN n &&& 1 = lN (n % 2) := wb_mask (k := 1) hn (by decide)
theorem wb_bit {n k : Nat} (hn : n < 2 ^ 64) (hk : k < 64) : ((lN n).toUInt64 >>> ((nI k).toInt64.toUInt64 &&& Int64.toUInt64 63)).toInt64 &&& 1 = lN (n / 2 ^ k % 2) := by
  rw [wb_shr hn hk, wb_a1 (Nat.lt_of_le_of_lt (Nat.div_le_self _ _) hn)]
theorem wb_xor {q k : Nat} (hk : k < 63) (h : 2 ^ k ≤ q) (h2 : q < 2 ^ (k + 1)) : lN q ^^^ lN (2 ^ k) = lN (q - 2 ^ k) := by
  obtain ⟨r, rfl⟩ : ∃ r, q = 2 ^ k + r := ⟨q - 2 ^ k, by omega⟩
  have hr : r < 2 ^ k := by rw [Nat.pow_succ] at h2; omega
  have hx : (2 ^ k + r) ^^^ 2 ^ k = r := by
    apply Nat.eq_of_testBit_eq
    intro i
    rw [Nat.testBit_xor, Nat.testBit_two_pow]
    rcases Nat.lt_trichotomy i k with h | h | h
    · rw [Nat.testBit_two_pow_add_gt h]
      simp [show ¬ k = i by omega]
    · subst h
      rw [Nat.testBit_two_pow_add_eq]
      simp
    · have a1 : 2 ^ (k + 1) ≤ 2 ^ i := Nat.pow_le_pow_right (by decide) h
      rw [Nat.testBit_lt_two_pow (show 2 ^ k + r < 2 ^ i by omega), Nat.testBit_lt_two_pow (show r < 2 ^ i by omega)]
      simp [show ¬ k = i by omega]
  have b1 := wb_lt2 (show k + 1 < 64 by omega)
  have b2 := wb_lt2 (show k < 64 by omega)
  apply wb_inj
  rw [Int64.toBitVec_xor, wb_tb, wb_tb, wb_tb]
  apply BitVec.eq_of_toNat_eq
  rw [BitVec.toNat_xor, BitVec.toNat_ofNat, BitVec.toNat_ofNat, BitVec.toNat_ofNat, Nat.mod_eq_of_lt (by omega : 2 ^ k + r < 2 ^ 64), Nat.mod_eq_of_lt b2, hx, Nat.add_sub_cancel_left, Nat.mod_eq_of_lt (by omega)]
/-! ===== lN: masks, 'or' of parts that don't overlap is a sum ===== -/
theorem u_tn {n : Nat} (h : n < 2 ^ 64) : (UInt64.ofNat n).toNat = n := Nat.mod_eq_of_lt h
theorem g_and {a b c : Nat} (ha : a < 2 ^ 64) (hb : b < 2 ^ 64) (hc : a &&& b = c) : lN a &&& lN b = lN c := by
  subst hc
  have h : UInt64.ofNat a &&& UInt64.ofNat b = UInt64.ofNat (a &&& b) := UInt64.toNat_inj.mp (by rw [UInt64.toNat_and, u_tn ha, u_tn hb, u_tn (Nat.and_lt_two_pow a hb)])
  have h2 := congrArg UInt64.toInt64 h
  exact h2
theorem g_and1 {a : Nat} (ha : a < 2 ^ 64) : lN a &&& 1 = lN (a % 2) := g_and (b := 1) ha (by decide) (Nat.and_two_pow_sub_one_eq_mod a 1)
theorem g_mask {a s p : Nat} (hp : 2 ^ s = p) (hs : s < 64) (ha : a < 2 ^ 64) : lN a &&& lN (p - 1) = lN (a % p) := by
  subst hp
  have := Nat.pow_lt_pow_right (show 1 < 2 by decide) hs
  exact g_and ha (by omega) (Nat.and_two_pow_sub_one_eq_mod a s)
theorem g_or {k p a b : Nat} (hp : 2 ^ k = p) (ha : a < p) (h : b * p + a < 2 ^ 64) : lN (b * p) ||| lN a = lN (b * p + a) := by
  subst hp
  have h1 : b * 2 ^ k ||| a = b * 2 ^ k + a := by rw [← Nat.shiftLeft_eq, Nat.shiftLeft_add_eq_or_of_lt ha]
  have h3 : UInt64.ofNat (b * 2 ^ k) ||| UInt64.ofNat a = UInt64.ofNat (b * 2 ^ k + a) := UInt64.toNat_inj.mp (by rw [UInt64.toNat_or, u_tn (by omega), u_tn (by omega), u_tn h, h1])
  have h2 := congrArg UInt64.toInt64 h3
  exact h2
theorem g_or' {k p a b : Nat} (hp : 2 ^ k = p) (ha : a < p) (h : a + b * p < 2 ^ 64) : lN a ||| lN (b * p) = lN (a + b * p) := by
  rw [Int64.or_comm, g_or hp ha (by omega), Nat.add_comm]
theorem g_ushr {a k p : Nat} {y : UInt64} (hy : y = UInt64.ofNat k) (hk : k < 64) (hp : 2 ^ k = p) (ha : a < 2 ^ 64) : ((lN a).toUInt64 >>> y).toInt64 = lN (a / p) := by
  subst hy hp
  have h : UInt64.ofNat a >>> UInt64.ofNat k = UInt64.ofNat (a / 2 ^ k) := UInt64.toNat_inj.mp (by rw [UInt64.toNat_shiftRight, u_tn ha, u_tn (by omega), u_tn (Nat.lt_of_le_of_lt (Nat.div_le_self _ _) ha), Nat.mod_eq_of_lt hk, Nat.shiftRight_eq_div_pow])
  have h2 := congrArg UInt64.toInt64 h
  exact h2
theorem g_shl {a k p : Nat} {y : Int64} (hy : y.toBitVec.smod 64 = BitVec.ofNat 64 k) (hk : k < 64) (hp : 2 ^ k = p) (ha : a < 2 ^ 64) : lN a <<< y = lN (a * p) := by
  subst hp
  apply Int64.toBitVec_inj.mp
  rw [Int64.toBitVec_shiftLeft, hy]
  apply BitVec.eq_of_toNat_eq
  have hb : (lN a).toBitVec.toNat = a := Nat.mod_eq_of_lt ha
  have hk' : (BitVec.ofNat 64 k).toNat = k := Nat.mod_eq_of_lt (by omega)
  have h : ((lN a).toBitVec <<< BitVec.ofNat 64 k).toNat = (a * 2 ^ k) % 2 ^ 64 := by simp only [BitVec.shiftLeft_eq', BitVec.toNat_shiftLeft, hb, hk', Nat.shiftLeft_eq]
  exact h
theorem fa_and (a b : Nat) : nI a &&& nI b = nI (a &&& b) := by
  apply Int32.toBitVec_inj.1
  show BitVec.ofNat 32 a &&& BitVec.ofNat 32 b = BitVec.ofNat 32 (a &&& b)
  apply BitVec.eq_of_getLsbD_eq
  intro i hi
  simp [hi]
theorem fa_or (a b : Nat) : nI a ||| nI b = nI (a ||| b) := by
  apply Int32.toBitVec_inj.1
  show BitVec.ofNat 32 a ||| BitVec.ofNat 32 b = BitVec.ofNat 32 (a ||| b)
  apply BitVec.eq_of_getLsbD_eq
  intro i hi
  simp [hi]
/-! bits over whole numbers -/
theorem zI_n (n : Nat) : zI (n : Int) = nI n := Int32.ofInt_eq_ofNat
theorem zJ_n (n : Nat) : zJ (n : Int) = lN n := Int64.ofInt_eq_ofNat
theorem z_and {a b : Nat} (ha : a < 2147483648) : zand (a : Int) (b : Int) = ((a &&& b : Nat) : Int) := by
  unfold zand
  rw [zI_n, zI_n, fa_and, nI_toInt (Nat.lt_of_le_of_lt Nat.and_le_left ha)]
theorem z_or {a b : Nat} (ha : a < 2147483648) (hb : b < 2147483648) : zor (a : Int) (b : Int) = ((a ||| b : Nat) : Int) := by
  unfold zor
  rw [zI_n, zI_n, fa_or, nI_toInt (Nat.or_lt_two_pow (n := 31) ha hb)]
theorem z_xor {a b : Nat} (ha : a < 2147483648) (hb : b < 2147483648) : zxor (a : Int) (b : Int) = ((a ^^^ b : Nat) : Int) := by
  unfold zxor
  have hx : nI a ^^^ nI b = nI (a ^^^ b) := by
    apply Int32.toBitVec_inj.mp
    show BitVec.ofNat 32 a ^^^ BitVec.ofNat 32 b = BitVec.ofNat 32 (a ^^^ b)
    apply BitVec.eq_of_toNat_eq
    rw [BitVec.toNat_xor, BitVec.toNat_ofNat, BitVec.toNat_ofNat, BitVec.toNat_ofNat, Nat.mod_eq_of_lt (show a < 2 ^ 32 by omega), Nat.mod_eq_of_lt (show b < 2 ^ 32 by omega), Nat.mod_eq_of_lt]
    exact Nat.lt_of_lt_of_le (Nat.xor_lt_two_pow (n := 31) ha hb) (by decide)
  rw [zI_n, zI_n, hx, nI_toInt (Nat.xor_lt_two_pow (n := 31) ha hb)]
theorem zsh_l : ∀ k, k < 32 → ((nI k &&& 31).toBitVec.smod 32).toNat = k := by decide +kernel
theorem zsh_u : ∀ k, k < 32 → (((nI k).toUInt32 &&& Int32.toUInt32 31).toBitVec % 32).toNat = k := by decide +kernel
theorem z_shl {a k : Nat} (hk : k < 32) (h : a * 2 ^ k < 2147483648) : zshl (a : Int) (k : Int) = ((a * 2 ^ k : Nat) : Int) := by
  unfold zshl
  rw [zI_n, zI_n, pk_shlN _ k (zsh_l k hk) (by omega), nI_toInt h]
theorem z_shr {a k : Nat} (hk : k < 32) (h : a < 2147483648) : zshr (a : Int) (k : Int) = ((a / 2 ^ k : Nat) : Int) := by
  unfold zshr
  rw [zI_n, zI_n, pk_shrN h _ k (zsh_l k hk), nI_toInt (Nat.lt_of_le_of_lt (Nat.div_le_self _ _) h)]
theorem z_ushr {a k : Nat} (hk : k < 32) (h : a < 2147483648) : zushr (a : Int) (k : Int) = ((a / 2 ^ k : Nat) : Int) := by
  unfold zushr
  rw [zI_n, zI_n, pk_ushrN (by omega) _ k (zsh_u k hk), nI_toInt (Nat.lt_of_le_of_lt (Nat.div_le_self _ _) h)]
theorem z_1 : ((1 : Nat) : Int) = 1 := rfl
/-- bits that stand in a and not in b -/
theorem z_andn {a b : Nat} (ha : a < 2147483648) : zand (a : Int) (zxor (b : Int) (-1)) = ((a ^^^ (a &&& b) : Nat) : Int) := by
  unfold zand zxor
  rw [zI_of, zI_n, zI_n]
  have hx : nI a &&& (nI b ^^^ zI (-1)) = nI (a ^^^ (a &&& b)) := by
    apply Int32.toBitVec_inj.mp
    show BitVec.ofNat 32 a &&& (BitVec.ofNat 32 b ^^^ BitVec.allOnes 32) = BitVec.ofNat 32 (a ^^^ (a &&& b))
    apply BitVec.eq_of_getLsbD_eq
    intro i hi
    simp only [BitVec.getLsbD_and, BitVec.getLsbD_xor, BitVec.getLsbD_ofNat, BitVec.getLsbD_allOnes, Nat.testBit_xor, Nat.testBit_and, hi, decide_true, Bool.true_and]
    cases a.testBit i <;> cases b.testBit i <;> rfl
  rw [hx, nI_toInt]
  exact Nat.xor_lt_two_pow (n := 31) ha (Nat.lt_of_le_of_lt Nat.and_le_left ha)
-- a long, by its bits
def zU (v : Int) : Nat := (v % 18446744073709551616).toNat
theorem zU_lt (v : Int) : zU v < 2 ^ 64 := by
  have h1 := Int.emod_nonneg v (show (18446744073709551616 : Int) ≠ 0 by decide)
  have h2 := Int.emod_lt_of_pos v (show (0 : Int) < 18446744073709551616 by decide)
  unfold zU
  omega
theorem zJ_u (v : Int) : zJ v = lN (zU v) := by
  rw [← zJ_n]
  apply Int64.toInt_inj.mp
  have h1 := Int.emod_nonneg v (show (18446744073709551616 : Int) ≠ 0 by decide)
  show (Int64.ofInt v).toInt = (Int64.ofInt _).toInt
  rw [Int64.toInt_ofInt, Int64.toInt_ofInt]
  unfold zU
  rw [Int.toNat_of_nonneg h1]
  show v.bmod 18446744073709551616 = (v % 18446744073709551616).bmod 18446744073709551616
  exact (Int.emod_bmod v 18446744073709551616).symm
theorem lN_ti {m : Nat} (h : m < 2 ^ 64) : (lN m).toInt = if m < 2 ^ 63 then (m : Int) else (m : Int) - 2 ^ 64 := by
  show (lN m).toBitVec.toInt = _
  rw [BitVec.toInt_eq_toNat_cond, wb_tn h]
  by_cases h1 : m < 2 ^ 63
  · rw [if_pos (by omega), if_pos h1]
  · rw [if_neg (by omega), if_neg h1]; rfl
theorem zLushr_e {v : Int} {s : Nat} (hs : s < 64) : zLushr v (s : Int) = (lN (zU v / 2 ^ s)).toInt := by
  unfold zLushr
  rw [zI_n, zJ_u, wb_shr (zU_lt v) hs]
theorem zLushr_r (v s : Int) : zrl (zLushr v s) := ⟨Int64.le_toInt _, Int64.toInt_lt _⟩
theorem zLshr_r (v s : Int) : zrl (zLshr v s) := ⟨Int64.le_toInt _, Int64.toInt_lt _⟩
theorem zand_r (a b : Int) : zrg (zand a b) := ⟨Int32.le_toInt _, Int32.toInt_lt _⟩
theorem zor_r (a b : Int) : zrg (zor a b) := ⟨Int32.le_toInt _, Int32.toInt_lt _⟩
theorem zshl_r (a b : Int) : zrg (zshl a b) := ⟨Int32.le_toInt _, Int32.toInt_lt _⟩
theorem zi2b_r (a : Int) : -128 ≤ zi2b a ∧ zi2b a ≤ 127 := by
  unfold zi2b
  rw [Int8.toInt_toInt32]
  have h1 := Int8.le_toInt (zI a).toInt8
  have h2 := Int8.toInt_lt (zI a).toInt8
  omega
theorem zwsm : ∀ k, k < 64 → ((nI k).toInt64 &&& 63).toBitVec.smod 64 = BitVec.ofNat 64 k := by decide +kernel
theorem zLshr_e {v : Int} {s : Nat} (hv : zrl v) (hs : s < 64) : zLshr v (s : Int) = v / 2 ^ s := by
  unfold zLshr
  rw [zI_n]
  show (zJ v >>> ((nI s).toInt64 &&& 63)).toBitVec.toInt = _
  rw [Int64.toBitVec_shiftRight, zwsm s hs, BitVec.sshiftRight_eq', BitVec.toInt_sshiftRight, BitVec.toNat_ofNat, Nat.mod_eq_of_lt (by omega)]
  have h1 : (zJ v).toBitVec.toInt = v := zJ_toInt hv
  rw [h1, Int.shiftRight_eq_div_pow]
  rfl
theorem zand_m (z : Int) (k : Nat) (hk : k ≤ 30) (m : Nat) (hm : m = 2 ^ k - 1) : zand z (m : Int) = z % (2 ^ k : Nat) := by
  unfold zand
  subst hm
  rw [zI_n, pk_and (zI z) (m := nI (2 ^ k - 1)) k (by
    have h1 : 2 ^ k - 1 < 2 ^ 32 := by
      have := Nat.pow_le_pow_right (show 0 < 2 by decide) hk
      omega
    exact pk_tn h1)]
  have hp : 2 ^ k ≤ 2 ^ 30 := Nat.pow_le_pow_right (by decide) hk
  have hpos : 0 < 2 ^ k := Nat.two_pow_pos k
  have hlt := Nat.mod_lt (zI z).toBitVec.toNat hpos
  rw [nI_toInt (by omega)]
  have e : ((zI z).toBitVec.toNat : Int) = z % 4294967296 := by
    show ((BitVec.ofInt 32 z).toNat : Int) = _
    rw [BitVec.toNat_ofInt, Int.toNat_of_nonneg (Int.emod_nonneg _ (by decide))]
    rfl
  rw [Int.natCast_emod, e]
  apply Int.emod_emod_of_dvd
  obtain ⟨c, hc⟩ : ∃ c : Nat, 4294967296 = 2 ^ k * c := ⟨2 ^ (32 - k), by rw [← Nat.pow_add, show k + (32 - k) = 32 by omega]⟩
  exact ⟨(c : Int), by rw [← Int.natCast_mul, ← hc]; rfl⟩
theorem zLand15 (z : Int) : zLand z 15 = z % 16 := by
  unfold zLand
  rw [show (15 : Int) = ((15 : Nat) : Int) from rfl, zJ_n, zJ_u, wb_mask (k := 4) (zU_lt z) (by decide)]
  have h1 := Nat.mod_lt (zU z) (show 0 < 2 ^ 4 by decide)
  rw [lN_ti (by omega), if_pos (by omega)]
  have h2 := Int.emod_nonneg z (show (18446744073709551616 : Int) ≠ 0 by decide)
  unfold zU
  omega
theorem zi2b_e (z : Int) : zi2b z = sgn (z % 256) := by
  unfold zi2b
  rw [Int8.toInt_toInt32]
  have e : (zI z).toInt8 = Int8.ofInt z := Int32.toInt8_ofInt
  rw [e, Int8.toInt_ofInt]
  show z.bmod 256 = _
  rw [Int.bmod_def]
  unfold sgn
  rfl
theorem z_low {v : Int} {s : Nat} (hs : s ≤ 56) : (zLushr v (s : Int)) % 256 = (v / 2 ^ s) % 256 := by
  rw [zLushr_e (by omega)]
  have hU := zU_lt v
  have h0 : zU v / 2 ^ s < 2 ^ 64 := Nat.lt_of_le_of_lt (Nat.div_le_self _ _) hU
  rw [lN_ti h0]
  have h1 : ((zU v : Nat) : Int) = v % 18446744073709551616 := by
    have h2 := Int.emod_nonneg v (show (18446744073709551616 : Int) ≠ 0 by decide)
    unfold zU
    omega
  have h3 : v = (zU v : Int) + 18446744073709551616 * (v / 18446744073709551616) := by
    rw [h1]
    have := Int.emod_add_mul_ediv v 18446744073709551616
    omega
  have h4 : (18446744073709551616 : Int) = 2 ^ s * (256 * 2 ^ (56 - s)) := by
    rw [show (256 : Int) = 2 ^ 8 from rfl, ← Int.pow_add, ← Int.pow_add, show s + (8 + (56 - s)) = 64 by omega]
    rfl
  have hp : (0 : Int) < 2 ^ s := Int.pow_pos (by decide)
  have h5 : v / 2 ^ s = (zU v : Int) / 2 ^ s + 256 * (2 ^ (56 - s) * (v / 18446744073709551616)) := by
    conv => lhs; rw [h3]
    rw [h4, Int.mul_assoc, Int.add_mul_ediv_left _ _ (by omega), Int.mul_assoc]
  have h6 : (((zU v / 2 ^ s : Nat) : Int)) = (zU v : Int) / 2 ^ s := by
    rw [Int.natCast_ediv, Int.natCast_pow]; rfl
  rw [h5, Int.add_mul_emod_self_left, ← h6]
  split
  · rfl
  · have : (2 : Int) ^ 64 = 256 * 72057594037927936 := by decide
    rw [this]
    omega
theorem z_hi {v : Int} {s : Nat} (h0 : 0 ≤ v) (h1 : v < 9223372036854775808) (hs : s < 64) : zLushr v (s : Int) = v / 2 ^ s := by
  rw [zLushr_e hs]
  have e : ((zU v : Nat) : Int) = v := by unfold zU; omega
  have hlt : zU v < 2 ^ 63 := by omega
  have h2 : zU v / 2 ^ s < 2 ^ 63 := Nat.lt_of_le_of_lt (Nat.div_le_self _ _) hlt
  rw [lN_ti (by omega), if_pos h2, Int.natCast_ediv, e, Int.natCast_pow]
  rfl
theorem z_neg {v : Int} {s : Nat} (h0 : v < 0) (h1 : -9223372036854775808 ≤ v) (hs : s < 64) : zLushr v (s : Int) ≠ 0 := by
  rw [zLushr_e hs]
  have hU : 2 ^ 63 ≤ zU v := by unfold zU; omega
  have hU2 := zU_lt v
  have h2 : 1 ≤ zU v / 2 ^ s := (Nat.le_div_iff_mul_le (Nat.two_pow_pos s)).mpr (by
    have := Nat.pow_le_pow_right (show 0 < 2 by decide) (show s ≤ 63 by omega)
    omega)
  have h3 : zU v / 2 ^ s < 2 ^ 64 := Nat.lt_of_le_of_lt (Nat.div_le_self _ _) hU2
  rw [lN_ti h3]
  split <;> omega
theorem z_pack {v a : Int} (h0 : 0 ≤ v) (h1 : v < 17592186044416) (ha : 0 ≤ a) (ha2 : a < 16) : zLor (zLshl v 4) a = 16 * v + a := by
  obtain ⟨n, rfl⟩ : ∃ n : Nat, v = n := ⟨v.toNat, by omega⟩
  obtain ⟨m, rfl⟩ : ∃ m : Nat, a = m := ⟨a.toNat, by omega⟩
  unfold zLor zLshl
  rw [zJ_of, show (4 : Int) = ((4 : Nat) : Int) from rfl, zI_n, zJ_n, zJ_n, wb_shl n (by decide), g_or (k := 4) (p := 2 ^ 4) rfl (by omega) (by omega), lN_ti (by omega), if_pos (by omega)]
  omega
