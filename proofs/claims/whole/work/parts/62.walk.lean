/-! the search: the class's parts -/
theorem pcn_add (f : Nat) : ∀ (a b y : Nat), pcn f (a + b) y = pcn f a y + pcn f b (y + a)
  | 0, b, y => by rw [Nat.zero_add]; show pcn f b y = 0 + pcn f b (y + 0); rw [Nat.zero_add, Nat.add_zero]
  | a + 1, b, y => by
    rw [show a + 1 + b = (a + b) + 1 by omega]
    show (if f.testBit y = true then 1 else 0) + pcn f (a + b) (y + 1) = (if f.testBit y = true then 1 else 0) + pcn f a (y + 1) + pcn f b (y + (a + 1))
    rw [pcn_add f a b (y + 1), show y + 1 + a = y + (a + 1) by omega]
    omega
theorem pcn_0 {f m : Nat} (hf : ∀ i, m ≤ i → f.testBit i = false) : ∀ (q y : Nat), m ≤ y → pcn f q y = 0
  | 0, _, _ => rfl
  | q + 1, y, h => by
    show (if f.testBit y = true then 1 else 0) + pcn f q (y + 1) = 0
    rw [pcn_0 hf q (y + 1) (by omega), hf y h]
    rfl
theorem bc_m {f m : Nat} (hm : m ≤ 12) (hf : ∀ i, m ≤ i → f.testBit i = false) : bcI (f : Int) = ((pcn f m 0 : Nat) : Int) := by
  have hlt : f < 2 ^ 12 := Nat.lt_pow_two_of_testBit f (fun i hi => hf i (by omega))
  have h := bc_ok ⟨f, hlt⟩
  have e : pcn f 12 0 = pcn f m 0 := by
    have := pcn_add f m (12 - m) 0
    rw [show m + (12 - m) = 12 by omega, Nat.zero_add, pcn_0 hf (12 - m) m (Nat.le_refl _)] at this
    exact this
  rw [e] at h
  exact h
theorem zbit {f y : Nat} (hf : f < 2 ^ 25) (hy : y < 32) : zand (zshr (f : Int) (y : Int)) 1 = if f.testBit y = true then 1 else 0 := by
  rw [z_shr hy (by omega), show (1 : Int) = ((1 : Nat) : Int) from rfl, zand_m _ 1 (by decide) 1 rfl, Nat.testBit_eq_decide_div_mod_eq]
  by_cases h : f / 2 ^ y % 2 = 1
  · rw [if_pos (decide_eq_true h)]
    show ((f / 2 ^ y : Nat) : Int) % 2 = 1
    omega
  · rw [if_neg (by rw [decide_eq_true_iff]; exact h)]
    show ((f / 2 ^ y : Nat) : Int) % 2 = 0
    omega
theorem zpow {e : Nat} (h : e < 31) : zshl 1 (e : Int) = ((2 ^ e : Nat) : Int) := by
  have hp : 2 ^ e ≤ 2 ^ 30 := Nat.pow_le_pow_right (by decide) (by omega)
  rw [← z_1, z_shl (by omega) (by omega), Nat.one_mul]
theorem stepBits_s {m kind v : Int} {s : Hp} {k : Int → Hp → Prop} (hm : 1 ≤ m ∧ m ≤ 12) (hkd : kind = 0 ∨ kind = 1) (h4 : s 6 4 = m) (h5 : s 6 5 = kind) (hv : -12 ≤ v ∧ v ≤ 12) (hk : k ((sb m kind v : Nat) : Int) s) : wX4_stepBits v s k := by
  unfold wX4_stepBits
  rw [h5]
  have b := md_b v hm.1
  refine ⟨zr (by omega) (by omega), fun hc => ?_, fun hc => ?_⟩
  · rw [h4]
    refine rest_s (zr (by omega) (by omega)) (zr (by omega) (by omega)) (by omega) ?_
    rw [h4]
    have e1 : zshl 1 (12 + v % m) = ((2 ^ (12 + v % m).toNat : Nat) : Int) := by
      have := zpow (e := (12 + v % m).toNat) (by omega)
      rw [show (((12 + v % m).toNat : Nat) : Int) = 12 + v % m by omega] at this
      exact this
    have e2 : zshl 1 (12 + v % m - m) = ((2 ^ (12 + v % m - m).toNat : Nat) : Int) := by
      have := zpow (e := (12 + v % m - m).toNat) (by omega)
      rw [show (((12 + v % m - m).toNat : Nat) : Int) = 12 + v % m - m by omega] at this
      exact this
    have p1 := pow25 (e := (12 + v % m).toNat) (by omega)
    have p2 := pow25 (e := (12 + v % m - m).toNat) (by omega)
    rw [e1, e2, z_or (by omega) (by omega)]
    rw [show sb m kind v = 2 ^ (12 + v % m).toNat ||| 2 ^ (12 + v % m - m).toNat from if_neg hc] at hk
    exact hk
  · have e1 : zshl 1 (12 + v) = ((2 ^ (12 + v).toNat : Nat) : Int) := by
      have := zpow (e := (12 + v).toNat) (by omega)
      rw [show (((12 + v).toNat : Nat) : Int) = 12 + v by omega] at this
      exact this
    rw [e1]
    rw [show sb m kind v = 2 ^ (12 + v).toNat from if_pos (by omega)] at hk
    exact hk
def P8 (q : Nat) : Prop := q = 8
theorem flip_s {m kind : Int} {x : Nat} {s : Hp} {a : Nat → Nat} {k : Hp → Prop} (hm : 1 ≤ m ∧ m ≤ 12) (hkd : kind = 0 ∨ kind = 1) (h4 : s 6 4 = m) (h5 : s 6 5 = kind) (hx : x < 12) (h7 : ∀ j, j ≤ x → 0 ≤ s 7 j ∧ s 7 j < m) (h8 : ∀ d, 1 ≤ d → d ≤ x → s 8 d = ((a d : Nat) : Int) ∧ a d < 2 ^ 25) (hk : ∀ t, Off P8 s t → (∀ d, 1 ≤ d → d ≤ x → t 8 d = ((a d ^^^ sb m kind (s 7 x - s 7 (x - d)) : Nat) : Int)) → (∀ d, x < d → t 8 d = s 8 d) → k t) : wX4_flipSteps x s k := by
  have key : ∀ (q d : Nat) (t : Hp), d + q = x + 1 → 1 ≤ d → Off P8 s t → (∀ e, 1 ≤ e → e < d → t 8 e = ((a e ^^^ sb m kind (s 7 x - s 7 (x - e)) : Nat) : Int)) → (∀ e, d ≤ e → t 8 e = s 8 e) → wX4_flipSteps_2 k (q + 1) x d t := by
    intro q
    induction q with
    | zero =>
      intro d t hd h1 ht ha hb
      exact ⟨zr (by omega) (by omega), zr (by omega) (by omega), fun _ => hk t ht (fun e h1 h2 => ha e h1 (by omega)) (fun e he => hb e (by omega)), fun hc => by omega⟩
    | succ q ih =>
      intro d t hd h1 ht ha hb
      have t7 : t 7 = s 7 := ht 7 (by unfold P8; omega)
      have t6 : t 6 = s 6 := ht 6 (by unfold P8; omega)
      have b1 := h7 x (Nat.le_refl _)
      have b2 := h7 (x - d) (by omega)
      have b3 := h8 d h1 (by omega)
      refine ⟨zr (by omega) (by omega), zr (by omega) (by omega), fun hc => by omega, fun _ => ⟨⟨by omega, by omega⟩, ⟨by omega, by omega⟩, ⟨by omega, by omega⟩, ?_⟩⟩
      rw [Int.toNat_natCast, show ((x : Int) - (d : Int)).toNat = x - d by omega, t7, Int.toNat_natCast]
      refine stepBits_s hm hkd (by rw [t6, h4]) (by rw [t6, h5]) (by omega) ?_
      have sl := sb_lt (kind := kind) hm (s := s 7 x - s 7 (x - d)) (by omega)
      rw [hb d (Nat.le_refl _), b3.1, z_xor (by omega) (by omega)]
      have ih := ih (d + 1) (zst t 8 d ((a d ^^^ sb m kind (s 7 x - s 7 (x - d)) : Nat) : Int)) (by omega) (by omega) (ht.st rfl) (fun e h1 h2 => by
        by_cases he : e = d
        · subst he; rw [zst_s]
        · rw [zst_n (Or.inr he), ha e h1 (by omega)]) (fun e he => by rw [zst_n (Or.inr (by omega)), hb e (by omega)])
      rw [show ((d + 1 : Nat) : Int) = (d : Int) + 1 by omega] at ih
      exact ih
  exact ⟨_, key x 1 s (by omega) (Nat.le_refl _) (Off.rf _ _) (fun e h1 h2 => absurd h2 (by omega)) (fun _ _ => rfl)⟩
theorem fl_lt {m kind : Int} {L : Nat → Int} {x f0 : Nat} (h : f0 < 2 ^ 12) : ∀ e : Nat, fl m kind L x f0 e < 2 ^ 12
  | 0 => h
  | e + 1 => Nat.xor_lt_two_pow (fl_lt h e) (Nat.lt_of_le_of_lt Nat.and_le_left (fl_lt h e))
theorem free_s {H L : Nat → Int} {m x T : Nat} {kind : Int} {s : Hp} {k : Int → Hp → Prop} (hm : 1 ≤ m ∧ m ≤ 12) (hx : x < 12) (hH : H x = 15 ∨ (0 ≤ H x ∧ H x < m)) (hL : LBz m L x) (h7 : ∀ j, j < x → s 7 j = L j) (h8 : ∀ d, 1 ≤ d → d ≤ x → s 8 d = ((st m kind L d x : Nat) : Int)) (h9 : s 9 x = ((hb H m x : Nat) : Int)) (hk : k ((fl m kind L x (hb H m x ^^^ (hb H m x &&& T)) x : Nat) : Int) s) : wX4_freeLines x T s k := by
  have hm' : 1 ≤ (m : Int) ∧ (m : Int) ≤ 12 := by omega
  have hbl : hb H m x < 2 ^ 12 := by
    unfold hb
    split
    · have : 2 ^ m ≤ 2 ^ 12 := Nat.pow_le_pow_right (by decide) hm.2
      have : 1 ≤ 2 ^ m := Nat.one_le_two_pow
      omega
    · exact Nat.pow_lt_pow_right (by decide) (by omega)
  have h0l : hb H m x ^^^ (hb H m x &&& T) < 2 ^ 12 := Nat.xor_lt_two_pow hbl (Nat.lt_of_le_of_lt Nat.and_le_left hbl)
  have key : ∀ (q e : Nat), e + q = x → wX4_freeLines_14 k (q + 1) x (fl m kind L x (hb H m x ^^^ (hb H m x &&& T)) e) ((e : Int) + 1) s := by
    intro q
    induction q with
    | zero =>
      intro e he
      obtain rfl : e = x := by omega
      exact ⟨zr (by omega) (by omega), zr (by omega) (by omega), fun _ => hk, fun hc => by omega⟩
    | succ q ih =>
      intro e he
      have fb := fl_lt (m := m) (kind := kind) (L := L) (x := x) h0l e
      refine ⟨zr (by omega) (by omega), zr (by omega) (by omega), fun hc => by omega, fun _ => ⟨zr (by omega) (by omega), fun h0 => ?_, fun _ => ⟨⟨by omega, by omega⟩, ⟨by omega, by omega⟩, ?_⟩⟩⟩
      · have z0 : fl m kind L x (hb H m x ^^^ (hb H m x &&& T)) e = 0 := by omega
        have zx := fl_0 z0 (x - e)
        rw [show e + (x - e) = x by omega] at zx
        rw [zx] at hk
        rw [z0]
        exact hk
      · have b := hL (x - (e + 1)) (by omega)
        have sl := st_lt (kind := kind) (d := e + 1) hm' x hL
        rw [show ((e : Int) + 1).toNat = e + 1 by omega, show ((x : Int) - ((e : Int) + 1)).toNat = x - (e + 1) by omega, h7 _ (by omega), h8 (e + 1) (by omega) (by omega), show (12 : Int) - L (x - (e + 1)) = (((12 - L (x - (e + 1))).toNat : Nat) : Int) by omega, z_ushr (by omega) (by omega), z_andn (by omega)]
        have ih := ih (e + 1) (by omega)
        rw [show ((e + 1 : Nat) : Int) = (e : Int) + 1 by omega] at ih
        exact ih
  unfold wX4_freeLines
  refine ⟨⟨by omega, by omega⟩, ?_⟩
  rw [Int.toNat_natCast, h9, z_andn (by omega)]
  exact ⟨_, key x 0 (by omega)⟩
