/-! nearly(): pure part -/
def Gz (L : Nat → Int) (n a c d : Nat) : Int := if 1 ≤ d ∧ a < c ∧ c + d < n then (if L (a + d) - L a = L (c + d) - L c then 1 else 0) else 0
theorem Gz_b (L : Nat → Int) (n a c d : Nat) : 0 ≤ Gz L n a c d ∧ Gz L n a c d ≤ 1 := by
  unfold Gz
  split
  · split <;> omega
  · omega
def nz (L : Nat → Int) (x d a : Nat) : Int := if 1 ≤ d ∧ a + d < x then (if L (a + d) - L a = L x - L (x - d) then 1 else 0) else 0
theorem nz_b (L : Nat → Int) (x d a : Nat) : 0 ≤ nz L x d a ∧ nz L x d a ≤ 1 := by
  unfold nz
  split
  · split <;> omega
  · omega
def Qz (L : Nat → Int) (x : Nat) : Int := zs (fun d => zs (fun a => zs (fun c => Gz L x a c d) 6) 6) 6
def nwz (L : Nat → Int) (x : Nat) : Int := zs (fun d => zs (fun a => nz L x d a) 6) 6
theorem nwz_b (L : Nat → Int) (x : Nat) : 0 ≤ nwz L x ∧ nwz L x ≤ 36 := by
  have := zs_b (f := fun d => zs (fun a => nz L x d a) 6) (c := 6) (by decide) 6 (fun d _ => by
    have := zs_b (f := fun a => nz L x d a) (c := 1) (by decide) 6 (fun a _ => nz_b L x d a)
    show 0 ≤ zs (fun a => nz L x d a) 6 ∧ zs (fun a => nz L x d a) 6 ≤ 6
    omega)
  unfold nwz
  omega
theorem Qz_b (L : Nat → Int) (x : Nat) : 0 ≤ Qz L x ∧ Qz L x ≤ 216 := by
  have := zs_b (f := fun d => zs (fun a => zs (fun c => Gz L x a c d) 6) 6) (c := 36) (by decide) 6 (fun d _ => by
    have := zs_b (f := fun a => zs (fun c => Gz L x a c d) 6) (c := 6) (by decide) 6 (fun a _ => by
      have := zs_b (f := fun c => Gz L x a c d) (c := 1) (by decide) 6 (fun c _ => Gz_b L x a c d)
      show 0 ≤ zs (fun c => Gz L x a c d) 6 ∧ zs (fun c => Gz L x a c d) 6 ≤ 6
      omega)
    show 0 ≤ zs (fun a => zs (fun c => Gz L x a c d) 6) 6 ∧ zs (fun a => zs (fun c => Gz L x a c d) 6) 6 ≤ 36
    omega)
  unfold Qz
  omega
theorem Qz_step (L : Nat → Int) {x : Nat} (hx : x < 6) : Qz L (x + 1) = Qz L x + nwz L x := by
  unfold Qz nwz
  rw [← zs_add]
  refine zs_congr 6 (fun d _ => ?_)
  rw [← zs_add]
  refine zs_congr 6 (fun a _ => ?_)
  have e : zs (fun c => Gz L (x + 1) a c d) 6 = zs (fun c => Gz L x a c d + (if c + d = x ∧ 1 ≤ d ∧ a < c then (if L (a + d) - L a = L (c + d) - L c then 1 else 0) else 0)) 6 := zs_congr 6 (fun c _ => by
    show Gz L (x + 1) a c d = Gz L x a c d + (if c + d = x ∧ 1 ≤ d ∧ a < c then (if L (a + d) - L a = L (c + d) - L c then 1 else 0) else 0)
    unfold Gz
    by_cases h1 : 1 ≤ d ∧ a < c ∧ c + d < x + 1
    · rw [if_pos h1]
      by_cases h2 : c + d = x
      · rw [if_neg (show ¬ (1 ≤ d ∧ a < c ∧ c + d < x) by omega), if_pos (show c + d = x ∧ 1 ≤ d ∧ a < c by omega), Int.zero_add]
      · rw [if_pos (show 1 ≤ d ∧ a < c ∧ c + d < x by omega), if_neg (show ¬ (c + d = x ∧ 1 ≤ d ∧ a < c) by omega), Int.add_zero]
    · rw [if_neg h1, if_neg (show ¬ (1 ≤ d ∧ a < c ∧ c + d < x) by omega), if_neg (show ¬ (c + d = x ∧ 1 ≤ d ∧ a < c) by omega)]
      rfl)
  rw [e, zs_add]
  congr 1
  unfold nz
  by_cases h : 1 ≤ d ∧ a + d < x
  · rw [if_pos h, zs_one (j0 := x - d) 6 (by omega) (fun c _ hc => if_neg (by omega))]
    show (if x - d + d = x ∧ 1 ≤ d ∧ a < x - d then (if L (a + d) - L a = L (x - d + d) - L (x - d) then (1 : Int) else 0) else 0) = _
    rw [if_pos (by omega), show x - d + d = x by omega]
  · rw [if_neg h]
    exact zs_zero 6 (fun c _ => if_neg (by omega))
theorem Gz_congr {L M : Nat → Int} {n a c d : Nat} (h : ∀ j, j < n → L j = M j) : Gz L n a c d = Gz M n a c d := by
  unfold Gz
  by_cases h1 : 1 ≤ d ∧ a < c ∧ c + d < n
  · rw [if_pos h1, if_pos h1, h (a + d) (by omega), h a (by omega), h (c + d) (by omega), h c (by omega)]
  · rw [if_neg h1, if_neg h1]
theorem Qz_congr {L M : Nat → Int} {n : Nat} (h : ∀ j, j < n → L j = M j) : Qz L n = Qz M n := zs_congr 6 (fun d _ => zs_congr 6 (fun a _ => zs_congr 6 (fun c _ => Gz_congr h)))
theorem Qz_0 (L : Nat → Int) : Qz L 0 = 0 := zs_zero 6 (fun d _ => zs_zero 6 (fun a _ => zs_zero 6 (fun c _ => if_neg (by omega))))
/-- all different -/
def di (L : Nat → Int) : Nat → Int
  | 0 => 1
  | x + 1 => if di L x = 1 ∧ ∀ j, j < x → L j ≠ L x then 1 else 0
theorem di_or (L : Nat → Int) : ∀ x : Nat, di L x = 0 ∨ di L x = 1
  | 0 => Or.inr rfl
  | x + 1 => by
    show (if di L x = 1 ∧ ∀ j, j < x → L j ≠ L x then (1 : Int) else 0) = 0 ∨ (if di L x = 1 ∧ ∀ j, j < x → L j ≠ L x then (1 : Int) else 0) = 1
    split <;> omega
theorem di_congr {L M : Nat → Int} : ∀ x : Nat, (∀ j, j < x → L j = M j) → di L x = di M x
  | 0, _ => rfl
  | x + 1, h => by
    have ih := di_congr x (fun j hj => h j (by omega))
    have e : (di L x = 1 ∧ ∀ j, j < x → L j ≠ L x) ↔ (di M x = 1 ∧ ∀ j, j < x → M j ≠ M x) := by
      rw [ih]
      refine and_congr_right (fun _ => ⟨fun a j hj => ?_, fun a j hj => ?_⟩)
      · rw [← h j (by omega), ← h x (by omega)]; exact a j hj
      · rw [h j (by omega), h x (by omega)]; exact a j hj
    show (if di L x = 1 ∧ ∀ j, j < x → L j ≠ L x then (1 : Int) else 0) = (if di M x = 1 ∧ ∀ j, j < x → M j ≠ M x then (1 : Int) else 0)
    by_cases c : di L x = 1 ∧ ∀ j, j < x → L j ≠ L x
    · rw [if_pos c, if_pos (e.mp c)]
    · rw [if_neg c, if_neg (fun d => c (e.mpr d))]
theorem di_mono (L : Nat → Int) : ∀ (d x : Nat), di L x ≠ 1 → di L (x + d) ≠ 1
  | 0, _, h => h
  | d + 1, x, h => by
    have ih := di_mono L d x h
    rw [show di L (x + (d + 1)) = 0 from if_neg (fun c => ih c.1)]
    decide
def ind (n : Nat) (q : Int) (L : Nat → Int) : Int := if di L n = 1 ∧ Qz L n = q then 1 else 0
theorem ind_congr {n : Nat} {q : Int} {L M : Nat → Int} (h : ∀ j, j < n → L j = M j) : ind n q L = ind n q M := by
  unfold ind
  rw [di_congr n h, Qz_congr h]
/-- by columns, the class's way -/
def cn (n : Nat) : Nat → Nat → (Nat → Int) → Int → Int
  | 0, _, _, q => if q = 0 then 1 else 0
  | r + 1, x, L, q => zs (fun y => if ∀ j, j < x → L j ≠ y then cn n r (x + 1) (upz L x y) (q - nwz (upz L x y) x) else 0) n
def Tn (n : Nat) (f : (Nat → Int) → Int) : Nat → Nat → (Nat → Int) → Int
  | 0, _, L => f L
  | r + 1, x, L => zs (fun y => Tn n f r (x + 1) (upz L x y)) n
theorem cn_neg (n : Nat) : ∀ (r x : Nat) (L : Nat → Int) (q : Int), q < 0 → cn n r x L q = 0
  | 0, _, _, q, h => if_neg (by omega)
  | r + 1, x, L, q, h => zs_zero n (fun y _ => by
    show (if ∀ j, j < x → L j ≠ y then cn n r (x + 1) (upz L x y) (q - nwz (upz L x y) x) else 0) = 0
    have := nwz_b (upz L x y) x
    split
    · exact cn_neg n r (x + 1) _ _ (by omega)
    · rfl)
theorem cn_b (n : Nat) : ∀ (r x : Nat) (L : Nat → Int) (q : Int), 0 ≤ cn n r x L q ∧ cn n r x L q ≤ ((n ^ r : Nat) : Int)
  | 0, _, _, q => by
    show 0 ≤ (if q = 0 then (1 : Int) else 0) ∧ (if q = 0 then (1 : Int) else 0) ≤ ((1 : Nat) : Int)
    split <;> omega
  | r + 1, x, L, q => by
    have := zs_b (f := fun y => if ∀ j, j < x → L j ≠ y then cn n r (x + 1) (upz L x y) (q - nwz (upz L x y) x) else 0) (c := ((n ^ r : Nat) : Int)) (by omega) n (fun y _ => by
      have ih := cn_b n r (x + 1) (upz L x y) (q - nwz (upz L x y) x)
      show 0 ≤ (if ∀ j, j < x → L j ≠ y then cn n r (x + 1) (upz L x y) (q - nwz (upz L x y) x) else 0) ∧ (if ∀ j, j < x → L j ≠ y then cn n r (x + 1) (upz L x y) (q - nwz (upz L x y) x) else 0) ≤ ((n ^ r : Nat) : Int)
      split <;> omega)
    have e : ((n ^ (r + 1) : Nat) : Int) = ((n ^ r : Nat) : Int) * (n : Int) := by rw [Nat.pow_succ, Int.natCast_mul]
    rw [e]
    exact this
theorem Tn_0 {n : Nat} {q : Int} : ∀ (r x : Nat) (L : Nat → Int), x + r = n → di L x ≠ 1 → Tn n (ind n q) r x L = 0
  | 0, x, L, hx, h => by
    obtain rfl : x = n := by omega
    exact if_neg (fun c => h c.1)
  | r + 1, x, L, hx, h => zs_zero n (fun y _ => Tn_0 r (x + 1) (upz L x y) (by omega) (by
    rw [show di (upz L x y) (x + 1) = 0 from if_neg (fun c => h (by rw [← di_congr (L := upz L x y) x (fun j hj => upz_n (by omega))]; exact c.1))]
    decide))
theorem Tn_cn {n : Nat} {q : Int} (hn : n ≤ 6) : ∀ (r x : Nat) (L : Nat → Int), x + r = n → di L x = 1 → Tn n (ind n q) r x L = cn n r x L (q - Qz L x)
  | 0, x, L, hx, h => by
    obtain rfl : x = n := by omega
    show (if di L x = 1 ∧ Qz L x = q then (1 : Int) else 0) = if q - Qz L x = 0 then 1 else 0
    by_cases e : Qz L x = q
    · rw [if_pos ⟨h, e⟩, if_pos (by omega)]
    · rw [if_neg (fun c => e c.2), if_neg (by omega)]
  | r + 1, x, L, hx, h => by
    refine zs_congr n (fun y _ => ?_)
    show Tn n (ind n q) r (x + 1) (upz L x y) = if ∀ j, j < x → L j ≠ y then cn n r (x + 1) (upz L x y) (q - Qz L x - nwz (upz L x y) x) else 0
    have dx : di (upz L x y) x = 1 := by rw [di_congr (M := L) x (fun j hj => upz_n (by omega))]; exact h
    by_cases c : ∀ j, j < x → L j ≠ y
    · rw [if_pos c, Tn_cn hn r (x + 1) (upz L x y) (by omega) (if_pos ⟨dx, fun j hj => by rw [upz_n (by omega), upz_s]; exact c j hj⟩), Qz_step (upz L x y) (by omega), Qz_congr (M := L) (fun j hj => upz_n (by omega))]
      congr 1
      omega
    · rw [if_neg c]
      refine Tn_0 r (x + 1) _ (by omega) (fun hd => c (fun j hj => ?_))
      have hd' : (if di (upz L x y) x = 1 ∧ ∀ j, j < x → upz L x y j ≠ upz L x y x then (1 : Int) else 0) = 1 := hd
      split at hd'
      · rename_i hh
        have := hh.2 j hj
        rw [upz_n (by omega), upz_s] at this
        exact this
      · exact absurd hd' (by decide)
/-- by codes, the reference's way -/
def dg (n x : Nat) (L : Nat → Int) (c : Nat) (r : Nat) : Nat → Int := fun j => if x ≤ j ∧ j < x + r then ((c / n ^ (j - x) % n : Nat) : Int) else L j
theorem zs_mul (g : Nat → Int) (n : Nat) : ∀ N : Nat, zs g (n * N) = zs (fun c => zs (fun y => g (n * c + y)) n) N
  | 0 => rfl
  | N + 1 => by
    have key : ∀ (b k : Nat), zs g (b + k) = zs g b + zs (fun y => g (b + y)) k := fun b k => by
      induction k with
      | zero => show zs g b = zs g b + 0; omega
      | succ k ih =>
        show zs g (b + k) + g (b + k) = zs g b + (zs (fun y => g (b + y)) k + g (b + k))
        rw [ih]; omega
    rw [Nat.mul_succ, key, zs_mul g n N]
    rfl
theorem code_T {n : Nat} {f : (Nat → Int) → Int} (hn : 1 ≤ n) (hf : ∀ L M : Nat → Int, (∀ j, j < n → L j = M j) → f L = f M) : ∀ (r x : Nat) (L : Nat → Int), x + r = n → zs (fun c => f (dg n x L c r)) (n ^ r) = Tn n f r x L
  | 0, x, L, hx => by
    show 0 + f (dg n x L 0 0) = f L
    rw [Int.zero_add]
    exact hf _ _ (fun j hj => if_neg (by omega))
  | r + 1, x, L, hx => by
    rw [Nat.pow_succ, Nat.mul_comm, zs_mul, zs_comm]
    refine zs_congr n (fun y hy => ?_)
    rw [← code_T hn hf r (x + 1) (upz L x y) (by omega)]
    refine zs_congr _ (fun c _ => hf _ _ (fun j hj => ?_))
    unfold dg
    by_cases h1 : x ≤ j
    · rw [if_pos (by omega)]
      by_cases h2 : j = x
      · subst h2
        rw [if_neg (by omega), upz_s, Nat.sub_self, Nat.pow_zero, Nat.div_one, Nat.mul_add_mod, Nat.mod_eq_of_lt hy]
      · rw [if_pos (by omega), show j - x = (j - (x + 1)) + 1 by omega, Nat.pow_succ, Nat.mul_comm (n ^ (j - (x + 1))) n, ← Nat.div_div_eq_div_mul, Nat.mul_add_div (by omega), Nat.div_eq_of_lt hy, Nat.add_zero]
    · rw [if_neg (by omega), if_neg (by omega), upz_n (by omega)]
