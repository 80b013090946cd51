/-! the search: the rows in their order, and the bits of the class -/
def upz (L : Nat → Int) (x : Nat) (y : Int) : Nat → Int := fun j => if j = x then y else L j
theorem upz_s (L : Nat → Int) (x : Nat) (y : Int) : upz L x y x = y := if_pos rfl
theorem upz_n {L : Nat → Int} {x j : Nat} {y : Int} (h : j ≠ x) : upz L x y j = L j := if_neg h
def sm (m kind t : Int) : Int := if kind = 0 then t else t % m
def okB (H : Nat → Int) (m kind one : Int) (x : Nat) (L : Nat → Int) (y : Nat) : Bool := decide ((H x = 15 ∨ H x = y) ∧ (one = 0 ∨ ∀ j, j < x → L j ≠ y) ∧ ∀ d, d < x → 1 ≤ d → ∀ c, c < x → d ≤ c → sm m kind ((y : Int) - L (x - d)) ≠ sm m kind (L c - L (c - d)))
theorem okB_iff {H : Nat → Int} {m kind one : Int} {x : Nat} {L : Nat → Int} {y : Nat} : okB H m kind one x L y = true ↔ ((H x = 15 ∨ H x = y) ∧ (one = 0 ∨ ∀ j, j < x → L j ≠ y) ∧ ∀ d, d < x → 1 ≤ d → ∀ c, c < x → d ≤ c → sm m kind ((y : Int) - L (x - d)) ≠ sm m kind (L c - L (c - d))) := decide_eq_true_iff
def sf (g : Nat → List (Nat → Int)) : Nat → Nat → List (Nat → Int)
  | 0, _ => []
  | q + 1, y => g y ++ sf g q (y + 1)
def sols (H : Nat → Int) (m : Nat) (kind one : Int) : Nat → Nat → (Nat → Int) → List (Nat → Int)
  | 0, _, L => [L]
  | r + 1, x, L => sf (fun y => if okB H m kind one x L y = true then sols H m kind one r (x + 1) (upz L x y) else []) m 0
def sg (H : Nat → Int) (m : Nat) (kind one : Int) (r x : Nat) (L : Nat → Int) (y : Nat) : List (Nat → Int) := if okB H m kind one x L y = true then sols H m kind one r (x + 1) (upz L x y) else []
theorem sols_s (H : Nat → Int) (m : Nat) (kind one : Int) (r x : Nat) (L : Nat → Int) : sols H m kind one (r + 1) x L = sf (sg H m kind one r x L) m 0 := rfl
theorem sf_len {g : Nat → List (Nat → Int)} {B : Nat} : ∀ (q y : Nat), (∀ i, (g i).length ≤ B) → (sf g q y).length ≤ q * B
  | 0, _, _ => Nat.zero_le _
  | q + 1, y, h => by
    have ih := sf_len (g := g) q (y + 1) h
    have h1 := h y
    show (g y ++ sf g q (y + 1)).length ≤ (q + 1) * B
    rw [List.length_append, Nat.add_mul, Nat.one_mul]
    omega
theorem sols_len (H : Nat → Int) (m : Nat) (kind one : Int) : ∀ (r x : Nat) (L : Nat → Int), (sols H m kind one r x L).length ≤ m ^ r
  | 0, _, _ => Nat.le_refl 1
  | r + 1, x, L => by
    rw [sols_s, Nat.pow_succ, Nat.mul_comm]
    refine sf_len m 0 (fun i => ?_)
    unfold sg
    split
    · exact sols_len H m kind one r (x + 1) (upz L x i)
    · exact Nat.zero_le _
/-- steps that stand at distance d among the first x columns -/
def sb (m kind s : Int) : Nat := if kind = 0 then 2 ^ (12 + s).toNat else 2 ^ (12 + s % m).toNat ||| 2 ^ (12 + s % m - m).toNat
def st (m kind : Int) (L : Nat → Int) (d : Nat) : Nat → Nat
  | 0 => 0
  | x + 1 => if d ≤ x then st m kind L d x ^^^ sb m kind (L x - L (x - d)) else st m kind L d x
theorem pow25 {e : Nat} (h : e < 25) : 2 ^ e < 2 ^ 25 := Nat.pow_lt_pow_right (by decide) h
theorem sb_lt {m kind s : Int} (hm : 1 ≤ m ∧ m ≤ 12) (hs : -12 ≤ s ∧ s ≤ 12) : sb m kind s < 2 ^ 25 := by
  have b := md_b s hm.1
  unfold sb
  split
  · exact pow25 (by omega)
  · exact Nat.or_lt_two_pow (pow25 (by omega)) (pow25 (by omega))
theorem sb_bit {m kind s : Int} {i : Nat} (hm : 1 ≤ m ∧ m ≤ 12) (hs : -12 ≤ s) : (sb m kind s).testBit i = true ↔ (kind = 0 ∧ (i : Int) = 12 + s) ∨ (kind ≠ 0 ∧ ((i : Int) = 12 + s % m ∨ (i : Int) = 12 + s % m - m)) := by
  have b := md_b s hm.1
  unfold sb
  split
  · rename_i h
    rw [Nat.testBit_two_pow, decide_eq_true_iff]
    omega
  · rename_i h
    rw [Nat.testBit_or, Bool.or_eq_true, Nat.testBit_two_pow, Nat.testBit_two_pow, decide_eq_true_iff, decide_eq_true_iff]
    omega
theorem sb_sm {m kind s t : Int} {i : Nat} (hm : 1 ≤ m ∧ m ≤ 12) (hs : -12 ≤ s) (ht : -12 ≤ t) (h1 : (sb m kind s).testBit i = true) (h2 : (sb m kind t).testBit i = true) : sm m kind s = sm m kind t := by
  rw [sb_bit hm hs] at h1
  rw [sb_bit hm ht] at h2
  have b1 := md_b s hm.1
  have b2 := md_b t hm.1
  unfold sm
  split
  · omega
  · omega
theorem sb_atz {m kind s t : Int} (hm : 1 ≤ m ∧ m ≤ 12) (hs : -12 ≤ s) (ht : -m < t ∧ t < m) : (sb m kind s).testBit (12 + t).toNat = true ↔ sm m kind t = sm m kind s := by
  rw [sb_bit hm hs]
  have b1 := md_b s hm.1
  have e : t % m = if 0 ≤ t then t else t + m := by
    split
    · exact Int.emod_eq_of_lt (by omega) (by omega)
    · rw [← Int.add_emod_right]
      exact Int.emod_eq_of_lt (by omega) (by omega)
  unfold sm
  by_cases hk : kind = 0
  · rw [if_pos hk, if_pos hk]
    omega
  · rw [if_neg hk, if_neg hk, e]
    split <;> omega
def LBz (m : Int) (L : Nat → Int) (x : Nat) : Prop := ∀ j, j < x → 0 ≤ L j ∧ L j < m
def LPz (m kind : Int) (L : Nat → Int) (x : Nat) : Prop := ∀ d c e, 1 ≤ d → d ≤ e → e < c → c < x → sm m kind (L c - L (c - d)) ≠ sm m kind (L e - L (e - d))
theorem st_bit {m kind : Int} {L : Nat → Int} {d i : Nat} (hm : 1 ≤ m ∧ m ≤ 12) (hd : 1 ≤ d) : ∀ x : Nat, LBz m L x → LPz m kind L x → ((st m kind L d x).testBit i = true ↔ ∃ c, d ≤ c ∧ c < x ∧ (sb m kind (L c - L (c - d))).testBit i = true)
  | 0, _, _ => by
    show (0 : Nat).testBit i = true ↔ _
    rw [Nat.zero_testBit]
    exact ⟨fun h => absurd h (by decide), fun ⟨c, _, hc, _⟩ => absurd hc (by omega)⟩
  | x + 1, hb, hp => by
    have ih := st_bit (i := i) hm hd x (fun j hj => hb j (by omega)) (fun d c e h1 h2 h3 h4 => hp d c e h1 h2 h3 (by omega))
    by_cases hx : d ≤ x
    · rw [show st m kind L d (x + 1) = st m kind L d x ^^^ sb m kind (L x - L (x - d)) from if_pos hx, Nat.testBit_xor]
      have nb : ¬ ((st m kind L d x).testBit i = true ∧ (sb m kind (L x - L (x - d))).testBit i = true) := fun ⟨h1, h2⟩ => by
        obtain ⟨c, hc1, hc2, hc3⟩ := ih.mp h1
        have b1 := hb x (by omega)
        have b2 := hb (x - d) (by omega)
        have b3 := hb c (by omega)
        have b4 := hb (c - d) (by omega)
        exact hp d x c hd hc1 hc2 (by omega) (sb_sm hm (by omega) (by omega) h2 hc3)
      constructor
      · intro h
        by_cases h2 : (sb m kind (L x - L (x - d))).testBit i = true
        · exact ⟨x, hx, by omega, h2⟩
        · rw [Bool.not_eq_true] at h2
          rw [h2, Bool.xor_false] at h
          obtain ⟨c, hc1, hc2, hc3⟩ := ih.mp h
          exact ⟨c, hc1, by omega, hc3⟩
      · rintro ⟨c, hc1, hc2, hc3⟩
        by_cases hcx : c = x
        · subst hcx
          have h1 : (st m kind L d c).testBit i = false := by
            rw [← Bool.not_eq_true]
            exact fun h => nb ⟨h, hc3⟩
          rw [h1, hc3]
          rfl
        · have h1 := ih.mpr ⟨c, hc1, by omega, hc3⟩
          have h2 : (sb m kind (L x - L (x - d))).testBit i = false := by
            rw [← Bool.not_eq_true]
            exact fun h => nb ⟨h1, h⟩
          rw [h1, h2]
          rfl
    · rw [show st m kind L d (x + 1) = st m kind L d x from if_neg hx, ih]
      constructor
      · rintro ⟨c, hc1, hc2, hc3⟩
        exact ⟨c, hc1, by omega, hc3⟩
      · rintro ⟨c, hc1, hc2, hc3⟩
        exact ⟨c, hc1, by omega, hc3⟩
theorem st_lt {m kind : Int} {L : Nat → Int} {d : Nat} (hm : 1 ≤ m ∧ m ≤ 12) : ∀ x : Nat, LBz m L x → st m kind L d x < 2 ^ 25
  | 0, _ => show (0 : Nat) < 2 ^ 25 by decide
  | x + 1, hb => by
    have ih := st_lt (kind := kind) (d := d) hm x (fun j hj => hb j (by omega))
    have b1 := hb x (by omega)
    have b2 := hb (x - d) (by omega)
    by_cases hx : d ≤ x
    · rw [show st m kind L d (x + 1) = st m kind L d x ^^^ sb m kind (L x - L (x - d)) from if_pos hx]
      exact Nat.xor_lt_two_pow ih (sb_lt hm (by omega))
    · rw [show st m kind L d (x + 1) = st m kind L d x from if_neg hx]
      exact ih
theorem st_congr {m kind : Int} {L M : Nat → Int} {d : Nat} : ∀ x : Nat, (∀ j, j < x → L j = M j) → st m kind L d x = st m kind M d x
  | 0, _ => rfl
  | x + 1, h => by
    have ih := st_congr (m := m) (kind := kind) (d := d) x (fun j hj => h j (by omega))
    show (if d ≤ x then st m kind L d x ^^^ sb m kind (L x - L (x - d)) else st m kind L d x) = (if d ≤ x then st m kind M d x ^^^ sb m kind (M x - M (x - d)) else st m kind M d x)
    rw [ih, h x (by omega), h (x - d) (by omega)]
/-- the lines that are free in column x -/
def fl (m kind : Int) (L : Nat → Int) (x f0 : Nat) : Nat → Nat
  | 0 => f0
  | e + 1 => fl m kind L x f0 e ^^^ (fl m kind L x f0 e &&& (st m kind L (e + 1) x / 2 ^ (12 - L (x - (e + 1))).toNat))
theorem fl_bit {m kind : Int} {L : Nat → Int} {x f0 i : Nat} : ∀ e : Nat, (fl m kind L x f0 e).testBit i = true ↔ (f0.testBit i = true ∧ ∀ d, 1 ≤ d → d ≤ e → (st m kind L d x).testBit (i + (12 - L (x - d)).toNat) = false)
  | 0 => ⟨fun h => ⟨h, fun d h1 h2 => absurd h2 (by omega)⟩, fun h => h.1⟩
  | e + 1 => by
    have ih := fl_bit (m := m) (kind := kind) (L := L) (x := x) (f0 := f0) (i := i) e
    show (fl m kind L x f0 e ^^^ (fl m kind L x f0 e &&& (st m kind L (e + 1) x / 2 ^ (12 - L (x - (e + 1))).toNat))).testBit i = true ↔ _
    rw [Nat.testBit_xor, Nat.testBit_and, Nat.testBit_div_two_pow]
    constructor
    · intro h
      have h1 : (fl m kind L x f0 e).testBit i = true := by
        rw [← Bool.not_eq_false]
        intro hf
        rw [hf] at h
        exact absurd h (by simp)
      have h2 := ih.mp h1
      rw [h1] at h
      refine ⟨h2.1, fun d a b => ?_⟩
      by_cases hd : d = e + 1
      · subst hd
        rw [← Bool.not_eq_true]
        intro ht
        rw [ht] at h
        exact absurd h (by decide)
      · exact h2.2 d a (by omega)
    · intro ⟨h1, h2⟩
      rw [ih.mpr ⟨h1, fun d a b => h2 d a (by omega)⟩, h2 (e + 1) (by omega) (by omega)]
      rfl
theorem fl_0 {m kind : Int} {L : Nat → Int} {x f0 e : Nat} (h : fl m kind L x f0 e = 0) : ∀ j : Nat, fl m kind L x f0 (e + j) = 0
  | 0 => h
  | j + 1 => by
    have ih := fl_0 h j
    show fl m kind L x f0 (e + j) ^^^ (fl m kind L x f0 (e + j) &&& (st m kind L (e + j + 1) x / 2 ^ (12 - L (x - (e + j + 1))).toNat)) = 0
    rw [ih, Nat.zero_and, Nat.xor_zero]
/-- what may stand in a column by the held row, and what is taken -/
def hb (H : Nat → Int) (m : Nat) (x : Nat) : Nat := if H x = 15 then 2 ^ m - 1 else 2 ^ (H x).toNat
def tk (one : Int) (L : Nat → Int) (x : Nat) : Nat := if one = 0 then 0 else mk L x
theorem fl_ok {H L : Nat → Int} {m x y : Nat} {kind one : Int} (hm : 1 ≤ m ∧ m ≤ 12) (hH : H x = 15 ∨ (0 ≤ H x ∧ H x < m)) (hL : LBz m L x) (hP : LPz m kind L x) : (fl m kind L x (hb H m x ^^^ (hb H m x &&& tk one L x)) x).testBit y = true ↔ (y < m ∧ okB H m kind one x L y = true) := by
  have hm' : 1 ≤ (m : Int) ∧ (m : Int) ≤ 12 := by omega
  have hbit : (hb H m x).testBit y = true ↔ (y < m ∧ (H x = 15 ∨ H x = y)) := by
    unfold hb
    split
    · rename_i h
      rw [Nat.testBit_two_pow_sub_one, decide_eq_true_iff]
      exact ⟨fun a => ⟨a, Or.inl h⟩, fun a => a.1⟩
    · rename_i h
      rw [Nat.testBit_two_pow, decide_eq_true_iff]
      omega
  have tbit : (tk one L x).testBit y = true ↔ (one ≠ 0 ∧ ∃ j, j < x ∧ L j = y) := by
    unfold tk
    split
    · rename_i h
      rw [Nat.zero_testBit]
      exact ⟨fun a => absurd a (by decide), fun a => absurd h a.1⟩
    · rename_i h
      rw [mk_bit]
      constructor
      · rintro ⟨j, hj, e⟩
        have := hL j hj
        exact ⟨h, j, hj, by omega⟩
      · rintro ⟨_, j, hj, e⟩
        exact ⟨j, hj, by omega⟩
  have base : (hb H m x ^^^ (hb H m x &&& tk one L x)).testBit y = true ↔ (y < m ∧ (H x = 15 ∨ H x = y)) ∧ (one = 0 ∨ ∀ j, j < x → L j ≠ y) := by
    rw [Nat.testBit_xor, Nat.testBit_and, ← hbit]
    by_cases h1 : (hb H m x).testBit y = true
    · rw [h1]
      by_cases h2 : (tk one L x).testBit y = true
      · rw [h2]
        have h3 := tbit.mp h2
        obtain ⟨h4, j, hj, e⟩ := h3
        exact ⟨fun a => absurd a (by decide), fun a => (a.2.elim (fun b => absurd b h4) (fun b => absurd e (b j hj)))⟩
      · rw [Bool.not_eq_true] at h2
        rw [h2]
        refine ⟨fun _ => ⟨rfl, ?_⟩, fun _ => rfl⟩
        by_cases h4 : one = 0
        · exact Or.inl h4
        · refine Or.inr (fun j hj e => ?_)
          have := tbit.mpr ⟨h4, j, hj, e⟩
          rw [h2] at this
          exact absurd this (by decide)
    · rw [Bool.not_eq_true] at h1
      rw [h1]
      exact ⟨fun a => absurd a (by simp), fun a => absurd a.1 (by decide)⟩
  rw [fl_bit, base, okB_iff]
  have step : ∀ d, 1 ≤ d → d ≤ x → y < m → ((st m kind L d x).testBit (y + (12 - L (x - d)).toNat) = false ↔ ∀ c, c < x → d ≤ c → sm m kind ((y : Int) - L (x - d)) ≠ sm m kind (L c - L (c - d))) := fun d h1 h2 hy => by
    have b2 := hL (x - d) (by omega)
    have e1 : y + (12 - L (x - d)).toNat = (12 + ((y : Int) - L (x - d))).toNat := by omega
    rw [← Bool.not_eq_true, e1, st_bit hm' h1 x hL hP]
    constructor
    · intro hn c hc1 hc2 e
      have b3 := hL c hc1
      have b4 := hL (c - d) (by omega)
      exact hn ⟨c, hc2, hc1, (sb_atz hm' (by omega) (by omega)).mpr e⟩
    · rintro hn ⟨c, hc1, hc2, hc3⟩
      have b3 := hL c hc2
      have b4 := hL (c - d) (by omega)
      exact hn c hc2 hc1 ((sb_atz hm' (by omega) (by omega)).mp hc3)
  constructor
  · rintro ⟨⟨⟨a, b⟩, c⟩, e⟩
    exact ⟨a, b, c, fun d h1 h2 => (step d h2 (by omega) a).mp (e d h2 (by omega))⟩
  · rintro ⟨a, b, c, e⟩
    refine ⟨⟨⟨a, b⟩, c⟩, fun d h1 h2 => (step d h1 h2 a).mpr ?_⟩
    by_cases hd : d = x
    · intro c hc1 hc2
      omega
    · exact e d (by omega) h1
theorem ok_next {H L : Nat → Int} {m x y : Nat} {kind one : Int} (hL : LBz m L x) (hP : LPz m kind L x) (hy : y < m) (h : okB H m kind one x L y = true) : LBz m (upz L x y) (x + 1) ∧ LPz m kind (upz L x y) (x + 1) := by
  have h3 := (okB_iff.mp h).2.2
  refine ⟨fun j hj => ?_, fun d c e h1 h2 h4 h5 => ?_⟩
  · by_cases e : j = x
    · subst e; rw [upz_s]; omega
    · rw [upz_n e]; exact hL j (by omega)
  · rw [upz_n (show e ≠ x by omega), upz_n (show e - d ≠ x by omega)]
    by_cases hc : c = x
    · subst hc
      rw [upz_s, upz_n (show c - d ≠ c by omega)]
      exact h3 d (by omega) h1 e h4 h2
    · rw [upz_n hc, upz_n (show c - d ≠ x by omega)]
      exact hP d c e h1 h2 h4 (by omega)
