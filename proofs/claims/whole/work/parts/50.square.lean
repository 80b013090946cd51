/-! squares: each column one mark, each line one mark -/
theorem php : ∀ (m n : Nat) (f : Nat → Nat), (∀ v, v < m → ∃ j, j < n ∧ f j = v) → m ≤ n
  | 0, _, _, _ => Nat.zero_le _
  | m + 1, n, f, h => by
    obtain ⟨j0, hj0, e0⟩ := h m (by omega)
    have := php m (n - 1) (fun j => if j < j0 then f j else f (j + 1)) (fun v hv => by
      obtain ⟨j, hj, e⟩ := h v (by omega)
      have hne : j ≠ j0 := fun q => by subst q; omega
      by_cases hl : j < j0
      · exact ⟨j, by omega, by show (if j < j0 then f j else f (j + 1)) = v; rw [if_pos hl]; exact e⟩
      · refine ⟨j - 1, by omega, ?_⟩
        show (if j - 1 < j0 then f (j - 1) else f (j - 1 + 1)) = v
        rw [if_neg (by omega), show j - 1 + 1 = j by omega]
        exact e)
    omega
theorem php_inj (n : Nat) (f : Nat → Nat) (h : ∀ v, v < n → ∃ j, j < n ∧ f j = v) : ∀ i j, i < n → j < n → f i = f j → i = j := by
  have key : ∀ i j, i < j → j < n → f i ≠ f j := fun i j hij hj e => by
    have := php n (n - 1) (fun x => if x < j then f x else f (x + 1)) (fun v hv => by
      obtain ⟨x, hx, ex⟩ := h v hv
      by_cases hxj : x = j
      · subst hxj
        refine ⟨i, by omega, ?_⟩
        show (if i < x then f i else f (i + 1)) = v
        rw [if_pos hij, e, ex]
      · by_cases hl : x < j
        · exact ⟨x, by omega, by show (if x < j then f x else f (x + 1)) = v; rw [if_pos hl]; exact ex⟩
        · refine ⟨x - 1, by omega, ?_⟩
          show (if x - 1 < j then f (x - 1) else f (x - 1 + 1)) = v
          rw [if_neg (by omega), show x - 1 + 1 = x by omega]
          exact ex)
    omega
  intro i j hi hj e
  rcases Nat.lt_trichotomy i j with h1 | h1 | h1
  · exact absurd e (key i j h1 hj)
  · exact h1
  · exact absurd e.symm (key j i h1 hi)
theorem php_le (n m : Nat) (f : Nat → Nat) (hf : ∀ j, j < n → f j < m) (hi : ∀ i j, i < n → j < n → f i = f j → i = j) : n ≤ m := by
  refine php n m (fun v => if h : ∃ j, j < n ∧ f j = v then Classical.choose h else 0) (fun j hj => ⟨f j, hf j hj, ?_⟩)
  have hex : ∃ i, i < n ∧ f i = f j := ⟨j, hj, rfl⟩
  have hc := Classical.choose_spec hex
  show (if h : ∃ i, i < n ∧ f i = f j then Classical.choose h else 0) = j
  rw [dif_pos hex]
  exact hi _ _ hc.1 hj hc.2
theorem php_surj (n : Nat) (f : Nat → Nat) (hf : ∀ j, j < n → f j < n) (hi : ∀ i j, i < n → j < n → f i = f j → i = j) (v : Nat) (hv : v < n) : ∃ j, j < n ∧ f j = v := by
  refine Classical.byContradiction (fun hno => ?_)
  have hne : ∀ j, j < n → f j ≠ v := fun j hj e => hno ⟨j, hj, e⟩
  have := php_le n (n - 1) (fun j => if f j < v then f j else f j - 1) (fun j hj => by
    have h1 := hne j hj
    have h2 := hf j hj
    show (if f j < v then f j else f j - 1) < n - 1
    split <;> omega) (fun i j h1 h2 e => hi i j h1 h2 (by
    have e' : (if f i < v then f i else f i - 1) = (if f j < v then f j else f j - 1) := e
    have a1 := hne i h1
    have a2 := hne j h2
    split at e' <;> split at e' <;> omega))
  omega
def SqA (A : Nat → Int) (n : Nat) : Prop := (∀ x, x < n → A x ≠ 15) ∧ ∀ i j, i < n → j < n → A i = A j → i = j
def mk (A : Nat → Int) : Nat → Nat
  | 0 => 0
  | x + 1 => mk A x ||| 2 ^ (A x).toNat
theorem mk_bit (A : Nat → Int) (i : Nat) : ∀ x : Nat, (mk A x).testBit i = true ↔ ∃ j, j < x ∧ (A j).toNat = i
  | 0 => by
    show (0 : Nat).testBit i = true ↔ _
    rw [Nat.zero_testBit]
    exact ⟨fun h => absurd h (by decide), fun ⟨j, hj, _⟩ => absurd hj (by omega)⟩
  | x + 1 => by
    show (mk A x ||| 2 ^ (A x).toNat).testBit i = true ↔ _
    rw [Nat.testBit_or, Bool.or_eq_true, mk_bit A i x, Nat.testBit_two_pow, decide_eq_true_iff]
    constructor
    · rintro (⟨j, hj, e⟩ | e)
      · exact ⟨j, by omega, e⟩
      · exact ⟨x, by omega, e⟩
    · rintro ⟨j, hj, e⟩
      by_cases hjx : j = x
      · subst hjx; exact Or.inr e
      · exact Or.inl ⟨j, by omega, e⟩
theorem mk_lt {A : Nat → Int} : ∀ x : Nat, (∀ j, j < x → 0 ≤ A j ∧ A j ≤ 15) → mk A x < 2 ^ 16
  | 0, _ => show (0 : Nat) < 2 ^ 16 by decide
  | x + 1, h => by
    have hx := h x (by omega)
    exact Nat.or_lt_two_pow (mk_lt x (fun j hj => h j (by omega))) (Nat.pow_lt_pow_right (by decide) (by omega))
theorem mk_full {A : Nat → Int} {n : Nat} (hn : n ≤ 12) (hv : ∀ x, x < n → (0 ≤ A x ∧ A x < n) ∨ A x = 15) : mk A n = 2 ^ n - 1 ↔ SqA A n := by
  constructor
  · intro h
    have hb : ∀ i, (∃ j, j < n ∧ (A j).toNat = i) ↔ i < n := fun i => by
      rw [← mk_bit A i n, h, Nat.testBit_two_pow_sub_one, decide_eq_true_iff]
    have h15 : ∀ x, x < n → A x ≠ 15 := fun x hx e => by
      have := (hb 15).mp ⟨x, hx, by rw [e]; rfl⟩
      omega
    refine ⟨h15, fun i j hi hj e => ?_⟩
    exact php_inj n (fun x => (A x).toNat) (fun v hv2 => (hb v).mpr hv2) i j hi hj (by show (A i).toNat = (A j).toNat; rw [e])
  · intro ⟨h1, h2⟩
    have hr : ∀ x, x < n → 0 ≤ A x ∧ A x < n := fun x hx => (hv x hx).elim id (fun e => absurd e (h1 x hx))
    refine Nat.eq_of_testBit_eq (fun i => ?_)
    rw [Nat.testBit_two_pow_sub_one]
    by_cases hi : i < n
    · obtain ⟨j, hj, e⟩ := php_surj n (fun x => (A x).toNat) (fun j hj => by
        have := hr j hj
        show (A j).toNat < n
        omega) (fun i j hi hj e => h2 i j hi hj (by
        have a := hr i hi
        have b := hr j hj
        have e' : (A i).toNat = (A j).toNat := e
        omega)) i hi
      rw [(mk_bit A i n).mpr ⟨j, hj, e⟩]
      exact (decide_eq_true hi).symm
    · rw [decide_eq_false hi]
      refine Bool.eq_false_iff.mpr (fun hc => ?_)
      obtain ⟨j, hj, e⟩ := (mk_bit A i n).mp hc
      have := hr j hj
      omega
theorem isSquare_s {r : Nat} {σ : Hp} {k : Int → Hp → Prop} (hR : RW σ r) (ht : σ (29 + r) 0 = σ (29 + r) 1 → SqA (fun x => ra σ r x) (σ (29 + r) 0).toNat → k 1 σ) (hf : ¬ (σ (29 + r) 0 = σ (29 + r) 1 ∧ SqA (fun x => ra σ r x) (σ (29 + r) 0).toNat) → k 0 σ) : wX3_isSquare r σ k := by
  have hnb := hR.1
  have hmb := hR.2.1
  have key : ∀ (q x : Nat), (x : Int) + q = σ (29 + r) 0 → wX3_isSquare_4 k (q + 1) r (mk (fun x => ra σ r x) x) x σ := by
    intro q
    induction q with
    | zero =>
      intro x hx
      have hml := mk_lt (A := fun x => ra σ r x) x (fun j hj => ra_b hR j)
      have e12 : ((12 : Nat) : Int) = 12 := rfl
      refine ⟨zr (by omega) (by omega), zr (by omega) (by omega), fun _ => ⟨zr (by omega) (by omega), fun hne => hf (fun h => hne h.1), fun hne => ?_⟩, fun hc => by omega⟩
      have hnm : σ (29 + r) 0 = σ (29 + r) 1 := Classical.not_not.mp hne
      have hxn : (σ (29 + r) 0).toNat = x := by omega
      have hfull := mk_full (A := fun x => ra σ r x) (n := x) (by omega) (fun j hj => by
        rcases ra_v hR (j : Int) with h | h
        · exact Or.inl ⟨h.1, by have := h.2.1; show ra σ r j < x; omega⟩
        · exact Or.inr h)
      have hsh : zshl 1 (σ (29 + r) 0) = ((2 ^ x : Nat) : Int) := by
        have hp : 2 ^ x ≤ 2 ^ 12 := Nat.pow_le_pow_right (by decide) (by omega)
        rw [show σ (29 + r) 0 = (x : Int) by omega, ← z_1, z_shl (by omega) (by omega), Nat.one_mul]
      have hp1 : 1 ≤ 2 ^ x := Nat.one_le_two_pow
      have hp2 : 2 ^ x ≤ 2 ^ 12 := Nat.pow_le_pow_right (by decide) (by omega)
      rw [hsh]
      refine ⟨zr (by omega) (by omega), zr (by omega) (by omega), fun hc => ?_, fun hc => ?_⟩
      · refine hf (fun h => hc ?_)
        rw [hxn] at h
        have := hfull.mpr h.2
        rw [this]
        omega
      · refine ht hnm ?_
        rw [hxn]
        exact hfull.mp (by omega)
    | succ q ih =>
      intro x hx
      have hml := mk_lt (A := fun x => ra σ r x) x (fun j hj => ra_b hR j)
      refine ⟨zr (by omega) (by omega), zr (by omega) (by omega), fun hc => by omega, fun _ => ?_⟩
      refine lineAt_s hR.1 (zr (by omega) (by omega)) ?_
      have ih := ih (x + 1) (by omega)
      have rb := ra_b hR (x : Int)
      have e : zor (mk (fun x => ra σ r x) x) (zshl 1 (ra σ r x)) = ((mk (fun x => ra σ r x) (x + 1) : Nat) : Int) := by
        have hp : 2 ^ (ra σ r x).toNat ≤ 2 ^ 15 := Nat.pow_le_pow_right (by decide) (by omega)
        have e1 : zshl 1 (ra σ r x) = ((2 ^ (ra σ r x).toNat : Nat) : Int) := by
          have e2 : ra σ r x = (((ra σ r x).toNat : Nat) : Int) := by omega
          rw [e2, ← z_1, z_shl (by omega) (by omega), Nat.one_mul, Int.toNat_natCast]
        rw [e1, z_or (by omega) (by omega)]
        rfl
      rw [e]
      rw [show ((x + 1 : Nat) : Int) = (x : Int) + 1 by omega] at ih
      exact ih
  exact ⟨_, key (σ (29 + r) 0).toNat 0 (by omega)⟩
theorem copyFrom_s {r0 r1 N : Nat} {m : Int} {σ : Hp} {k : Hp → Prop} (hne : r0 ≠ r1) (hr1 : r1 ≤ 6) (hr0 : r0 ≤ 6) (hR : RW σ r1) (hN : σ (29 + r1) 0 = N) (hm : σ (29 + r1) 1 = m) (hk : k (pf σ r0 N m (fun x => ra σ r1 x) N)) : wX3_copyFrom r0 r1 σ k := by
  have hnb := hR.1
  have hmb := hR.2.1
  unfold wX3_copyFrom
  rw [hN, hm]
  refine shape_pf (fun x => ra σ r1 x) (by omega) (by omega) (by omega) (by omega) ?_
  have key : ∀ (q x : Nat), x + q = N → wX3_copyFrom_14 k (q + 1) r0 r1 x (pf σ r0 N m (fun x => ra σ r1 x) x) := by
    intro q
    induction q with
    | zero =>
      intro x hx
      obtain rfl : x = N := by omega
      refine ⟨zr (by omega) (by omega), by rw [pf_n]; exact zr (by omega) (by omega), fun _ => hk, fun hc => by rw [pf_n] at hc; omega⟩
    | succ q ih =>
      intro x hx
      refine ⟨zr (by omega) (by omega), by rw [pf_n]; exact zr (by omega) (by omega), fun hc => by rw [pf_n] at hc; omega, fun _ => ?_⟩
      have e1 : pf σ r0 N m (fun x => ra σ r1 x) x (29 + r1) = σ (29 + r1) := pf_o (by omega) (by omega)
      have e2 : pf σ r0 N m (fun x => ra σ r1 x) x (36 + r1) = σ (36 + r1) := pf_o (by omega) (by omega)
      refine lineAt_s (by rw [e1]; exact hR.1) (zr (by omega) (by omega)) ?_
      rw [ra_eq e1 e2]
      have rb := ra_b hR (x : Int)
      refine put_pf (by omega) (by omega) (by omega) (by omega) (by omega) (zr (by omega) (by omega)) rfl ?_
      have ih := ih (x + 1) (by omega)
      rw [show ((x + 1 : Nat) : Int) = (x : Int) + 1 by omega] at ih
      exact ih
  exact ⟨_, key N 0 (by omega)⟩
theorem isUnlike_s {x : Nat} {s : Hp} {k : Int → Hp → Prop} (hx : x < 12) (hb : ∀ j, j ≤ x → zrg (s 24 j)) (ht : (∀ j, j < x → s 24 j ≠ s 24 x) → k 1 s) (hf : ¬ (∀ j, j < x → s 24 j ≠ s 24 x) → k 0 s) : wX7_isUnlike x s k := by
  have l0 : ∀ (q i : Nat), i + q = x → k 0 s → wX7_isUnlike_4 k (q + 1) x 0 i s := by
    intro q
    induction q with
    | zero =>
      intro i hi hk
      exact ⟨zr (by omega) (by omega), zr (by omega) (by omega), fun _ => ⟨Or.inl rfl, hk⟩, fun hc => by omega⟩
    | succ q ih =>
      intro i hi hk
      have ih := ih (i + 1) (by omega) hk
      rw [show ((i + 1 : Nat) : Int) = (i : Int) + 1 by omega] at ih
      exact ⟨zr (by omega) (by omega), zr (by omega) (by omega), fun hc => by omega, fun _ => ⟨zrg_d rfl, fun _ => ih, fun hc => absurd rfl hc⟩⟩
  have l1 : ∀ (q i : Nat), i + q = x → (∀ j, j < i → s 24 j ≠ s 24 x) → wX7_isUnlike_4 k (q + 1) x 1 i s := by
    intro q
    induction q with
    | zero =>
      intro i hi hno
      obtain rfl : i = x := by omega
      exact ⟨zr (by omega) (by omega), zr (by omega) (by omega), fun _ => ⟨Or.inr rfl, ht hno⟩, fun hc => by omega⟩
    | succ q ih =>
      intro i hi hno
      have ih := ih (i + 1) (by omega)
      rw [show ((i + 1 : Nat) : Int) = (i : Int) + 1 by omega] at ih
      refine ⟨zr (by omega) (by omega), zr (by omega) (by omega), fun hc => by omega, fun _ => ⟨zrg_d rfl, fun hc => absurd hc (by decide), fun _ => ⟨⟨by omega, by omega⟩, ⟨by omega, by omega⟩, ?_⟩⟩⟩
      rw [Int.toNat_natCast, Int.toNat_natCast]
      refine ⟨hb i (by omega), hb x (by omega), fun hc => ?_, fun hc => ih (fun j hj => ?_)⟩
      · have := l0 q (i + 1) (by omega) (hf (fun h => h i (by omega) hc))
        rw [show ((i + 1 : Nat) : Int) = (i : Int) + 1 by omega] at this
        exact this
      · by_cases e : j = i
        · subst e; exact hc
        · exact hno j (by omega)
  exact ⟨_, l1 x 0 (by omega) (fun j hj => absurd hj (by omega))⟩
def P24 (q : Nat) : Prop := q = 24
theorem isSquare_r {v : Int} {σ : Hp} {k : Int → Hp → Prop} (h0 : 0 ≤ v) (h5 : v ≤ 5) (hr : IRow σ v.toNat) (ht : ∀ s, Off P24 σ s → σ (29 + v.toNat) 0 = σ (29 + v.toNat) 1 → SqA (fun x => ra σ v.toNat x) (σ (29 + v.toNat) 0).toNat → k 1 s) (hf : ∀ s, Off P24 σ s → ¬ (σ (29 + v.toNat) 0 = σ (29 + v.toNat) 1 ∧ SqA (fun x => ra σ v.toNat x) (σ (29 + v.toNat) 0).toNat) → k 0 s) : wX7_isSquare v σ k := by
  have hnb := hr.1.1
  have hmb := hr.1.2.1
  have hw : ∀ s, Off P24 σ s → s 18 v.toNat = σ (29 + v.toNat) 0 := fun s hs => by rw [hs 18 (by unfold P24; omega), hr.2.1]
  have hat : ∀ (s : Hp) (x : Nat) (K : Int → Hp → Prop), Off P24 σ s → K (ra σ v.toNat x) s → (x : Nat) < 12 → wX7_at v x s K := fun s x K hs hk hx => by
    have e18 : s 18 = σ 18 := hs 18 (by unfold P24; omega)
    have e20 : s 20 = σ 20 := hs 20 (by unfold P24; omega)
    refine at_s h0 h5 (by rw [e18]; exact hr.mw.1) (zr (by omega) (by omega)) ?_
    have : ma s v.toNat x = ra σ v.toNat x := by
      rw [← hr.mra]
      unfold ma
      rw [e18, e20]
    rw [this]
    exact hk
  have l0 : ¬ (σ (29 + v.toNat) 0 = σ (29 + v.toNat) 1 ∧ SqA (fun x => ra σ v.toNat x) (σ (29 + v.toNat) 0).toNat) → ∀ (q x : Nat) (s : Hp), (x : Int) + q = σ (29 + v.toNat) 0 → Off P24 σ s → wX7_isSquare_23 k (q + 1) v 0 x s := by
    intro hno q
    induction q with
    | zero =>
      intro x s hx hs
      have hw := hw s hs
      exact ⟨⟨by omega, by omega⟩, zr (by omega) (by omega), zr (by omega) (by omega), fun _ => ⟨Or.inl rfl, hf s hs hno⟩, fun hc => by omega⟩
    | succ q ih =>
      intro x s hx hs
      have hw := hw s hs
      refine ⟨⟨by omega, by omega⟩, zr (by omega) (by omega), zr (by omega) (by omega), fun hc => by omega, fun _ => hat s x _ hs ⟨⟨by omega, by omega⟩, zrg_d rfl, fun _ => ?_, fun hc => absurd rfl hc⟩ (by omega)⟩
      have ih := ih (x + 1) (zst s 24 (x : Int).toNat (ra σ v.toNat x)) (by omega) (hs.st rfl)
      rw [show ((x + 1 : Nat) : Int) = (x : Int) + 1 by omega] at ih
      exact ih
  have l1 : σ (29 + v.toNat) 0 = σ (29 + v.toNat) 1 → ∀ (q x : Nat) (s : Hp), (x : Int) + q = σ (29 + v.toNat) 0 → Off P24 σ s → (∀ j, j < x → s 24 j = ra σ v.toNat j) → SqA (fun x => ra σ v.toNat x) x → wX7_isSquare_23 k (q + 1) v 1 x s := by
    intro hnm q
    induction q with
    | zero =>
      intro x s hx hs hj hsq
      have hw := hw s hs
      have hxn : (σ (29 + v.toNat) 0).toNat = x := by omega
      exact ⟨⟨by omega, by omega⟩, zr (by omega) (by omega), zr (by omega) (by omega), fun _ => ⟨Or.inr rfl, ht s hs hnm (by rw [hxn]; exact hsq)⟩, fun hc => by omega⟩
    | succ q ih =>
      intro x s hx hs hj hsq
      have hw := hw s hs
      have hs' : Off P24 σ (zst s 24 x (ra σ v.toNat x)) := hs.st rfl
      have l0' := fun hno => l0 hno q (x + 1) (zst s 24 x (ra σ v.toNat x)) (by omega) hs'
      have ih := ih (x + 1) (zst s 24 x (ra σ v.toNat x)) (by omega) hs'
      rw [show ((x + 1 : Nat) : Int) = (x : Int) + 1 by omega] at ih l0'
      refine ⟨⟨by omega, by omega⟩, zr (by omega) (by omega), zr (by omega) (by omega), fun hc => by omega, fun _ => hat s x _ hs ⟨⟨by omega, by omega⟩, zrg_d rfl, fun hc => absurd hc (by decide), fun _ => ?_⟩ (by omega)⟩
      rw [Int.toNat_natCast, zst_s]
      have rb := ra_b hr.1 (x : Int)
      refine ⟨zr (by omega) (by omega), fun hc => l0' (fun h => h.2.1 x (by omega) (show ra σ v.toNat x = 15 by omega)), fun hc => ?_⟩
      have hsj : ∀ j, j ≤ x → zst s 24 x (ra σ v.toNat x) 24 j = ra σ v.toNat j := fun j hj2 => by
        by_cases e : j = x
        · subst e; rw [zst_s]
        · rw [zst_n (Or.inr e), hj j (by omega)]
      refine isUnlike_s (by omega) (fun j hj2 => by
        rw [hsj j hj2]
        have := ra_b hr.1 (j : Int)
        exact zr (by omega) (by omega)) (fun hall => b1e (ih (fun j hj2 => hsj j (by omega)) ⟨fun j hj2 => ?_, fun i j hi hj2 e => ?_⟩)) (fun hno => b0e (l0' (fun h => hno (fun j hj2 e => ?_))))
      · by_cases e : j = x
        · subst e; show ra σ v.toNat j ≠ 15; omega
        · exact hsq.1 j (by omega)
      · have hall' : ∀ j, j < x → ra σ v.toNat j ≠ ra σ v.toNat x := fun j hj3 => by
          have := hall j hj3
          rw [hsj j (by omega), hsj x (by omega)] at this
          exact this
        have e' : ra σ v.toNat i = ra σ v.toNat j := e
        by_cases e1 : i = x
        · by_cases e2 : j = x
          · omega
          · subst e1
            exact absurd e'.symm (hall' j (by omega))
        · by_cases e2 : j = x
          · subst e2
            exact absurd e' (hall' i (by omega))
          · exact hsq.2 i j (by omega) (by omega) e
      · rw [hsj j (by omega), hsj x (by omega)] at e
        have := h.2.2 j x (by omega) (by omega) e
        omega
  refine ⟨⟨by omega, by omega⟩, by rw [hr.2.1]; exact zr (by omega) (by omega), by rw [hr.2.2.1]; exact zr (by omega) (by omega), fun hc => ⟨_, l0 (fun h => hc (by rw [hr.2.1, hr.2.2.1]; exact h.1)) (σ (29 + v.toNat) 0).toNat 0 σ (by omega) (Off.rf _ _)⟩, fun hc => ⟨_, l1 ?_ (σ (29 + v.toNat) 0).toNat 0 σ (by omega) (Off.rf _ _) (fun j hj => absurd hj (by omega)) ⟨fun j hj => absurd hj (by omega), fun i j hi => absurd hi (by omega)⟩⟩⟩
  rw [hr.2.1, hr.2.2.1] at hc
  exact Classical.not_not.mp hc
