/-! a ROW that is set: class and reference; row() -/
def cl (m y : Int) : Int := if 0 ≤ y ∧ y < m then y else 15
def pf (σ : Hp) (r : Nat) (n m : Int) (f : Nat → Int) (i : Nat) : Hp := fun q => if q = 29 + r then (fun t => if t = 0 then n else if t = 1 then m else σ q t) else if q = 36 + r then (fun t => if t < i then cl m (f t) else if t < 12 then 15 else σ q t) else σ q
theorem pf_n {σ : Hp} {r : Nat} {n m : Int} {f : Nat → Int} {i : Nat} : pf σ r n m f i (29 + r) 0 = n := by simp [pf]
theorem pf_m {σ : Hp} {r : Nat} {n m : Int} {f : Nat → Int} {i : Nat} : pf σ r n m f i (29 + r) 1 = m := by simp [pf]
theorem pf_o {σ : Hp} {r : Nat} {n m : Int} {f : Nat → Int} {i q : Nat} (h1 : q ≠ 29 + r) (h2 : q ≠ 36 + r) : pf σ r n m f i q = σ q := by simp [pf, h1, h2]
theorem pf_l {σ : Hp} {r : Nat} {n m : Int} {f : Nat → Int} {i t : Nat} (h : t < i) : pf σ r n m f i (36 + r) t = cl m (f t) := by
  have : (36 + r = 29 + r) = False := by simp
  simp [pf, this, h]
theorem pf_0 (σ : Hp) (r : Nat) (n m : Int) (f : Nat → Int) : zfill (zst (zst σ (29 + r) 0 n) (29 + r) 1 m) (36 + r) 12 15 = pf σ r n m f 0 := by
  funext q t
  by_cases h1 : q = 29 + r
  · subst h1
    rw [zfill_p (by omega)]
    unfold pf
    rw [if_pos rfl]
    by_cases h2 : t = 1
    · subst h2; rw [zst_s]; rfl
    · rw [zst_n (Or.inr h2)]
      by_cases h3 : t = 0
      · subst h3; rw [zst_s]; rfl
      · rw [zst_n (Or.inr h3)]
        show _ = if t = 0 then n else if t = 1 then m else σ (29 + r) t
        rw [if_neg h3, if_neg h2]
  · by_cases h2 : q = 36 + r
    · subst h2
      unfold pf
      rw [if_neg h1, if_pos rfl]
      show _ = if t < 0 then _ else if t < 12 then 15 else σ (36 + r) t
      rw [if_neg (by omega)]
      by_cases h3 : t < 12
      · rw [zfill_i h3, if_pos h3]
      · rw [zfill_o (by omega), if_neg h3, zst_n (Or.inl (by omega)), zst_n (Or.inl (by omega))]
    · rw [zfill_p h2, pf_o h1 h2, zst_n (Or.inl h1), zst_n (Or.inl h1)]
theorem pf_step (σ : Hp) (r : Nat) (n m : Int) (f : Nat → Int) (i : Nat) (hi : i < 12) : zst (pf σ r n m f i) (36 + r) i (cl m (f i)) = pf σ r n m f (i + 1) := by
  funext q t
  by_cases h2 : q = 36 + r
  · subst h2
    have ne : (36 + r = 29 + r) = False := by simp
    by_cases h3 : t = i
    · subst h3; rw [zst_s, pf_l (by omega)]
    · rw [zst_n (Or.inr h3)]
      unfold pf
      simp only [ne, if_false, if_true]
      by_cases h4 : t < i
      · rw [if_pos h4, if_pos (show t < i + 1 by omega)]
      · rw [if_neg h4, if_neg (show ¬ t < i + 1 by omega)]
  · rw [zst_n (Or.inl h2)]
    by_cases h1 : q = 29 + r
    · subst h1; simp [pf]
    · rw [pf_o h1 h2, pf_o h1 h2]
theorem shape_pf {r : Nat} {n m : Int} {σ : Hp} {k : Hp → Prop} (f : Nat → Int) (h1 : 1 ≤ n) (h2 : n ≤ 12) (h3 : 1 ≤ m) (h4 : m ≤ 12) (hk : k (pf σ r n m f 0)) : wX3_shape r n m σ k :=
  shape_s h1 h2 h3 h4 (by rw [pf_0 σ r n m f]; exact hk)
theorem put_pf {r i : Nat} {n m y : Int} {f : Nat → Int} {σ : Hp} {k : Hp → Prop} (h1 : 1 ≤ n) (h2 : n ≤ 12) (h3 : 1 ≤ m) (h4 : m ≤ 12) (hi : (i : Int) < n) (hy : zrg y) (hf : y = f i) (hk : k (pf σ r n m f (i + 1))) : wX3_put r i y (pf σ r n m f i) k := by
  refine put_s (by rw [pf_n]; omega) (by rw [pf_m]; omega) (by omega) (by rw [pf_n]; exact hi) hy ?_
  rw [pf_m, Int.toNat_natCast, hf]
  have := pf_step σ r n m f i (by omega)
  unfold cl at this
  rw [this]
  exact hk
/-- the class has set ROW k -/
def CSet (σ s : Hp) (k : Nat) (n m : Int) (A : Nat → Int) : Prop := (∀ p j, keep p j → p ≠ 29 + k → p ≠ 36 + k → s p j = σ p j) ∧ s (29 + k) 0 = n ∧ s (29 + k) 1 = m ∧ ∀ x : Nat, (x : Int) < n → s (36 + k) x = A x
/-- the reference has set ROW k -/
def MSet (s t : Hp) (k : Nat) (n m : Int) (A : Nat → Int) : Prop := (∀ p j, keep p j → ¬ ((p = 18 ∨ p = 19) ∧ j = k) → ¬ (p = 20 ∧ 12 * k ≤ j ∧ j < 12 * k + 12) → t p j = s p j) ∧ t 18 k = n ∧ t 19 k = m ∧ ∀ x : Nat, (x : Int) < n → t 20 (12 * k + x) = A x
def VRow (n m : Int) (A : Nat → Int) : Prop := (1 ≤ n ∧ n ≤ 12) ∧ (1 ≤ m ∧ m ≤ 12) ∧ ∀ x : Nat, (x : Int) < n → (0 ≤ A x ∧ A x < m) ∨ A x = 15
theorem Inv.set {σ s t : Hp} {k : Nat} {n m : Int} {A : Nat → Int} (hI : Inv σ) (hk : k < 6) (hv : VRow n m A) (hs : CSet σ s k n m A) (ht : MSet s t k n m A) : Inv t := by
  obtain ⟨hR, hT, hE⟩ := hI
  obtain ⟨s0, s1, s2, s3⟩ := hs
  obtain ⟨t0, t1, t2, t3⟩ := ht
  have e : ∀ p j, keep p j → p ≠ 29 + k → p ≠ 36 + k → ¬ ((p = 18 ∨ p = 19) ∧ j = k) → ¬ (p = 20 ∧ 12 * k ≤ j ∧ j < 12 * k + 12) → t p j = σ p j := fun p j h1 h2 h3 h4 h5 => (t0 p j h1 h4 h5).trans (s0 p j h1 h2 h3)
  have eo : ∀ p j, keep p j → (p < 18 ∨ 20 < p) → p < 29 → t p j = σ p j := fun p j h1 h2 h3 => e p j h1 (by omega) (by omega) (by omega) (by omega)
  refine ⟨fun i hi => ?_, ?_, ?_⟩
  · by_cases hik : i = k
    · subst hik
      have u0 : t (29 + i) 0 = n := (t0 _ _ (by unfold keep; omega) (by omega) (by omega)).trans s1
      have u1 : t (29 + i) 1 = m := (t0 _ _ (by unfold keep; omega) (by omega) (by omega)).trans s2
      have u2 : ∀ x : Nat, (x : Int) < n → t (36 + i) x = A x := fun x hx => (t0 _ _ (by unfold keep; omega) (by omega) (by omega)).trans (s3 x hx)
      refine ⟨⟨by rw [u0]; exact hv.1, by rw [u1]; exact hv.2.1, fun x hx => ?_⟩, by rw [u0, t1], by rw [u1, t2], fun x hx => ?_⟩
      · rw [u0] at hx; rw [u1, u2 x hx]; exact hv.2.2 x hx
      · rw [u0] at hx; rw [u2 x hx, t3 x hx]
    · have hr := hR i hi
      obtain ⟨⟨h1, h2, h3⟩, h4, h5, h6⟩ := hr
      have e1 : ∀ j, t (29 + i) j = σ (29 + i) j := fun j => e _ j (by unfold keep; omega) (by omega) (by omega) (by omega) (by omega)
      have e2 : ∀ j, t (36 + i) j = σ (36 + i) j := fun j => e _ j (by unfold keep; omega) (by omega) (by omega) (by omega) (by omega)
      refine ⟨⟨by rw [e1]; exact h1, by rw [e1]; exact h2, fun x hx => ?_⟩, ?_, ?_, fun x hx => ?_⟩
      · rw [e1] at hx; rw [e1, e2]; exact h3 x hx
      · rw [e1, e 18 i (by unfold keep; omega) (by omega) (by omega) (by omega) (by omega)]; exact h4
      · rw [e1, e 19 i (by unfold keep; omega) (by omega) (by omega) (by omega) (by omega)]; exact h5
      · rw [e1] at hx
        rw [e2, e 20 (12 * i + x) (by unfold keep; omega) (by omega) (by omega) (by omega) (by omega)]
        exact h6 x hx
  · obtain ⟨g1, g2, g3⟩ := hT
    have e2 := eo 2 1 (by unfold keep; omega) (by omega) (by omega)
    refine ⟨by rw [e2]; exact g1, by rw [e2, eo 17 3 (by unfold keep; omega) (by omega) (by omega)]; exact g2, fun i hi => ?_⟩
    rw [e2] at hi
    rw [eo 3 i (by unfold keep; omega) (by omega) (by omega), eo 21 i (by unfold keep; omega) (by omega) (by omega)]
    exact g3 i hi
  · obtain ⟨g1, g2, g3, g4⟩ := hE
    have e2 := eo 12 2 (by unfold keep; omega) (by omega) (by omega)
    have a13 := fun i => eo 13 i (by unfold keep; omega) (by omega) (by omega)
    have a14 := fun i => eo 14 i (by unfold keep; omega) (by omega) (by omega)
    refine ⟨by rw [e2]; exact g1, by rw [e2, eo 17 5 (by unfold keep; omega) (by omega) (by omega)]; exact g2, fun i hi => ?_, fun i j hi hj => ?_⟩
    · rw [e2] at hi
      rw [a13, a14, eo 22 i (by unfold keep; omega) (by omega) (by omega), eo 23 i (by unfold keep; omega) (by omega) (by omega)]
      exact g3 i hi
    · rw [e2] at hi hj
      rw [a13, a14, a13, a14]
      exact g4 i j hi hj
theorem pf_set {σ : Hp} {r : Nat} {n m : Int} {f : Nat → Int} {i : Nat} (hi : (i : Int) = n) (hm : 1 ≤ m ∧ m ≤ 12) : CSet σ (pf σ r n m f i) r n m (fun x => cl m (f x)) :=
  ⟨fun p j _ h1 h2 => by rw [pf_o h1 h2], pf_n, pf_m, fun x hx => pf_l (by omega)⟩
theorem cl_v {m y : Int} (hm : 1 ≤ m) : (0 ≤ cl m y ∧ cl m y < m) ∨ cl m y = 15 := by
  unfold cl; split
  · rename_i h; exact Or.inl h
  · exact Or.inr rfl
-- the reference's setting of a row, cell by cell
def mf (s : Hp) (k : Nat) (n m : Int) (f : Nat → Int) (i : Nat) : Hp := fun q => if q = 18 then (fun t => if t = k then n else s q t) else if q = 19 then (fun t => if t = k then m else s q t) else if q = 20 then (fun t => if 12 * k ≤ t ∧ t < 12 * k + i then f (t - 12 * k) else s q t) else s q
theorem mf_0 (s : Hp) (k : Nat) (n m : Int) (f : Nat → Int) : zst (zst s 18 k n) 19 k m = mf s k n m f 0 := by
  funext q t
  by_cases h1 : q = 18
  · subst h1
    rw [zst_n (Or.inl (by decide))]
    by_cases h2 : t = k
    · subst h2; rw [zst_s]; simp [mf]
    · rw [zst_n (Or.inr h2)]; simp [mf, h2]
  · by_cases h2 : q = 19
    · subst h2
      by_cases h3 : t = k
      · subst h3; rw [zst_s]; simp [mf]
      · rw [zst_n (Or.inr h3), zst_n (Or.inl (by decide))]; simp [mf, h3]
    · rw [zst_n (Or.inl h2), zst_n (Or.inl h1)]
      by_cases h3 : q = 20
      · subst h3
        simp [mf]
        intro c1 c2; omega
      · simp [mf, h1, h2, h3]
theorem mf_step (s : Hp) (k : Nat) (n m : Int) (f : Nat → Int) (i : Nat) : zst (mf s k n m f i) 20 (12 * k + i) (f i) = mf s k n m f (i + 1) := by
  funext q t
  by_cases h1 : q = 20
  · subst h1
    by_cases h2 : t = 12 * k + i
    · subst h2; rw [zst_s]; simp [mf]
    · rw [zst_n (Or.inr h2)]
      simp only [mf, if_neg (show (20 : Nat) ≠ 18 by decide), if_neg (show (20 : Nat) ≠ 19 by decide), if_true]
      by_cases h3 : 12 * k ≤ t ∧ t < 12 * k + i
      · rw [if_pos h3, if_pos (by omega)]
      · rw [if_neg h3, if_neg (by omega)]
  · rw [zst_n (Or.inl h1)]
    simp [mf, h1]
theorem mf_o {s : Hp} {k : Nat} {n m : Int} {f : Nat → Int} {i q : Nat} (h : q ≠ 18 ∧ q ≠ 19 ∧ q ≠ 20) : mf s k n m f i q = s q := by simp [mf, h.1, h.2.1, h.2.2]
theorem mf_set {s : Hp} {k : Nat} {n m : Int} {f : Nat → Int} {i : Nat} (hi : (i : Int) = n) (hn : n ≤ 12) : MSet s (mf s k n m f i) k n m f := by
  refine ⟨fun p j _ h1 h2 => ?_, by simp [mf], by simp [mf], fun x hx => ?_⟩
  · by_cases e1 : p = 18
    · subst e1; have : j ≠ k := by omega
      simp [mf, this]
    · by_cases e2 : p = 19
      · subst e2; have : j ≠ k := by omega
        simp [mf, this]
      · by_cases e3 : p = 20
        · subst e3
          simp only [mf, if_neg (show (20 : Nat) ≠ 18 by decide), if_neg (show (20 : Nat) ≠ 19 by decide), if_true]
          rw [if_neg (by omega)]
        · rw [mf_o ⟨e1, e2, e3⟩]
  · simp only [mf, if_neg (show (20 : Nat) ≠ 18 by decide), if_neg (show (20 : Nat) ≠ 19 by decide), if_true]
    rw [if_pos (by omega), show 12 * k + x - 12 * k = x by omega]
