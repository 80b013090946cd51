/-! write() -/
def ap (σ : Hp) (pl sl pa : Nat) (L : Nat) (g : Nat → Int) (j : Nat) : Hp := fun q => if q = pa then (fun t => if L ≤ t ∧ t < L + j then g (t - L) else σ q t) else if q = pl then (fun t => if t = sl then ((L + j : Nat) : Int) else σ q t) else σ q
theorem ap_l {σ : Hp} {pl sl pa L : Nat} {g : Nat → Int} {j : Nat} (h : pl ≠ pa) : ap σ pl sl pa L g j pl sl = ((L + j : Nat) : Int) := by simp [ap, h]
theorem ap_o {σ : Hp} {pl sl pa L : Nat} {g : Nat → Int} {j q t : Nat} (h1 : q ≠ pa) (h2 : q ≠ pl ∨ t ≠ sl) : ap σ pl sl pa L g j q t = σ q t := by
  unfold ap
  rw [if_neg h1]
  by_cases h3 : q = pl
  · rw [if_pos h3]
    have : t ≠ sl := by rcases h2 with h2 | h2; exact absurd h3 h2; exact h2
    simp [this]
  · rw [if_neg h3]
theorem ap_a {σ : Hp} {pl sl pa L : Nat} {g : Nat → Int} {j t : Nat} : ap σ pl sl pa L g j pa t = if L ≤ t ∧ t < L + j then g (t - L) else σ pa t := by simp [ap]
theorem ap_0 {σ : Hp} {pl sl pa L : Nat} {g : Nat → Int} (hl : σ pl sl = (L : Int)) : ap σ pl sl pa L g 0 = σ := by
  funext q t
  unfold ap
  by_cases h1 : q = pa
  · rw [if_pos h1, if_neg (by omega)]
  · rw [if_neg h1]
    by_cases h2 : q = pl
    · rw [if_pos h2]
      by_cases h3 : t = sl
      · rw [if_pos h3]; subst h2; subst h3; simp [hl]
      · rw [if_neg h3]
    · rw [if_neg h2]
theorem ap_step {σ : Hp} {pl sl pa L : Nat} {g : Nat → Int} {j : Nat} (hne : pl ≠ pa) : zst (zst (ap σ pl sl pa L g j) pa (L + j) (g j)) pl sl (((L + j : Nat) : Int) + 1) = ap σ pl sl pa L g (j + 1) := by
  funext q t
  by_cases h1 : q = pa
  · subst h1
    rw [zst_n (Or.inl (Ne.symm hne)), ap_a]
    by_cases h2 : t = L + j
    · subst h2; rw [zst_s, if_pos (by omega), show L + j - L = j by omega]
    · rw [zst_n (Or.inr h2), ap_a]
      by_cases h3 : L ≤ t ∧ t < L + j
      · rw [if_pos h3, if_pos (by omega)]
      · rw [if_neg h3, if_neg (by omega)]
  · by_cases h2 : q = pl ∧ t = sl
    · obtain ⟨e1, e2⟩ := h2
      subst e1; subst e2
      rw [zst_s, ap_l hne]
      omega
    · rw [zst_n (by omega), zst_n (Or.inl h1), ap_o h1 (by omega), ap_o h1 (by omega)]
theorem add_s {b : Int} {σ : Hp} {k : Hp → Prop} (h : 0 ≤ σ 2 1 ∧ σ 2 1 < 60) (hk : k (zst (zst σ 3 (σ 2 1).toNat b) 2 1 (σ 2 1 + 1))) : wX5_add b σ k := by
  refine within_t (zr (by omega) (by omega)) (zrg_d rfl) (zrg_d rfl) (by omega) (by omega) (b1e ⟨h, ?_⟩)
  rw [zst_n (Or.inl (by decide))]
  exact hk
def bt8 (v : Int) (p : Nat) : Int := (v / 2 ^ (8 * p)) % 256
theorem bt8_b (v : Int) (p : Nat) : 0 ≤ bt8 v p ∧ bt8 v p < 256 := by
  unfold bt8
  have h1 := Int.emod_nonneg (v / 2 ^ (8 * p)) (show (256 : Int) ≠ 0 by decide)
  have h2 := Int.emod_lt_of_pos (v / 2 ^ (8 * p)) (show (0 : Int) < 256 by decide)
  omega
theorem sgn_sgn (z : Int) (h : 0 ≤ z ∧ z < 256) : sgn (sgn z % 256) = sgn z := by
  unfold sgn
  split
  · rw [Int.emod_eq_of_lt (by omega) (by omega), if_pos (by assumption)]
  · rw [show (z - 256) % 256 = z by omega, if_neg (by assumption)]
theorem xwrite {v : Int} {n L : Nat} {σ : Hp} {k : Int → Hp → Prop} (hn : n ≤ 8) (hL : L + n ≤ 60) (hk : k ((L + n : Nat) : Int) (ap σ 2 1 3 L (fun j => bt8 v (n - 1 - j)) n)) : ∀ (q j : Nat), j + q = n → wX6_write_31 k (q + 1) v ((n : Int) - 1 - j) (ap σ 2 1 3 L (fun j => bt8 v (n - 1 - j)) j) := by
  intro q
  induction q with
  | zero =>
    intro j hj
    obtain rfl : j = n := by omega
    refine ⟨zr (by omega) (by omega), fun _ => ?_, fun hc => by omega⟩
    show k (ap σ 2 1 3 L _ j 2 1) _
    rw [ap_l (by decide)]
    exact hk
  | succ q ih =>
    intro j hj
    have ih := ih (j + 1) (by omega)
    rw [show (n : Int) - 1 - ((j + 1 : Nat) : Int) = (n : Int) - 1 - (j : Int) + -1 by omega] at ih
    refine ⟨zr (by omega) (by omega), fun hc => by omega, fun _ => ?_⟩
    have e : zand (zLushr v (8 * ((n : Int) - 1 - j))) 255 = bt8 v (n - 1 - j) := by
      rw [show (255 : Int) = ((255 : Nat) : Int) from rfl, zand_m _ 8 (by decide) 255 rfl, show 8 * ((n : Int) - 1 - (j : Int)) = ((8 * (n - 1 - j) : Nat) : Int) by omega]
      exact z_low (by omega)
    rw [e]
    refine add_s (by rw [ap_l (by decide)]; omega) ?_
    rw [ap_l (by decide), Int.toNat_natCast]
    have := ap_step (σ := σ) (pl := 2) (sl := 1) (pa := 3) (L := L) (g := fun j => bt8 v (n - 1 - j)) (j := j) (by decide)
    rw [this]
    exact ih
theorem mwrite {v : Int} {n L : Nat} {σ : Hp} {k : Int → Hp → Prop} (hv : zrl v) (hn : n ≤ 8) (hL : L + n ≤ 60) (hk : k ((L + n : Nat) : Int) (ap σ 17 3 21 L (fun j => sgn (bt8 v (n - 1 - j))) n)) : ∀ (q j : Nat), j + q = n → wX7_write_33 k (q + 1) v ((n : Int) - 1 - j) (ap σ 17 3 21 L (fun j => sgn (bt8 v (n - 1 - j))) j) := by
  intro q
  induction q with
  | zero =>
    intro j hj
    obtain rfl : j = n := by omega
    refine ⟨zr (by omega) (by omega), fun _ => ?_, fun hc => by omega⟩
    rw [ap_l (by decide)]
    exact hk
  | succ q ih =>
    intro j hj
    have ih := ih (j + 1) (by omega)
    rw [show (n : Int) - 1 - ((j + 1 : Nat) : Int) = (n : Int) - 1 - (j : Int) + -1 by omega] at ih
    refine ⟨zr (by omega) (by omega), fun hc => by omega, fun _ => ?_⟩
    have e : zi2b (zi2b (zLshr v (8 * ((n : Int) - 1 - j)))) = sgn (bt8 v (n - 1 - j)) := by
      rw [zi2b_e (zi2b _), zi2b_e, show 8 * ((n : Int) - 1 - (j : Int)) = ((8 * (n - 1 - j) : Nat) : Int) by omega, zLshr_e hv (by omega)]
      exact sgn_sgn _ (bt8_b v (n - 1 - j))
    rw [e, ap_l (by decide), Int.toNat_natCast, zst_n (Or.inl (by decide)), ap_l (by decide)]
    refine ⟨by omega, ?_⟩
    have := ap_step (σ := σ) (pl := 17) (sl := 3) (pa := 21) (L := L) (g := fun j => sgn (bt8 v (n - 1 - j))) (j := j) (by decide)
    rw [this]
    exact ih
theorem T_write {K : Hp → Prop} (hK : ∀ σ, Inv σ → K σ) {v1 v2 : Int} (h1 : zrg v1) (h2 : zrl v2) {σ : Hp} (hI : Inv σ) : wX6_write v1 v2 σ (fun a s => wX7_write v1 v2 s (fun b t => zrg a ∧ zrg b ∧ ((a = b → K t) ∧ (¬ (a = b) → False)))) := by
  obtain ⟨hR, ⟨g1, g2, g3⟩, hE⟩ := id hI
  unfold wX6_write
  refine wbrn h1 (zrg_d rfl) (zrg_d rfl) (fun hc => ?_) (fun a1 a2 => ⟨h1, zr (by omega) (by omega), fun hc => b0n ?_, fun hc => b1n ?_⟩)
  · exact ⟨h1, ibrn h1 (zrg_d rfl) (zrg_d rfl) (fun _ => fin rfl (zrg_d rfl) (hK _ hI)) (fun b1 b2 => by omega)⟩
  · refine ⟨h1, ibrn h1 (zrg_d rfl) (zrg_d rfl) (fun hd => by omega) (fun b1 b2 => ?_)⟩
    rw [g2]
    exact ⟨zr (by omega) (by omega), fun hd => by omega, fun _ => fin rfl (zrg_d rfl) (hK _ hI)⟩
  · have hLn : (σ 2 1).toNat + v1.toNat ≤ 60 := by omega
    have hx := xwrite (v := v2) (n := v1.toNat) (L := (σ 2 1).toNat) (σ := σ) (k := fun a s => wX7_write v1 v2 s (fun b t => zrg a ∧ zrg b ∧ ((a = b → K t) ∧ (¬ (a = b) → False)))) (by omega) hLn ?_ v1.toNat 0 (by omega)
    · rw [ap_0 (by omega), show ((v1.toNat : Nat) : Int) - 1 - ((0 : Nat) : Int) = v1 - 1 by omega] at hx
      exact ⟨_, hx⟩
    · generalize hs : ap σ 2 1 3 (σ 2 1).toNat (fun j => bt8 v2 (v1.toNat - 1 - j)) v1.toNat = s
      have so : ∀ p j, p ≠ 3 → p ≠ 2 → s p j = σ p j := fun p j c1 c2 => by rw [← hs, ap_o c1 (Or.inl c2)]
      have s2 : s 2 1 = (((σ 2 1).toNat + v1.toNat : Nat) : Int) := by rw [← hs, ap_l (by decide)]
      have s3 : ∀ t, s 3 t = if (σ 2 1).toNat ≤ t ∧ t < (σ 2 1).toNat + v1.toNat then bt8 v2 (v1.toNat - 1 - (t - (σ 2 1).toNat)) else σ 3 t := fun t => by rw [← hs, ap_a]
      refine ⟨h1, ibrn h1 (zrg_d rfl) (zrg_d rfl) (fun hd => by omega) (fun b1 b2 => ?_)⟩
      have e17 : s 17 3 = σ 2 1 := by rw [so 17 3 (by decide) (by decide), g2]
      rw [e17]
      refine ⟨zr (by omega) (by omega), fun _ => ?_, fun hd => by omega⟩
      have hm := mwrite (v := v2) (n := v1.toNat) (L := (σ 2 1).toNat) (σ := s) (k := fun b t => zrg (((σ 2 1).toNat + v1.toNat : Nat) : Int) ∧ zrg b ∧ (((((σ 2 1).toNat + v1.toNat : Nat) : Int) = b → K t) ∧ (¬ ((((σ 2 1).toNat + v1.toNat : Nat) : Int) = b) → False))) h2 (by omega) hLn ?_ v1.toNat 0 (by omega)
      · rw [ap_0 (by omega), show ((v1.toNat : Nat) : Int) - 1 - ((0 : Nat) : Int) = v1 - 1 by omega] at hm
        exact ⟨_, hm⟩
      · refine fin rfl (zr (by omega) (by omega)) (hK _ ?_)
        generalize ht : ap s 17 3 21 (σ 2 1).toNat (fun j => sgn (bt8 v2 (v1.toNat - 1 - j))) v1.toNat = t
        have to : ∀ p j, p ≠ 21 → (p ≠ 17 ∨ j ≠ 3) → t p j = s p j := fun p j c1 c2 => by rw [← ht, ap_o c1 c2]
        have t17 : t 17 3 = (((σ 2 1).toNat + v1.toNat : Nat) : Int) := by rw [← ht, ap_l (by decide)]
        have t21 : ∀ j, t 21 j = if (σ 2 1).toNat ≤ j ∧ j < (σ 2 1).toNat + v1.toNat then sgn (bt8 v2 (v1.toNat - 1 - (j - (σ 2 1).toNat))) else s 21 j := fun j => by rw [← ht, ap_a]
        have ts : ∀ p j, p ≠ 21 → (p ≠ 17 ∨ j ≠ 3) → p ≠ 3 → p ≠ 2 → t p j = σ p j := fun p j c1 c2 c3 c4 => (to p j c1 c2).trans (so p j c3 c4)
        refine ⟨fun k hk => (hR k hk).same hk (fun p j hp => ts p j (by omega) (by omega) (by omega) (by omega)), ?_, ?_⟩
        · have e2 : t 2 1 = (((σ 2 1).toNat + v1.toNat : Nat) : Int) := (to 2 1 (by decide) (by decide)).trans s2
          refine ⟨by rw [e2]; omega, by rw [e2, t17], fun i hi => ?_⟩
          rw [e2] at hi
          rw [to 3 i (by decide) (Or.inl (by decide)), s3, t21]
          by_cases hc : (σ 2 1).toNat ≤ i
          · rw [if_pos (by omega), if_pos (by omega)]
            exact ⟨bt8_b _ _, rfl⟩
          · rw [if_neg (by omega), if_neg (by omega), so 21 i (by decide) (by decide)]
            exact g3 i (by omega)
        · obtain ⟨f1, f2, f3, f4⟩ := hE
          have e12 : t 12 2 = σ 12 2 := ts 12 2 (by decide) (by decide) (by decide) (by decide)
          have a13 := fun i => ts 13 i (by decide) (Or.inl (by decide)) (by decide) (by decide)
          have a14 := fun i => ts 14 i (by decide) (Or.inl (by decide)) (by decide) (by decide)
          refine ⟨by rw [e12]; exact f1, by rw [e12, ts 17 5 (by decide) (by decide) (by decide) (by decide)]; exact f2, fun i hi => ?_, fun i j hi hj => ?_⟩
          · rw [e12] at hi
            rw [a13, a14, ts 22 i (by decide) (Or.inl (by decide)) (by decide) (by decide), ts 23 i (by decide) (Or.inl (by decide)) (by decide) (by decide)]
            exact f3 i hi
          · rw [e12] at hi hj
            rw [a13, a14, a13, a14]
            exact f4 i j hi hj
