/-! THE TEXT: fault() -/
def lo (b : Int) : Int := if 97 ≤ b ∧ b ≤ 108 then b - 97 else 15
def isc (b : Int) : Prop := b = 46 ∨ (97 ≤ b ∧ b ≤ 108)
def tC (b : Nat → Int) : Nat → Int
  | 0 => 0
  | i + 1 => if b i = 59 then 0 else tC b i + 1
def tE (b : Nat → Int) : Nat → Int
  | 0 => 0
  | i + 1 => if b i = 59 then tE b i + 1 else tE b i
def tg (b : Nat → Int) (i : Nat) : Prop := (b i = 59 → tC b i ≠ 0) ∧ (b i ≠ 59 → isc (b i) ∧ tC b i ≠ 12 ∧ tE b i ≠ 6)
theorem t_bd (b : Nat → Int) : ∀ i, (∀ j, j < i → tg b j) → (0 ≤ tC b i ∧ tC b i ≤ 12 ∧ tC b i ≤ i) ∧ (0 ≤ tE b i ∧ tE b i ≤ 6) ∧ (tE b i = 6 → tC b i = 0)
  | 0, _ => by simp [tC, tE]
  | i + 1, h => by
    have ih := t_bd b i (fun j hj => h j (by omega))
    have hi := h i (by omega)
    unfold tg at hi
    show (0 ≤ (if b i = 59 then 0 else tC b i + 1) ∧ (if b i = 59 then 0 else tC b i + 1) ≤ 12 ∧ (if b i = 59 then 0 else tC b i + 1) ≤ ((i + 1 : Nat) : Int)) ∧ (0 ≤ (if b i = 59 then tE b i + 1 else tE b i) ∧ (if b i = 59 then tE b i + 1 else tE b i) ≤ 6) ∧ ((if b i = 59 then tE b i + 1 else tE b i) = 6 → (if b i = 59 then 0 else tC b i + 1) = 0)
    by_cases h5 : b i = 59
    · have h0 := hi.1 h5
      have h6 : tE b i ≠ 6 := fun hc => h0 (ih.2.2 hc)
      rw [if_pos h5, if_pos h5]
      exact ⟨⟨by omega, by omega, by omega⟩, ⟨by omega, by omega⟩, fun _ => rfl⟩
    · have h0 := hi.2 h5
      simp only [if_neg h5]
      omega
theorem t_mono (b : Nat → Int) (j : Nat) : ∀ d, tE b j ≤ tE b (j + d) ∧ (tE b (j + d) = tE b j → tC b (j + d) = tC b j + d)
  | 0 => by simp
  | d + 1 => by
    have ih := t_mono b j d
    show tE b j ≤ (if b (j + d) = 59 then tE b (j + d) + 1 else tE b (j + d)) ∧ ((if b (j + d) = 59 then tE b (j + d) + 1 else tE b (j + d)) = tE b j → (if b (j + d) = 59 then 0 else tC b (j + d) + 1) = tC b j + ((d + 1 : Nat) : Int))
    by_cases h5 : b (j + d) = 59
    · simp only [if_pos h5]
      omega
    · simp only [if_neg h5]
      omega
theorem byteAt_s {i : Nat} {σ : Hp} {k : Int → Hp → Prop} (hl : 0 ≤ σ 2 1 ∧ σ 2 1 ≤ 60) (hi : (i : Int) < σ 2 1) (hk : k (σ 3 i) σ) : wX5_byteAt i σ k :=
  ⟨zr (by omega) (by omega), fun hc => by omega, fun _ => ⟨zr (by omega) (by omega), fun hc => by omega, fun _ => ⟨fun hc => by omega, fun _ => ⟨⟨by omega, by omega⟩, by rw [Int.toNat_natCast]; exact hk⟩⟩⟩⟩
theorem tlineAt_s {i : Nat} {σ : Hp} {k : Int → Hp → Prop} (hT : IText σ) (hi : (i : Int) < σ 2 1) (hk : k (lo (σ 3 i)) σ) : wX5_lineAt i σ k := by
  have hb := (hT.2.2 i hi).1
  refine byteAt_s hT.1 hi ?_
  refine wbr (F := fun s => k 15 s) (T := fun s => k (σ 3 i - 97) s) (zr (by omega) (by omega)) (zrg_d rfl) (zrg_d rfl) (fun hc => ?_) (fun c1 c2 => ?_)
  · rw [lo, if_neg (by omega)] at hk; exact hk
  · rw [lo, if_pos (by omega)] at hk; exact hk
theorem ends_br {i : Nat} {σ : Hp} {F T : Hp → Prop} (hT : IText σ) (hi : (i : Int) < σ 2 1) (hf : σ 3 i ≠ 59 → F σ) (ht : σ 3 i = 59 → T σ) : wX5_endsRow i σ (fun a s => zrg a ∧ ((a = 0 → F s) ∧ (¬ (a = 0) → T s))) := by
  have hb := (hT.2.2 i hi).1
  exact byteAt_s hT.1 hi ⟨zr (by omega) (by omega), fun hc => b0e (hf hc), fun hc => b1e (ht (by omega))⟩
theorem iscol_br {i : Nat} {σ : Hp} {F T : Hp → Prop} (hT : IText σ) (hi : (i : Int) < σ 2 1) (hf : ¬ isc (σ 3 i) → F σ) (ht : isc (σ 3 i) → T σ) : wX5_isColumn i σ (fun a s => zrg a ∧ ((a = 0 → F s) ∧ (¬ (a = 0) → T s))) := by
  have hb := (hT.2.2 i hi).1
  refine byteAt_s hT.1 hi ⟨zr (by omega) (by omega), fun hc => b1e (ht (Or.inl hc)), fun hc => tlineAt_s hT hi ?_⟩
  have : 0 ≤ lo (σ 3 i) ∧ lo (σ 3 i) ≤ 15 := by unfold lo; split <;> omega
  refine ⟨zr (by omega) (by omega), fun hd => b0e (hf ?_), fun hd => b1e (ht ?_)⟩
  · unfold lo at hd; unfold isc
    split at hd <;> omega
  · unfold lo at hd; unfold isc
    split at hd <;> omega
theorem xff_f {σ : Hp} {i0 : Nat} {k : Int → Hp → Prop} (hT : IText σ) (h0 : (i0 : Int) < σ 2 1) (hg : ∀ j, j < i0 → tg (σ 3) j) (hb : ¬ tg (σ 3) i0) (hk : k i0 σ) : ∀ (q i : Nat), i ≤ i0 → i + q = (σ 2 1).toNat → wX5_firstFault_6 k (q + 1) (tC (σ 3) i) (tE (σ 3) i) i σ := by
  have hl := hT.1
  intro q
  induction q with
  | zero => intro i hi1 hi; omega
  | succ q ih =>
    intro i hi1 hi
    have bd := t_bd (σ 3) i (fun j hj => hg j (by omega))
    refine ⟨zr (by omega) (by omega), zr (by omega) (by omega), fun hc => by omega, fun _ => ?_⟩
    have go : tg (σ 3) i → i + 1 ≤ i0 := fun hgi => by
      rcases Nat.lt_or_ge i i0 with hlt | hge
      · omega
      · exact absurd ((show i = i0 by omega) ▸ hgi) hb
    have bad : ¬ tg (σ 3) i → k i σ := fun hgi => by
      rcases Nat.lt_or_ge i i0 with hlt | hge
      · exact absurd (hg i hlt) hgi
      · rw [show i = i0 by omega]; exact hk
    refine ends_br hT (by omega) (fun hc => ?_) (fun hc => ⟨zr (by omega) (by omega), fun hd => ?_, fun hd => ?_⟩)
    · have next : tg (σ 3) i → wX5_firstFault_6 k (q + 1) (tC (σ 3) i + 1) (tE (σ 3) i) ((i : Int) + 1) σ := fun hgi => by
        have := ih (i + 1) (go hgi) (by omega)
        rw [show tC (σ 3) (i + 1) = tC (σ 3) i + 1 from if_neg hc, show tE (σ 3) (i + 1) = tE (σ 3) i from if_neg hc, show ((i + 1 : Nat) : Int) = (i : Int) + 1 by omega] at this
        exact this
      refine iscol_br hT (by omega) (fun hd => bad (fun hgi => hd (hgi.2 hc).1)) (fun hd => ⟨zr (by omega) (by omega), fun he => bad (fun hgi => (hgi.2 hc).2.1 he), fun he => ⟨zr (by omega) (by omega), fun hf => ?_, fun hf => bad (fun hgi => (hgi.2 hc).2.2 (by omega))⟩⟩)
      exact next ⟨fun h5 => absurd h5 hc, fun _ => ⟨hd, he, hf⟩⟩
    · have := ih (i + 1) (go ⟨fun _ => hd, fun h5 => absurd hc h5⟩) (by omega)
      rw [show tC (σ 3) (i + 1) = 0 from if_pos hc, show tE (σ 3) (i + 1) = tE (σ 3) i + 1 from if_pos hc, show ((i + 1 : Nat) : Int) = (i : Int) + 1 by omega] at this
      exact this
    · exact bad (fun hgi => hgi.1 hc (by omega))
theorem xff_n {σ : Hp} {k : Int → Hp → Prop} (hT : IText σ) (hg : ∀ j : Nat, (j : Int) < σ 2 1 → tg (σ 3) j) (hk : k (if tC (σ 3) (σ 2 1).toNat ≤ 0 then -4 else σ 2 1) σ) : ∀ (q i : Nat), i + q = (σ 2 1).toNat → wX5_firstFault_6 k (q + 1) (tC (σ 3) i) (tE (σ 3) i) i σ := by
  have hl := hT.1
  intro q
  induction q with
  | zero =>
    intro i hi
    obtain rfl : i = (σ 2 1).toNat := by omega
    have bd := t_bd (σ 3) (σ 2 1).toNat (fun j hj => hg j (by omega))
    refine ⟨zr (by omega) (by omega), zr (by omega) (by omega), fun _ => ⟨zr (by omega) (by omega), fun hc => ?_, fun hc => ?_⟩, fun hc => by omega⟩
    · rw [if_pos hc] at hk; exact hk
    · rw [if_neg hc] at hk; exact hk
  | succ q ih =>
    intro i hi
    have bd := t_bd (σ 3) i (fun j hj => hg j (by omega))
    have hgi := hg i (by omega)
    have ih := ih (i + 1) (by omega)
    rw [show ((i + 1 : Nat) : Int) = (i : Int) + 1 by omega] at ih
    refine ⟨zr (by omega) (by omega), zr (by omega) (by omega), fun hc => by omega, fun _ => ?_⟩
    refine ends_br hT (by omega) (fun hc => ?_) (fun hc => ⟨zr (by omega) (by omega), fun hd => ?_, fun hd => absurd (by omega) (hgi.1 hc)⟩)
    · rw [show tC (σ 3) (i + 1) = tC (σ 3) i + 1 from if_neg hc, show tE (σ 3) (i + 1) = tE (σ 3) i from if_neg hc] at ih
      exact iscol_br hT (by omega) (fun hd => absurd (hgi.2 hc).1 hd) (fun hd => ⟨zr (by omega) (by omega), fun he => absurd he (hgi.2 hc).2.1, fun he => ⟨zr (by omega) (by omega), fun hf => ih, fun hf => absurd (by omega) (hgi.2 hc).2.2⟩⟩)
    · rw [show tC (σ 3) (i + 1) = 0 from if_pos hc, show tE (σ 3) (i + 1) = tE (σ 3) i + 1 from if_pos hc] at ih
      exact ih
/-- what the reference has read after i bytes b -/
def RS (σ s : Hp) (b : Nat → Int) (i : Nat) : Prop := (∀ p j, p ≠ 25 → p ≠ 26 → (p ≠ 17 ∨ j ≠ 12) → s p j = σ p j) ∧ s 17 12 = tE b i ∧ (∀ j, j < i → b j ≠ 59 → s 25 (12 * tE b j + tC b j).toNat = lo (b j)) ∧ ∀ j, j < i → b j = 59 → s 26 (tE b j).toNat = tC b j
theorem RS.same {σ s : Hp} {b : Nat → Int} {i : Nat} (h : RS σ s b i) : Same σ s := fun p j hk => h.1 p j (by unfold keep at hk; omega) (by unfold keep at hk; omega) (by unfold keep at hk; omega)
theorem sg59 {b : Int} (h : 0 ≤ b ∧ b < 256) : (sgn b = 59 ↔ b = 59) ∧ (sgn b = 46 ↔ b = 46) ∧ (97 ≤ sgn b ∧ sgn b ≤ 108 ↔ 97 ≤ b ∧ b ≤ 108) ∧ (sgn b = b ∨ sgn b < 0) ∧ (-128 ≤ sgn b ∧ sgn b ≤ 127) := by
  unfold sgn
  split <;> omega
/-- the reference's bytes -/
def MText (σ : Hp) (b : Nat → Int) (len : Nat) : Prop := σ 17 3 = (len : Int) ∧ len ≤ 60 ∧ ∀ i : Nat, i < len → (0 ≤ b i ∧ b i < 256) ∧ σ 21 i = sgn (b i)
theorem RS.stepc {σ s : Hp} {b : Nat → Int} {i : Nat} (hg : ∀ j, j < i → tg b j) (hgi : tg b i) (h5 : b i ≠ 59) (h : RS σ s b i) : RS σ (zst s 25 (12 * tE b i + tC b i).toNat (lo (b i))) b (i + 1) := by
  have bd := t_bd b i hg
  have hgi2 := hgi.2 h5
  obtain ⟨r1, r2, r3, r4⟩ := h
  refine ⟨fun p j c1 c2 c3 => by rw [zst_n (Or.inl c1)]; exact r1 p j c1 c2 c3, ?_, fun j hj hj5 => ?_, fun j hj hj5 => ?_⟩
  · rw [zst_n (Or.inl (by decide)), r2]
    exact (show tE b (i + 1) = tE b i from if_neg h5).symm
  · by_cases hji : j = i
    · subst hji; rw [zst_s]
    · have bj := t_bd b j (fun q hq => hg q (by omega))
      have hgj := (hg j (by omega)).2 hj5
      have mn := t_mono b j (i - j)
      rw [show j + (i - j) = i by omega] at mn
      rw [zst_n (Or.inr (by
        intro e
        have e2 : tE b j = tE b i := by omega
        have e3 := mn.2 e2.symm
        omega)), r3 j (by omega) hj5]
  · rw [zst_n (Or.inl (by decide))]
    exact r4 j (by
      rcases Nat.lt_or_ge j i with hlt | hge
      · exact hlt
      · exact absurd ((show j = i by omega) ▸ hj5) h5) hj5
theorem RS.stepe {σ s : Hp} {b : Nat → Int} {i : Nat} (hg : ∀ j, j < i → tg b j) (h5 : b i = 59) (h : RS σ s b i) : RS σ (zst (zst s 26 (tE b i).toNat (tC b i)) 17 12 (tE b i + 1)) b (i + 1) := by
  have bd := t_bd b i hg
  obtain ⟨r1, r2, r3, r4⟩ := h
  refine ⟨fun p j c1 c2 c3 => by rw [zst_n (by omega), zst_n (Or.inl c2)]; exact r1 p j c1 c2 c3, ?_, fun j hj hj5 => ?_, fun j hj hj5 => ?_⟩
  · rw [zst_s]
    exact (show tE b (i + 1) = tE b i + 1 from if_pos h5).symm
  · rw [zst_n (Or.inl (by decide)), zst_n (Or.inl (by decide))]
    exact r3 j (by
      rcases Nat.lt_or_ge j i with hlt | hge
      · exact hlt
      · exact absurd ((show j = i by omega) ▸ h5) hj5) hj5
  · rw [zst_n (Or.inl (by decide))]
    by_cases hji : j = i
    · subst hji; rw [zst_s]
    · have bj := t_bd b j (fun q hq => hg q (by omega))
      have mn := t_mono b (j + 1) (i - (j + 1))
      rw [show j + 1 + (i - (j + 1)) = i by omega, show tE b (j + 1) = tE b j + 1 from if_pos hj5] at mn
      rw [zst_n (Or.inr (by omega)), r4 j (by omega) hj5]
/-- one byte of the reference's reading -/
theorem mff_step {σ s : Hp} {b : Nat → Int} {len i n : Nat} {k : Int → Hp → Prop} (hM : MText σ b len) (hi : i < len) (hg : ∀ j, j < i → tg b j) (h : RS σ s b i) (hbad : ¬ tg b i → k i s) (hnext : tg b i → ∀ s', RS σ s' b (i + 1) → wX7_fault_9 k n (tC b (i + 1)) ((i : Int) + 1) s') : wX7_fault_9 k (n + 1) (tC b i) i s := by
  have bd := t_bd b i hg
  obtain ⟨m1, m2, m3⟩ := hM
  obtain ⟨hb, e21⟩ := m3 i hi
  have sg := sg59 hb
  have s3 : s 17 3 = (len : Int) := (h.1 17 3 (by decide) (by decide) (by decide)).trans m1
  have s21 : s 21 (i : Int).toNat = sgn (b i) := by rw [Int.toNat_natCast, h.1 21 i (by decide) (by decide) (Or.inl (by decide)), e21]
  have s12 := h.2.1
  unfold wX7_fault_9
  rw [s3, s21, s12]
  refine ⟨zr (by omega) (by omega), zr (by omega) (by omega), fun hc => by omega, fun _ => ⟨⟨by omega, by omega⟩, zr (by omega) (by omega), fun h6 => ⟨zr (by omega) (by omega), fun h5 => ?_, fun h5 => ?_⟩, fun h6 => ?_⟩⟩
  · have h5' : b i ≠ 59 := fun hc => h5 (sg.1.mpr hc)
    have t1 : isc (b i) → wX7_fault_97 k (fun v1 v2 σ => wX7_fault_9 k n v1 v2 σ) (tC b i) i (sgn (b i)) 1 s := fun hcol => by
      refine ⟨zrg_d rfl, fun hc => absurd hc (by decide), fun _ => ⟨zr (by omega) (by omega), fun h12 => ⟨zr (by omega) (by omega), ?_⟩, fun h12 => hbad (fun hgi => (hgi.2 h5').2.1 (by omega))⟩⟩
      have hgi : tg b i := ⟨fun hc => absurd hc h5', fun _ => ⟨hcol, h12, h6⟩⟩
      have nx := hnext hgi _ (h.stepc hg hgi h5')
      rw [show tC b (i + 1) = tC b i + 1 from if_neg h5'] at nx
      rw [s12]
      refine ⟨fun h46 => ⟨⟨by omega, by omega⟩, ?_⟩, fun h46 => ⟨⟨by omega, by omega⟩, ?_⟩⟩
      · have hl : 97 ≤ b i ∧ b i ≤ 108 := by
          rcases hcol with hcol | hcol
          · exact absurd (sg.2.1.mpr hcol) h46
          · exact hcol
        have e : sgn (b i) - 97 = lo (b i) := by
          unfold lo; rw [if_pos hl]
          have := sg.2.2.1.mpr hl
          omega
        rw [e]
        exact nx
      · have e : (15 : Int) = lo (b i) := by
          unfold lo
          have : b i = 46 := sg.2.1.mp (by omega)
          rw [if_neg (by omega)]
        rw [e]
        exact nx
    have t0 : ¬ isc (b i) → wX7_fault_97 k (fun v1 v2 σ => wX7_fault_9 k n v1 v2 σ) (tC b i) i (sgn (b i)) 0 s := fun hcol =>
      ⟨zrg_d rfl, fun _ => hbad (fun hgi => hcol (hgi.2 h5').1), fun hc => absurd rfl hc⟩
    refine ibrn (zr (by omega) (by omega)) (zrg_d rfl) (zrg_d rfl) (fun hr => ⟨fun h46 => t0 (fun hcol => ?_), fun h46 => t1 (Or.inl (sg.2.1.mp (by omega)))⟩) (fun c1 c2 => t1 (Or.inr (sg.2.2.1.mp ⟨c1, c2⟩)))
    rcases hcol with hcol | hcol
    · exact h46 (sg.2.1.mpr hcol)
    · have := sg.2.2.1.mpr hcol; omega
  · have h5' : b i = 59 := sg.1.mp (by omega)
    refine ⟨zr (by omega) (by omega), fun hc => ⟨⟨by omega, by omega⟩, ?_⟩, fun hc => hbad (fun hgi => hgi.1 h5' (by omega))⟩
    have hgi : tg b i := ⟨fun _ => hc, fun hx => absurd h5' hx⟩
    have nx := hnext hgi _ (h.stepe hg h5')
    rw [show tC b (i + 1) = 0 from if_pos h5'] at nx
    rw [zst_n (Or.inl (by decide)), s12]
    exact nx
  · have h6' : tE b i = 6 := by omega
    refine hbad (fun hgi => ?_)
    have hc0 := bd.2.2 h6'
    by_cases h5 : b i = 59
    · exact hgi.1 h5 hc0
    · exact (hgi.2 h5).2.2 h6'
theorem mff_f {σ : Hp} {b : Nat → Int} {len i0 : Nat} {k : Int → Hp → Prop} (hM : MText σ b len) (h0 : i0 < len) (hg : ∀ j, j < i0 → tg b j) (hb : ¬ tg b i0) (hk : ∀ s, RS σ s b i0 → k i0 s) : ∀ (q i : Nat) (s : Hp), i ≤ i0 → i + q = len → RS σ s b i → wX7_fault_9 k (q + 1) (tC b i) i s := by
  intro q
  induction q with
  | zero => intro i s hi1 hi; omega
  | succ q ih =>
    intro i s hi1 hi hs
    refine mff_step hM (by omega) (fun j hj => hg j (by omega)) hs (fun hgi => ?_) (fun hgi s' hs' => ?_)
    · rcases Nat.lt_or_ge i i0 with hlt | hge
      · exact absurd (hg i hlt) hgi
      · obtain rfl : i = i0 := by omega
        exact hk s hs
    · have := ih (i + 1) s' (by
        rcases Nat.lt_or_ge i i0 with hlt | hge
        · omega
        · exact absurd ((show i = i0 by omega) ▸ hgi) hb) (by omega) hs'
      rw [show ((i + 1 : Nat) : Int) = (i : Int) + 1 by omega] at this
      exact this
theorem mff_n {σ : Hp} {b : Nat → Int} {len : Nat} {k : Int → Hp → Prop} (hM : MText σ b len) (hg : ∀ j, j < len → tg b j) (hk : ∀ s, RS σ s b len → k (if tC b len ≤ 0 then -4 else (len : Int)) s) : ∀ (q i : Nat) (s : Hp), i + q = len → RS σ s b i → wX7_fault_9 k (q + 1) (tC b i) i s := by
  intro q
  induction q with
  | zero =>
    intro i s hi hs
    obtain rfl : i = len := by omega
    have bd := t_bd b i hg
    have s3 : s 17 3 = (i : Int) := (hs.1 17 3 (by decide) (by decide) (by decide)).trans hM.1
    have hk := hk s hs
    have := hM.2.1
    unfold wX7_fault_9
    rw [s3]
    refine ⟨zr (by omega) (by omega), zr (by omega) (by omega), fun _ => ⟨zr (by omega) (by omega), fun hc => ?_, fun hc => ?_⟩, fun hc => by omega⟩
    · rw [if_pos hc] at hk; exact hk
    · rw [if_neg hc] at hk; exact hk
  | succ q ih =>
    intro i s hi hs
    refine mff_step hM (by omega) (fun j hj => hg j (by omega)) hs (fun hgi => absurd (hg i (by omega)) hgi) (fun hgi s' hs' => ?_)
    have := ih (i + 1) s' (by omega) hs'
    rw [show ((i + 1 : Nat) : Int) = (i : Int) + 1 by omega] at this
    exact this
theorem IText.m {σ : Hp} (h : IText σ) : MText σ (σ 3) (σ 2 1).toNat := by
  obtain ⟨g1, g2, g3⟩ := h
  exact ⟨by omega, by omega, fun i hi => g3 i (by omega)⟩
theorem RS_0 (σ : Hp) (b : Nat → Int) : RS σ (zst σ 17 12 0) b 0 := ⟨fun p j c1 c2 c3 => zst_n (by omega), zst_s _ _ _ _, fun j hj => by omega, fun j hj => by omega⟩
/-- both ways of a reading -/
theorem tg_or (b : Nat → Int) (len : Nat) : (∀ j, j < len → tg b j) ∨ ∃ i0, i0 < len ∧ (∀ j, j < i0 → tg b j) ∧ ¬ tg b i0 := by
  by_cases hall : ∀ j, j < len → tg b j
  · exact Or.inl hall
  · right
    obtain ⟨j, hj⟩ := Classical.not_forall.mp hall
    obtain ⟨j1, j2⟩ := Classical.not_imp.mp hj
    obtain ⟨i0, q1, q2⟩ := pk_least (fun i => ¬ tg b i) ⟨j, j2⟩
    refine ⟨i0, ?_, fun m hm => Classical.not_not.mp (q2 m hm), q1⟩
    rcases Nat.lt_or_ge i0 len with hlt | hge
    · exact hlt
    · exact absurd j2 (q2 j (by omega))
theorem T_fault {K : Hp → Prop} (hK : ∀ σ, Inv σ → K σ) {σ : Hp} (hI : Inv σ) : wX6_fault σ (fun a s => wX7_fault s (fun b t => zrg a ∧ zrg b ∧ ((a = b → K t) ∧ (¬ (a = b) → False)))) := by
  have hT := hI.2.1
  have hl := hT.1
  have hM := hT.m
  rcases tg_or (σ 3) (σ 2 1).toNat with hall | ⟨i0, c1, c2, c3⟩
  · refine ⟨_, xff_n (k := fun a2 σ1 => (fun a s => wX7_fault s (fun b t => zrg a ∧ zrg b ∧ ((a = b → K t) ∧ (¬ (a = b) → False)))) a2 σ1) hT (fun j hj => hall j (by omega)) ?_ (σ 2 1).toNat 0 (by omega)⟩
    refine ⟨_, mff_n hM hall (fun s hs => ?_) (σ 2 1).toNat 0 _ (by omega) (RS_0 σ (σ 3))⟩
    refine fin ?_ ?_ (hK _ (hI.same hs.same))
    · rw [show (((σ 2 1).toNat : Nat) : Int) = σ 2 1 by omega]
    · split
      · exact zrg_d rfl
      · exact zr (by omega) (by omega)
  · refine ⟨_, xff_f (k := fun a2 σ1 => (fun a s => wX7_fault s (fun b t => zrg a ∧ zrg b ∧ ((a = b → K t) ∧ (¬ (a = b) → False)))) a2 σ1) hT (by omega) c2 c3 ?_ (σ 2 1).toNat 0 (by omega) (by omega)⟩
    refine ⟨_, mff_f hM c1 c2 c3 (fun s hs => ?_) (σ 2 1).toNat 0 _ (by omega) (by omega) (RS_0 σ (σ 3))⟩
    exact fin rfl (zr (by omega) (by omega)) (hK _ (hI.same hs.same))
