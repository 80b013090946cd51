/-! lay() -/
def XText (σ : Hp) (b : Nat → Int) (len : Nat) : Prop := σ 2 1 = (len : Int) ∧ len ≤ 60 ∧ ∀ i : Nat, i < len → (0 ≤ b i ∧ b i < 256) ∧ σ 3 i = b i
theorem xline_s {i len : Nat} {b : Nat → Int} {σ : Hp} {k : Int → Hp → Prop} (hT : XText σ b len) (hi : i < len) (hk : k (lo (b i)) σ) : wX5_lineAt i σ k := by
  obtain ⟨t1, t2, t3⟩ := hT
  obtain ⟨hb, e3⟩ := t3 i hi
  refine byteAt_s (by omega) (by omega) ?_
  rw [e3]
  refine wbr (F := fun s => k 15 s) (T := fun s => k (b i - 97) s) (zr (by omega) (by omega)) (zrg_d rfl) (zrg_d rfl) (fun hc => ?_) (fun c1 c2 => ?_)
  · rw [lo, if_neg (by omega)] at hk; exact hk
  · rw [lo, if_pos (by omega)] at hk; exact hk
theorem xends_br {i len : Nat} {b : Nat → Int} {σ : Hp} {F T : Hp → Prop} (hT : XText σ b len) (hi : i < len) (hf : b i ≠ 59 → F σ) (ht : b i = 59 → T σ) : wX5_endsRow i σ (fun a s => zrg a ∧ ((a = 0 → F s) ∧ (¬ (a = 0) → T s))) := by
  obtain ⟨t1, t2, t3⟩ := hT
  obtain ⟨hb, e3⟩ := t3 i hi
  refine byteAt_s (by omega) (by omega) ?_
  rw [e3]
  exact ⟨zr (by omega) (by omega), fun hc => b0e (hf hc), fun hc => b1e (ht (by omega))⟩
theorem lo_b (b : Int) : 0 ≤ lo b ∧ (lo b ≤ 11 ∨ lo b = 15) := by unfold lo; split <;> omega
def mx (b : Nat → Int) : Nat → Int
  | 0 => -1
  | i + 1 => if lo (b i) = 15 then mx b i else if lo (b i) ≤ mx b i then mx b i else lo (b i)
theorem mx_lt (b : Nat → Int) {m : Int} (hm : 0 ≤ m) : ∀ i, (-1 ≤ mx b i ∧ mx b i ≤ 15) ∧ (mx b i < m ↔ ∀ j, j < i → lo (b j) = 15 ∨ lo (b j) < m)
  | 0 => ⟨by simp [mx], ⟨fun _ j hj => by omega, fun _ => by simp [mx]; omega⟩⟩
  | i + 1 => by
    have ih := mx_lt b hm i
    have hl := lo_b (b i)
    have key : ∀ P : Nat → Prop, (∀ j, j < i + 1 → P j) ↔ ((∀ j, j < i → P j) ∧ P i) := fun P => ⟨fun h => ⟨fun j hj => h j (by omega), h i (by omega)⟩, fun h j hj => by
      rcases Nat.lt_or_ge j i with hlt | hge
      · exact h.1 j hlt
      · rw [show j = i by omega]; exact h.2⟩
    rw [key, ← ih.2]
    show (-1 ≤ (if lo (b i) = 15 then mx b i else if lo (b i) ≤ mx b i then mx b i else lo (b i)) ∧ (if lo (b i) = 15 then mx b i else if lo (b i) ≤ mx b i then mx b i else lo (b i)) ≤ 15) ∧ ((if lo (b i) = 15 then mx b i else if lo (b i) ≤ mx b i then mx b i else lo (b i)) < m ↔ _)
    have ih1 := ih.1
    split
    · omega
    · split <;> omega
theorem highest_s {b : Nat → Int} {len : Nat} {σ : Hp} {k : Int → Hp → Prop} (hT : XText σ b len) (hk : k (mx b len) σ) : wX5_highestLine σ k := by
  have h1 := hT.1
  have h2 := hT.2.1
  have key : ∀ (q i : Nat), i + q = len → wX5_highestLine_4 k (q + 1) (mx b i) i σ := by
    intro q
    induction q with
    | zero =>
      intro i hi
      obtain rfl : i = len := by omega
      exact ⟨zr (by omega) (by omega), zr (by omega) (by omega), fun _ => hk, fun hc => by omega⟩
    | succ q ih =>
      intro i hi
      have ih := ih (i + 1) (by omega)
      rw [show ((i + 1 : Nat) : Int) = (i : Int) + 1 by omega] at ih
      have hl := lo_b (b i)
      have hm := (mx_lt b (m := 0) (by decide) i).1
      refine ⟨zr (by omega) (by omega), zr (by omega) (by omega), fun hc => by omega, fun _ => xline_s hT (by omega) ⟨zr (by omega) (by omega), fun hc => ?_, fun hc => ⟨zr (by omega) (by omega), fun hd => ?_, fun hd => ?_⟩⟩⟩
      · rw [show mx b (i + 1) = mx b i from if_pos hc] at ih; exact ih
      · rw [show mx b (i + 1) = mx b i by show (if _ then _ else _) = _; rw [if_neg hc, if_pos hd]] at ih; exact ih
      · rw [show mx b (i + 1) = lo (b i) by show (if _ then _ else _) = _; rw [if_neg hc, if_neg hd]] at ih; exact ih
  exact ⟨_, key len 0 (by omega)⟩
-- rows of a text without fault
theorem t_row (b : Nat → Int) : ∀ i (k : Int), 0 ≤ k → k < tE b i → ∃ p, p < i ∧ b p = 59 ∧ tE b p = k
  | 0, k, h0, h1 => by simp [tE] at h1; omega
  | i + 1, k, h0, h1 => by
    by_cases h5 : b i = 59
    · rw [show tE b (i + 1) = tE b i + 1 from if_pos h5] at h1
      by_cases hk : k = tE b i
      · exact ⟨i, by omega, h5, hk.symm⟩
      · obtain ⟨p, q1, q2, q3⟩ := t_row b i k h0 (by omega)
        exact ⟨p, by omega, q2, q3⟩
    · rw [show tE b (i + 1) = tE b i from if_neg h5] at h1
      obtain ⟨p, q1, q2, q3⟩ := t_row b i k h0 h1
      exact ⟨p, by omega, q2, q3⟩
theorem t_cell (b : Nat → Int) : ∀ p (x : Nat), (x : Int) < tC b p → ∃ j, j < p ∧ tE b j = tE b p ∧ tC b j = x ∧ b j ≠ 59 ∧ (j : Int) = p - tC b p + x
  | 0, x, h => by simp [tC] at h; omega
  | p + 1, x, h => by
    by_cases h5 : b p = 59
    · rw [show tC b (p + 1) = 0 from if_pos h5] at h; omega
    · rw [show tC b (p + 1) = tC b p + 1 from if_neg h5] at h ⊢
      rw [show tE b (p + 1) = tE b p from if_neg h5]
      by_cases hx : (x : Int) = tC b p
      · exact ⟨p, by omega, rfl, hx.symm, h5, by omega⟩
      · obtain ⟨j, q1, q2, q3, q4, q5⟩ := t_cell b p x (by omega)
        exact ⟨j, by omega, q2, q3, q4, by omega⟩
theorem t_end (b : Nat → Int) {j : Nat} (h5 : b j ≠ 59) : ∀ d, (∃ p, j < p ∧ p < j + d ∧ b p = 59 ∧ tE b p = tE b j ∧ tC b j < tC b p) ∨ (tE b (j + d) = tE b j ∧ tC b (j + d) = tC b j + d)
  | 0 => Or.inr ⟨rfl, by simp⟩
  | d + 1 => by
    rcases t_end b h5 d with ⟨p, q1, q2, q3⟩ | ⟨q1, q2⟩
    · exact Or.inl ⟨p, q1, by omega, q3⟩
    · by_cases h6 : b (j + d) = 59
      · rcases Nat.eq_zero_or_pos d with hd | hd
        · subst hd; exact absurd h6 h5
        · exact Or.inl ⟨j + d, by omega, by omega, h6, q1, by omega⟩
      · right
        rw [show tE b (j + (d + 1)) = tE b (j + d) from if_neg h6, show tC b (j + (d + 1)) = tC b (j + d) + 1 from if_neg h6]
        exact ⟨q1, by omega⟩
theorem xone {b : Nat → Int} {len i e : Nat} {c m : Int} {s : Hp} {k : Hp → Prop} (hT : XText s b len) (hi : i ≤ len) (he : e < 6) (hc1 : 1 ≤ c) (hc2 : c ≤ 12) (hci : c ≤ i) (hm1 : 1 ≤ m) (hm2 : m ≤ 12) (hk : k (pf s e c m (fun x => lo (b (i - c.toNat + x))) c.toNat)) : wX6_layOne e m ((i : Int) - c) i s k := by
  unfold wX6_layOne
  have hl2 := hT.2.1
  refine rowAt_br (zr (by omega) (by omega)) (fun hc => by omega) (fun _ _ => ?_)
  rw [Int.toNat_natCast, show (i : Int) - ((i : Int) - c) = c by omega]
  refine shape_pf (fun x => lo (b (i - c.toNat + x))) hc1 hc2 hm1 hm2 ?_
  have key : ∀ (q x : Nat), x + q = c.toNat → wX6_layOne_26 k (q + 1) ((i : Int) - c) i e x (pf s e c m (fun x => lo (b (i - c.toNat + x))) x) := by
    intro q
    induction q with
    | zero =>
      intro x hx
      obtain rfl : x = c.toNat := by omega
      exact ⟨zr (by omega) (by omega), zr (by omega) (by omega), fun _ => hk, fun hd => by omega⟩
    | succ q ih =>
      intro x hx
      have ih := ih (x + 1) (by omega)
      rw [show ((x + 1 : Nat) : Int) = (x : Int) + 1 by omega] at ih
      refine ⟨zr (by omega) (by omega), zr (by omega) (by omega), fun hd => by omega, fun _ => ?_⟩
      have hT2 : XText (pf s e c m (fun x => lo (b (i - c.toNat + x))) x) b len := by
        obtain ⟨t1, t2, t3⟩ := hT
        refine ⟨by rw [pf_o (by omega) (by omega)]; exact t1, t2, fun j hj => ?_⟩
        rw [pf_o (by omega) (by omega)]
        exact t3 j hj
      rw [show (i : Int) - c + (x : Int) = ((i - c.toNat + x : Nat) : Int) by omega]
      have hl := lo_b (b (i - c.toNat + x))
      refine xline_s hT2 (by omega) ?_
      exact put_pf hc1 hc2 hm1 hm2 (by omega) (zr (by omega) (by omega)) rfl ih
  exact ⟨_, key c.toNat 0 (by omega)⟩
/-- what the class has laid after i bytes -/
def CL (σ s : Hp) (b : Nat → Int) (m : Int) (i : Nat) : Prop := (∀ p j : Nat, ¬ (29 ≤ p ∧ (p : Int) < 29 + tE b i) → ¬ (36 ≤ p ∧ (p : Int) < 36 + tE b i) → s p j = σ p j) ∧ ∀ j, j < i → b j = 59 → s (29 + (tE b j).toNat) 0 = tC b j ∧ s (29 + (tE b j).toNat) 1 = m ∧ ∀ x : Nat, (x : Int) < tC b j → s (36 + (tE b j).toNat) x = lo (b (j - (tC b j).toNat + x))
theorem xlay {σ : Hp} {b : Nat → Int} {len : Nat} {m : Int} {k : Int → Hp → Prop} (hT : XText σ b len) (hg : ∀ j, j < len → tg b j) (hm1 : 1 ≤ m) (hm2 : m ≤ 12) (hok : ∀ j, j < len → lo (b j) = 15 ∨ lo (b j) < m) (hk : ∀ s, CL σ s b m len → k (tE b len) s) : ∀ (q i : Nat) (s : Hp), i + q = len → CL σ s b m i → wX6_lay_45 k (q + 1) m ((i : Int) - tC b i) (tE b i) i s := by
  have hl2 := hT.2.1
  intro q
  induction q with
  | zero =>
    intro i s hi hs
    obtain rfl : i = len := by omega
    have bd := t_bd b i hg
    have e2 : s 2 1 = (i : Int) := (hs.1 2 1 (by omega) (by omega)).trans hT.1
    show zrg _ ∧ zrg (s 2 1) ∧ _
    rw [e2]
    exact ⟨zr (by omega) (by omega), zr (by omega) (by omega), fun _ => hk s hs, fun hc => by omega⟩
  | succ q ih =>
    intro i s hi hs
    have bd := t_bd b i (fun j hj => hg j (by omega))
    have hgi := hg i (by omega)
    have hTs : XText s b len := by
      obtain ⟨t1, t2, t3⟩ := hT
      refine ⟨(hs.1 2 1 (by omega) (by omega)).trans t1, t2, fun j hj => ?_⟩
      rw [hs.1 3 j (by omega) (by omega)]
      exact t3 j hj
    show zrg _ ∧ zrg (s 2 1) ∧ _
    rw [hTs.1]
    refine ⟨zr (by omega) (by omega), zr (by omega) (by omega), fun hc => by omega, fun _ => xends_br hTs (by omega) (fun h5 => ?_) (fun h5 => ?_)⟩
    · have := ih (i + 1) s (by omega) ⟨by rw [show tE b (i + 1) = tE b i from if_neg h5]; exact hs.1, fun j hj hj5 => hs.2 j (by
        rcases Nat.lt_or_ge j i with hlt | hge
        · exact hlt
        · exact absurd ((show j = i by omega) ▸ hj5) h5) hj5⟩
      rw [show tE b (i + 1) = tE b i from if_neg h5, show tC b (i + 1) = tC b i + 1 from if_neg h5, show ((i + 1 : Nat) : Int) - (tC b i + 1) = (i : Int) - tC b i by omega, show ((i + 1 : Nat) : Int) = (i : Int) + 1 by omega] at this
      exact this
    · have hc0 := hgi.1 h5
      have hE6 : tE b i ≠ 6 := fun hc => hc0 (bd.2.2 hc)
      obtain ⟨e, he⟩ : ∃ e : Nat, tE b i = (e : Int) := ⟨(tE b i).toNat, by omega⟩
      have hen : (tE b i).toNat = e := by omega
      rw [he]
      refine xone hTs (by omega) (by omega) (by omega) bd.1.2.1 bd.1.2.2 hm1 hm2 ?_
      have hcl : CL σ (pf s e (tC b i) m (fun x => lo (b (i - (tC b i).toNat + x))) (tC b i).toNat) b m (i + 1) := by
        refine ⟨fun p j c1 c2 => ?_, fun j hj hj5 => ?_⟩
        · rw [show tE b (i + 1) = tE b i + 1 from if_pos h5] at c1 c2
          rw [pf_o (by omega) (by omega)]
          exact hs.1 p j (by omega) (by omega)
        · by_cases hji : j = i
          · subst hji
            rw [hen]
            refine ⟨pf_n, pf_m, fun x hx => ?_⟩
            rw [pf_l (by omega)]
            refine cl_id ?_ (by omega)
            have hl := lo_b (b (j - (tC b j).toNat + x))
            rcases hok (j - (tC b j).toNat + x) (by omega) with ho | ho
            · exact Or.inr ho
            · exact Or.inl ⟨hl.1, ho⟩
          · have mn := t_mono b (j + 1) (i - (j + 1))
            rw [show j + 1 + (i - (j + 1)) = i by omega, show tE b (j + 1) = tE b j + 1 from if_pos hj5] at mn
            have bj := t_bd b j (fun q hq => hg q (by omega))
            obtain ⟨r1, r2, r3⟩ := hs.2 j (by omega) hj5
            rw [pf_o (by omega) (by omega), pf_o (by omega) (by omega)]
            exact ⟨r1, r2, r3⟩
      have := ih (i + 1) _ (by omega) hcl
      rw [show tE b (i + 1) = tE b i + 1 from if_pos h5, show tC b (i + 1) = 0 from if_pos h5, he, show ((i + 1 : Nat) : Int) - 0 = (i : Int) + 1 by omega, show ((i + 1 : Nat) : Int) = (i : Int) + 1 by omega] at this
      exact this
/-- the rows that the reference has read: how wide, what -/
theorem mread {σ s : Hp} {b : Nat → Int} {len : Nat} (hg : ∀ j, j < len → tg b j) (h0 : tC b len = 0) (h : RS σ s b len) : (∀ k : Nat, (k : Int) < tE b len → ∃ p, p < len ∧ b p = 59 ∧ tE b p = k ∧ s 26 k = tC b p ∧ (1 ≤ tC b p ∧ tC b p ≤ 12) ∧ ∀ x : Nat, (x : Int) < tC b p → ∃ j, j < len ∧ (j : Int) = p - tC b p + x ∧ s 25 (12 * k + x) = lo (b j)) ∧ ∀ j, j < len → b j ≠ 59 → tE b j < tE b len ∧ tC b j < s 26 (tE b j).toNat ∧ 0 ≤ tC b j ∧ s 25 (12 * (tE b j).toNat + (tC b j).toNat) = lo (b j) := by
  refine ⟨fun k hk => ?_, fun j hj h5 => ?_⟩
  · obtain ⟨p, q1, q2, q3⟩ := t_row b len k (by omega) hk
    have bp := t_bd b p (fun j hj => hg j (by omega))
    have hgp := (hg p q1).1 q2
    refine ⟨p, q1, q2, q3, ?_, ⟨by omega, by omega⟩, fun x hx => ?_⟩
    · have := h.2.2.2 p q1 q2
      rw [q3, Int.toNat_natCast] at this
      exact this
    · obtain ⟨j, c1, c2, c3, c4, c5⟩ := t_cell b p x hx
      refine ⟨j, by omega, c5, ?_⟩
      have := h.2.2.1 j (by omega) c4
      rw [c2, c3, q3, show (12 * (k : Int) + (x : Int)).toNat = 12 * k + x by omega] at this
      exact this
  · have bj := t_bd b j (fun q hq => hg q (by omega))
    have te := t_end b h5 (len - j)
    rw [show j + (len - j) = len by omega] at te
    rcases te with ⟨p, q1, q2, q3, q4, q5⟩ | ⟨q1, q2⟩
    · have mn := t_mono b (p + 1) (len - (p + 1))
      rw [show p + 1 + (len - (p + 1)) = len by omega, show tE b (p + 1) = tE b p + 1 from if_pos q3] at mn
      have e26 := h.2.2.2 p (by omega) q3
      rw [q4] at e26
      refine ⟨by omega, by rw [e26]; exact q5, bj.1.1, ?_⟩
      have := h.2.2.1 j hj h5
      rw [show (12 * tE b j + tC b j).toNat = 12 * (tE b j).toNat + (tC b j).toNat by omega] at this
      exact this
    · omega
theorem mlay_in {m k : Int} {s : Hp} {kk : Int → Hp → Prop} {K28 : Int → Int → Hp → Prop} (h0 : 0 ≤ k) (h5 : k < 6) (hm1 : 1 ≤ m) (hm2 : m ≤ 12) (hw : 1 ≤ s 26 k.toNat ∧ s 26 k.toNat ≤ 12) (hv : ∀ x : Nat, (x : Int) < s 26 k.toNat → 0 ≤ s 25 (12 * k.toNat + x) ∧ s 25 (12 * k.toNat + x) ≤ 15) (hbad : ∀ x : Nat, (x : Int) < s 26 k.toNat → m ≤ s 25 (12 * k.toNat + x) ∧ s 25 (12 * k.toNat + x) ≤ 14 → kk (-2) s) (hok : (∀ x : Nat, (x : Int) < s 26 k.toNat → ¬ (m ≤ s 25 (12 * k.toNat + x) ∧ s 25 (12 * k.toNat + x) ≤ 14)) → K28 m (k + 1) s) : ∀ (q x : Nat), x + q = (s 26 k.toNat).toNat → (∀ y : Nat, y < x → ¬ (m ≤ s 25 (12 * k.toNat + y) ∧ s 25 (12 * k.toNat + y) ≤ 14)) → wX7_lay_38 kk K28 (q + 1) m k x s := by
  intro q
  induction q with
  | zero =>
    intro x hx hy
    refine ⟨⟨h0, h5⟩, zr (by omega) (by omega), zr (by omega) (by omega), fun _ => hok (fun y hy2 => hy y (by omega)), fun hc => by omega⟩
  | succ q ih =>
    intro x hx hy
    have hvx := hv x (by omega)
    refine ⟨⟨h0, h5⟩, zr (by omega) (by omega), zr (by omega) (by omega), fun hc => by omega, fun _ => ⟨⟨by omega, by omega⟩, ?_⟩⟩
    rw [show (12 * k + (x : Int)).toNat = 12 * k.toNat + x by omega]
    refine ⟨zr (by omega) (by omega), zr (by omega) (by omega), ibr (zr (by omega) (by omega)) (zr (by omega) (by omega)) (zrg_d rfl) (fun hc => ?_) (fun c1 c2 => hbad x (by omega) ⟨c1, c2⟩)⟩
    have := ih (x + 1) (by omega) (fun y hy2 => by
      rcases Nat.lt_or_ge y x with hlt | hge
      · exact hy y hlt
      · rw [show y = x by omega]; omega)
    rw [show ((x + 1 : Nat) : Int) = (x : Int) + 1 by omega] at this
    exact this
theorem mlay_set {m : Int} {k : Nat} {s : Hp} {kk : Int → Hp → Prop} {K88 : Int → Int → Hp → Prop} (h5 : k < 6) (hw : 1 ≤ s 26 k ∧ s 26 k ≤ 12) (hk : K88 m ((k : Int) + 1) (mf s k (s 26 k) m (fun x => s 25 (12 * k + x)) (s 26 k).toNat)) : ∀ (q x : Nat), x + q = (s 26 k).toNat → wX7_lay_117 kk K88 (q + 1) m k x (mf s k (s 26 k) m (fun x => s 25 (12 * k + x)) x) := by
  intro q
  induction q with
  | zero =>
    intro x hx
    obtain rfl : x = (s 26 k).toNat := by omega
    refine ⟨⟨by omega, by omega⟩, zr (by omega) (by omega), ?_, fun _ => hk, fun hc => ?_⟩
    · rw [Int.toNat_natCast, mf_o (by decide)]; exact zr (by omega) (by omega)
    · rw [Int.toNat_natCast, mf_o (by decide)] at hc; omega
  | succ q ih =>
    intro x hx
    have ih := ih (x + 1) (by omega)
    rw [show ((x + 1 : Nat) : Int) = (x : Int) + 1 by omega] at ih
    refine ⟨⟨by omega, by omega⟩, zr (by omega) (by omega), ?_, fun hc => ?_, fun _ => ⟨⟨by omega, by omega⟩, ?_⟩⟩
    · rw [Int.toNat_natCast, mf_o (by decide)]; exact zr (by omega) (by omega)
    · rw [Int.toNat_natCast, mf_o (by decide)] at hc; omega
    · rw [show (12 * (k : Int) + (x : Int)).toNat = 12 * k + x by omega, mf_o (q := 25) (by decide)]
      have := mf_step s k (s 26 k) m (fun x => s 25 (12 * k + x)) x
      rw [this]
      exact ih
theorem mf_18 {s : Hp} {k : Nat} {n m : Int} {f : Nat → Int} {i j : Nat} (h : j ≠ k) : mf s k n m f i 18 j = s 18 j := by simp [mf, h]
theorem mf_19 {s : Hp} {k : Nat} {n m : Int} {f : Nat → Int} {i j : Nat} (h : j ≠ k) : mf s k n m f i 19 j = s 19 j := by simp [mf, h]
/-- what the reference has laid after k rows -/
def ML (s t : Hp) (m : Int) (k : Nat) : Prop := (∀ p j : Nat, ¬ ((p = 18 ∨ p = 19) ∧ j < k) → ¬ (p = 20 ∧ j < 12 * k) → t p j = s p j) ∧ ∀ i, i < k → t 18 i = s 26 i ∧ t 19 i = m ∧ ∀ x : Nat, (x : Int) < s 26 i → t 20 (12 * i + x) = s 25 (12 * i + x)
theorem mlay_all {m : Int} {R : Nat} {s : Hp} {kk : Int → Hp → Prop} (hR6 : R ≤ 6) (hR : s 17 12 = (R : Int)) (hw : ∀ k, k < R → 1 ≤ s 26 k ∧ s 26 k ≤ 12) (hk : ∀ t, ML s t m R → kk R t) : ∀ (q k : Nat) (t : Hp), k + q = R → ML s t m k → wX7_lay_88 kk (q + 1) m k t := by
  intro q
  induction q with
  | zero =>
    intro k t hkq ht
    obtain rfl : k = R := by omega
    have e12 : t 17 12 = (k : Int) := (ht.1 17 12 (by omega) (by omega)).trans hR
    unfold wX7_lay_88
    rw [e12]
    exact ⟨zr (by omega) (by omega), zr (by omega) (by omega), fun _ => hk t ht, fun hc => by omega⟩
  | succ q ih =>
    intro k t hkq ht
    have e12 : t 17 12 = (R : Int) := (ht.1 17 12 (by omega) (by omega)).trans hR
    have hwk := hw k (by omega)
    have e26 : ∀ j, t 26 j = s 26 j := fun j => ht.1 26 j (by omega) (by omega)
    have e25 : ∀ j, t 25 j = s 25 j := fun j => ht.1 25 j (by omega) (by omega)
    have e26k := e26 k
    unfold wX7_lay_88
    rw [e12]
    refine ⟨zr (by omega) (by omega), zr (by omega) (by omega), fun hc => by omega, fun _ => ⟨⟨by omega, by omega⟩, ?_⟩⟩
    rw [Int.toNat_natCast, mf_0 t k (t 26 k) m (fun x => t 25 (12 * k + x))]
    refine ⟨_, mlay_set (by omega) (by rw [e26]; exact hwk) ?_ (t 26 k).toNat 0 (by omega)⟩
    have ms := mf_set (s := t) (k := k) (n := t 26 k) (m := m) (f := fun x => t 25 (12 * k + x)) (i := (t 26 k).toNat) (by rw [e26]; omega) (by rw [e26]; exact hwk.2)
    have hml : ML s (mf t k (t 26 k) m (fun x => t 25 (12 * k + x)) (t 26 k).toNat) m (k + 1) := by
      refine ⟨fun p j c1 c2 => ?_, fun i hi => ?_⟩
      · by_cases d1 : p = 18 ∨ p = 19
        · have hjk : j ≠ k := by omega
          rcases d1 with d1 | d1
          · subst d1
            rw [mf_18 hjk]
            exact ht.1 18 j (by omega) (by omega)
          · subst d1
            rw [mf_19 hjk]
            exact ht.1 19 j (by omega) (by omega)
        · by_cases d2 : p = 20
          · subst d2
            simp only [mf, if_neg (show (20 : Nat) ≠ 18 by decide), if_neg (show (20 : Nat) ≠ 19 by decide), if_true]
            rw [if_neg (by omega)]
            exact ht.1 20 j (by omega) (by omega)
          · rw [mf_o (by omega)]
            exact ht.1 p j (by omega) (by omega)
      · by_cases hik : i = k
        · subst hik
          refine ⟨ms.2.1.trans (e26 i), ms.2.2.1, fun x hx => ?_⟩
          rw [ms.2.2.2 x (by rw [e26]; exact hx)]
          exact e25 _
        · obtain ⟨r1, r2, r3⟩ := ht.2 i (by omega)
          refine ⟨?_, ?_, fun x hx => ?_⟩
          · rw [← r1]; simp [mf, hik]
          · rw [← r2]; simp [mf, hik]
          · rw [← r3 x hx]
            have := hw i (by omega)
            simp only [mf, if_neg (show (20 : Nat) ≠ 18 by decide), if_neg (show (20 : Nat) ≠ 19 by decide), if_true]
            rw [if_neg (by omega)]
    have := ih (k + 1) _ (by omega) hml
    rw [show ((k + 1 : Nat) : Int) = (k : Int) + 1 by omega] at this
    exact this
