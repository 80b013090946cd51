/-! rows(), squares(), holding(), longest() -/
theorem pair_s {K : Hp → Prop} (hK : ∀ σ, Inv σ → K σ) {σ s : Hp} (hI : Inv σ) {H : Nat → Int} {n m : Nat} {kind one w v5 v : Int} {R : Hp → (Int → Hp → Prop) → Prop} (h0 : 0 ≤ v) (h5 : v ≤ 5) (hm : 1 ≤ m ∧ m ≤ 12) (hn : 1 ≤ n ∧ n ≤ 12) (hkd : kind = 0 ∨ kind = 1) (hone : one = 0 ∨ one = 1) (hw : zrg w) (hv5 : zrg v5) (hH : ∀ x, x < n → H x = 15 ∨ (0 ≤ H x ∧ H x < m)) (hHE : ∀ s, s 18 = σ 18 → s 19 = σ 19 → s 20 = σ 20 → HE s v5 H n) (hB : m ^ n ≤ 1073741824) (hR : ∀ u k, u 18 = σ 18 → u 19 = σ 19 → wX7_lays n m kind one v5 w u (fun a s => wX7_becomes v n m a w s k) → R u k) (hs : AS σ s H n m kind one) : wX6_countOrMake w v s (fun a s => R s (fun b t => zrg a ∧ zrg b ∧ ((a = b → K t) ∧ (¬ (a = b) → False)))) := by
  have hl := sols_len H m kind one n 0 L0
  have hB' : ((sols H m kind one n 0 L0).length : Int) ≤ 1073741824 := by omega
  have s18 : ∀ {a b : Hp}, Same a b → b 18 = a 18 := fun h => h.fn (fun j => by unfold keep; omega)
  have s19 : ∀ {a b : Hp}, Same a b → b 19 = a 19 := fun h => h.fn (fun j => by unfold keep; omega)
  have s20 : ∀ {a b : Hp}, Same a b → b 20 = a 20 := fun h => h.fn (fun j => by unfold keep; omega)
  have he : ∀ u : Hp, u 18 = σ 18 → u 19 = σ 19 → u 20 = σ 20 → ∀ s, Same u s → HE s v5 H n := fun u a b c s hs => hHE s (by rw [s18 hs, a]) (by rw [s19 hs, b]) (by rw [s20 hs, c])
  refine com_s h0 h5 hm hn hkd hone hw hH hB' hs (fun hw0 u hu => ?_) (fun hw0 hlen u hu => ?_) (fun hw0 F hF u hu => ?_)
  · refine hR u _ (s18 hu) (s19 hu) (lb_s h0 h5 hm hn hkd hone hw hv5 (he u (s18 hu) (s19 hu) (s20 hu)) hB' (fun _ t ht => ?_) (fun hc => absurd hc (by omega)) (fun hc => absurd hc (by omega)))
    exact fin rfl ⟨by omega, by omega⟩ (hK _ (hI.same (hu.tr ht)))
  · refine hR u _ (s18 hu) (s19 hu) (lb_s h0 h5 hm hn hkd hone hw hv5 (he u (s18 hu) (s19 hu) (s20 hu)) hB' (fun hc => absurd hc (by omega)) (fun _ _ t ht => ?_) (fun _ F hF => ?_))
    · exact fin rfl (zrg_d rfl) (hK _ (hI.same (hu.tr ht)))
    · have := (List.getElem?_eq_some_iff.mp hF).1
      omega
  · refine hR u _ (hu.m 18 (by omega)) (hu.m 19 (by omega)) (lb_s h0 h5 hm hn hkd hone hw hv5 (he u (hu.m 18 (by omega)) (hu.m 19 (by omega)) (hu.m 20 (by omega))) hB' (fun hc => absurd hc (by omega)) (fun _ hlen => ?_) (fun _ G hG t ht => ?_))
    · have := (List.getElem?_eq_some_iff.mp hF).1
      omega
    · rw [hF] at hG
      have hFG : F = G := by cases hG; rfl
      subst hFG
      have hr := sols_r n 0 _ L0 (fun j hj => absurd hj (by omega)) hF
      rw [Nat.zero_add] at hr
      exact fin rfl (zr (by omega) (by omega)) (hK _ (hI.set (by omega) ⟨by omega, by omega, fun x hx => Or.inl (hr x (by omega))⟩ hu ht))
theorem T_rows {K : Hp → Prop} (hK : ∀ σ, Inv σ → K σ) {v1 v2 v3 v4 v5 : Int} (h1 : zrg v1) (h2 : zrg v2) (h3 : zrg v3) (h4 : zrg v4) (h5 : zrg v5) {σ : Hp} (hI : Inv σ) : wX6_rows v1 v2 v3 v4 v5 σ (fun a s => wX7_rows v1 v2 v3 v4 v5 s (fun b t => zrg a ∧ zrg b ∧ ((a = b → K t) ∧ (¬ (a = b) → False)))) := by
  have fok : zrg (-1) ∧ zrg (-1) ∧ (((-1 : Int) = -1 → K σ) ∧ (¬ ((-1 : Int) = -1) → False)) := fin rfl (zrg_d rfl) (hK _ hI)
  have bad : ¬ (1 ≤ v1 ∧ v1 ≤ 8 ∧ 1 ≤ v2 ∧ v2 ≤ 6 ∧ 0 ≤ v3 ∧ v3 ≤ 1 ∧ -1 ≤ v4 ∧ 0 ≤ v5 ∧ v5 ≤ 5) → wX7_rows v1 v2 v3 v4 v5 σ (fun b t => zrg (-1) ∧ zrg b ∧ (((-1) = b → K t) ∧ (¬ ((-1) = b) → False))) := fun hb => by
    refine ⟨h1, ibr h1 (zrg_d rfl) (zrg_d rfl) (fun _ => fok) (fun a1 a2 => ⟨h2, ?_⟩)⟩
    refine ibr h2 (zrg_d rfl) (zrg_d rfl) (fun _ => fok) (fun b1 b2 => ⟨h3, ?_⟩)
    refine ibr h3 (zrg_d rfl) (zrg_d rfl) (fun _ => fok) (fun c1 c2 => ⟨h4, fun _ => fok, fun d => ?_⟩)
    exact isRow_brn h5 (fun _ => fok) (fun e1 e2 => absurd ⟨a1, a2, b1, b2, c1, c2, by omega, e1, e2⟩ hb)
  unfold wX6_rows
  refine wbr h1 (zrg_d rfl) (zrg_d rfl) (fun hc => bad (by omega)) (fun a1 a2 => ?_)
  refine wbr h2 (zrg_d rfl) (zrg_d rfl) (fun hc => bad (by omega)) (fun b1 b2 => ?_)
  refine isKind_br h3 (fun hc => bad (by omega)) (fun hkd => ⟨h4, fun hc => bad (by omega), fun d => ?_⟩)
  refine rowAt_br h5 (fun hc => bad (by omega)) (fun e1 e2 => ?_)
  obtain ⟨n, rfl⟩ : ∃ n : Nat, v1 = (n : Int) := ⟨v1.toNat, by omega⟩
  obtain ⟨m, rfl⟩ : ∃ m : Nat, v2 = (m : Int) := ⟨v2.toNat, by omega⟩
  refine rows_s (by omega) (by omega) (Same.rf σ) (fun t ht => ?_)
  refine pair_s hK hI (v5 := -1) (R := wX7_rows n m v3 v4 v5) e1 e2 (by omega) (by omega) hkd (Or.inl rfl) h4 (zrg_d rfl) (fun x _ => Or.inl rfl) (fun s _ _ _ => Or.inl ⟨by decide, fun _ _ => rfl⟩) (Nat.le_trans (Nat.pow_le_pow_left (show m ≤ 6 by omega) n) (Nat.le_trans (Nat.pow_le_pow_right (by decide) (show n ≤ 8 by omega)) (by decide))) (fun u k _ _ hu => ?_) ht
  refine ⟨h1, ibr h1 (zrg_d rfl) (zrg_d rfl) (fun _ => by omega) (fun _ _ => ⟨h2, ?_⟩)⟩
  refine ibr h2 (zrg_d rfl) (zrg_d rfl) (fun _ => by omega) (fun _ _ => ⟨h3, ?_⟩)
  refine ibr h3 (zrg_d rfl) (zrg_d rfl) (fun _ => by omega) (fun _ _ => ⟨h4, fun hc => absurd hc d, fun _ => ?_⟩)
  exact isRow_brn h5 (fun _ => by omega) (fun _ _ => hu)
theorem T_squares {K : Hp → Prop} (hK : ∀ σ, Inv σ → K σ) {v1 v2 v3 : Int} (h1 : zrg v1) (h2 : zrg v2) (h3 : zrg v3) {σ : Hp} (hI : Inv σ) : wX6_squares v1 v2 v3 σ (fun a s => wX7_squares v1 v2 v3 s (fun b t => zrg a ∧ zrg b ∧ ((a = b → K t) ∧ (¬ (a = b) → False)))) := by
  have fok : zrg (-1) ∧ zrg (-1) ∧ (((-1 : Int) = -1 → K σ) ∧ (¬ ((-1 : Int) = -1) → False)) := fin rfl (zrg_d rfl) (hK _ hI)
  have bad : ¬ (1 ≤ v1 ∧ v1 ≤ 8 ∧ -1 ≤ v2 ∧ 0 ≤ v3 ∧ v3 ≤ 5) → wX7_squares v1 v2 v3 σ (fun b t => zrg (-1) ∧ zrg b ∧ (((-1) = b → K t) ∧ (¬ ((-1) = b) → False))) := fun hb => by
    refine ⟨h1, ibr h1 (zrg_d rfl) (zrg_d rfl) (fun _ => fok) (fun a1 a2 => ⟨h2, fun _ => fok, fun d => ?_⟩)⟩
    exact isRow_brn h3 (fun _ => fok) (fun e1 e2 => absurd ⟨a1, a2, by omega, e1, e2⟩ hb)
  unfold wX6_squares
  refine wbr h1 (zrg_d rfl) (zrg_d rfl) (fun hc => bad (by omega)) (fun a1 a2 => ⟨h2, fun hc => bad (by omega), fun d => ?_⟩)
  refine rowAt_br h3 (fun hc => bad (by omega)) (fun e1 e2 => ?_)
  obtain ⟨n, rfl⟩ : ∃ n : Nat, v1 = (n : Int) := ⟨v1.toNat, by omega⟩
  refine squares_s (by omega) (Same.rf σ) (fun t ht => ?_)
  refine pair_s hK hI (v5 := -1) (R := wX7_squares n v2 v3) e1 e2 (by omega) (by omega) (Or.inl rfl) (Or.inr rfl) h2 (zrg_d rfl) (fun x _ => Or.inl rfl) (fun s _ _ _ => Or.inl ⟨by decide, fun _ _ => rfl⟩) (Nat.le_trans (Nat.pow_le_pow_left (show n ≤ 8 by omega) n) (Nat.le_trans (Nat.pow_le_pow_right (by decide) (show n ≤ 8 by omega)) (by decide))) (fun u k _ _ hu => ?_) ht
  refine ⟨h1, ibr h1 (zrg_d rfl) (zrg_d rfl) (fun _ => by omega) (fun _ _ => ⟨h2, fun hc => absurd hc d, fun _ => ?_⟩)⟩
  exact isRow_brn h3 (fun _ => by omega) (fun _ _ => hu)
theorem T_holding {K : Hp → Prop} (hK : ∀ σ, Inv σ → K σ) {v1 v2 v3 : Int} (h1 : zrg v1) (h2 : zrg v2) (h3 : zrg v3) {σ : Hp} (hI : Inv σ) : wX6_holding v1 v2 v3 σ (fun a s => wX7_holding v1 v2 v3 s (fun b t => zrg a ∧ zrg b ∧ ((a = b → K t) ∧ (¬ (a = b) → False)))) := by
  have fok : ∀ z : Int, zrg z → zrg z ∧ zrg z ∧ ((z = z → K σ) ∧ (¬ (z = z) → False)) := fun z hz => fin rfl hz (hK _ hI)
  have bad : ¬ (0 ≤ v1 ∧ v1 ≤ 5 ∧ -1 ≤ v2 ∧ 0 ≤ v3 ∧ v3 ≤ 5) → wX7_holding v1 v2 v3 σ (fun b t => zrg (-1) ∧ zrg b ∧ (((-1) = b → K t) ∧ (¬ ((-1) = b) → False))) := fun hb => by
    refine isRow_br h1 (fun _ => fok _ (zrg_d rfl)) (fun a1 a2 => ⟨h2, fun _ => fok _ (zrg_d rfl), fun d => ?_⟩)
    exact isRow_brn h3 (fun _ => fok _ (zrg_d rfl)) (fun e1 e2 => absurd ⟨a1, a2, by omega, e1, e2⟩ hb)
  unfold wX6_holding
  refine rowAt_br h1 (fun hc => bad (by omega)) (fun a1 a2 => ⟨h2, fun hc => bad (by omega), fun d => ?_⟩)
  refine rowAt_br h3 (fun hc => bad (by omega)) (fun e1 e2 => ?_)
  have hr := hI.row a1 a2
  have hv6 : v1.toNat < 6 := by omega
  have hnb := hr.1.1
  have hmb := hr.1.2.1
  obtain ⟨n, hN⟩ : ∃ n : Nat, σ (29 + v1.toNat) 0 = (n : Int) := ⟨(σ (29 + v1.toNat) 0).toNat, by omega⟩
  have bad2 : (8 < n ∨ σ (29 + v1.toNat) 1 ≠ n) → wX7_holding v1 v2 v3 σ (fun b t => zrg (-2) ∧ zrg b ∧ (((-2) = b → K t) ∧ (¬ ((-2) = b) → False))) := fun hb => by
    refine isRow_br h1 (fun _ => by omega) (fun _ _ => ⟨h2, fun hc => absurd hc d, fun _ => ?_⟩)
    refine isRow_brn h3 (fun _ => by omega) (fun _ _ => ⟨⟨by omega, by omega⟩, ?_⟩)
    rw [hr.2.1, hr.2.2.1, hN]
    exact ⟨zr (by omega) (by omega), fun _ => fok _ (zrg_d rfl), fun hc => ⟨zr (by omega) (by omega), fun he => by omega, fun _ => fok _ (zrg_d rfl)⟩⟩
  show zrg (σ (29 + v1.toNat) 0) ∧ _
  rw [hN]
  refine ⟨zr (by omega) (by omega), fun hc => bad2 (Or.inl (by omega)), fun hc8 => ?_⟩
  show zrg (σ (29 + v1.toNat) 0) ∧ zrg (σ (29 + v1.toNat) 1) ∧ _
  rw [hN]
  refine ⟨zr (by omega) (by omega), zr (by omega) (by omega), fun he => ?_, fun he => bad2 (Or.inr (fun e => he e.symm))⟩
  unfold wX3_columns
  rw [hN]
  refine squares_s (by omega) (Same.rf σ) (fun t ht => ?_)
  refine keepMarks_s hv6 hr.1 hN he.symm ht (fun t2 ht2 => ?_)
  refine pair_s hK hI (v5 := v1) (R := wX7_holding v1 v2 v3) e1 e2 (by omega) (by omega) (Or.inl rfl) (Or.inr rfl) h2 h1 (fun x hx => ?_) (fun s b18 b19 b20 => Or.inr ⟨a1, a2, MW_eq hr.mw b18 b19 b20, fun x hx => by rw [ma_eq b18 b20, hr.mra]⟩) (Nat.le_trans (Nat.pow_le_pow_left (show n ≤ 8 by omega) n) (Nat.le_trans (Nat.pow_le_pow_right (by decide) (show n ≤ 8 by omega)) (by decide))) (fun u k b18 b19 hu => ?_) ht2
  · rcases ra_v hr.1 (x : Int) with h | h
    · exact Or.inr ⟨h.1, by have := h.2.1; show ra σ v1.toNat x < n; omega⟩
    · exact Or.inl h
  · refine isRow_br h1 (fun _ => by omega) (fun _ _ => ⟨h2, fun hc => absurd hc d, fun _ => ?_⟩)
    refine isRow_brn h3 (fun _ => by omega) (fun _ _ => ⟨⟨by omega, by omega⟩, ?_⟩)
    rw [b18, b19, hr.2.1, hr.2.2.1, hN]
    exact ⟨zr (by omega) (by omega), fun hc => absurd hc hc8, fun _ => ⟨zr (by omega) (by omega), fun _ => hu, fun hc => absurd he.symm hc⟩⟩
theorem sols_1 (m : Nat) (kind : Int) (hm : 1 ≤ m) : 1 ≤ (sols (fun _ => 15) m kind 0 1 0 L0).length := by
  obtain ⟨q, rfl⟩ : ∃ q, m = q + 1 := ⟨m - 1, by omega⟩
  have hok : okB (fun _ => 15) ((q + 1 : Nat) : Int) kind 0 0 L0 0 = true := okB_iff.mpr ⟨Or.inl rfl, Or.inl rfl, fun d hd => absurd hd (by omega)⟩
  rw [sols_s]
  show 1 ≤ (sg (fun _ => 15) (q + 1) kind 0 0 0 L0 0 ++ sf (sg (fun _ => 15) (q + 1) kind 0 0 0 L0) q 1).length
  rw [List.length_append, show sg (fun _ => 15) (q + 1) kind 0 0 0 L0 0 = [upz L0 0 ((0 : Nat) : Int)] from if_pos hok]
  show 1 ≤ 1 + _
  omega
theorem T_longest {K : Hp → Prop} (hK : ∀ σ, Inv σ → K σ) {v1 v2 : Int} (h1 : zrg v1) (h2 : zrg v2) {σ : Hp} (hI : Inv σ) : wX6_longest v1 v2 σ (fun a s => wX7_longest v1 v2 s (fun b t => zrg a ∧ zrg b ∧ ((a = b → K t) ∧ (¬ (a = b) → False)))) := by
  have fok : zrg (-1) ∧ zrg (-1) ∧ (((-1 : Int) = -1 → K σ) ∧ (¬ ((-1 : Int) = -1) → False)) := fin rfl (zrg_d rfl) (hK _ hI)
  have bad : ¬ (1 ≤ v1 ∧ v1 ≤ 4 ∧ 0 ≤ v2 ∧ v2 ≤ 1) → wX7_longest v1 v2 σ (fun b t => zrg (-1) ∧ zrg b ∧ (((-1) = b → K t) ∧ (¬ ((-1) = b) → False))) := fun hb => by
    refine ⟨h1, ibr h1 (zrg_d rfl) (zrg_d rfl) (fun _ => fok) (fun a1 a2 => ⟨h2, ?_⟩)⟩
    exact ibrn h2 (zrg_d rfl) (zrg_d rfl) (fun _ => fok) (fun e1 e2 => absurd ⟨a1, a2, e1, e2⟩ hb)
  unfold wX6_longest
  refine wbr h1 (zrg_d rfl) (zrg_d rfl) (fun hc => bad (by omega)) (fun a1 a2 => ?_)
  refine isKind_br h2 (fun hc => bad (by omega)) (fun hkd => ?_)
  obtain ⟨m, rfl⟩ : ∃ m : Nat, v1 = (m : Int) := ⟨v1.toNat, by omega⟩
  have hB : ∀ n, n ≤ 12 → ((sols (fun _ => 15) m v2 0 n 0 L0).length : Int) ≤ 1073741824 := fun n hn => by
    have := sols_len (fun _ => 15) m v2 0 n 0 L0
    have h2 : m ^ n ≤ 4 ^ n := Nat.pow_le_pow_left (by omega) n
    have h3 : 4 ^ n ≤ 4 ^ 12 := Nat.pow_le_pow_right (by decide) hn
    omega
  -- the reference, where the answer is j0
  have ref : ∀ (j0 : Nat) (u : Hp), Same σ u → 1 ≤ j0 → j0 ≤ 12 → (∀ n, 1 ≤ n → n ≤ j0 → 1 ≤ (sols (fun _ => 15) m v2 0 n 0 L0).length) → (j0 = 12 ∨ (sols (fun _ => 15) m v2 0 (j0 + 1) 0 L0).length = 0) → wX7_longest m v2 u (fun b t => zrg (j0 : Int) ∧ zrg b ∧ (((j0 : Int) = b → K t) ∧ (¬ ((j0 : Int) = b) → False))) := fun j0 u hu hj1 hj12 hall hend => by
    refine ⟨h1, ibr h1 (zrg_d rfl) (zrg_d rfl) (fun _ => by omega) (fun _ _ => ⟨h2, ?_⟩)⟩
    refine ibrn h2 (zrg_d rfl) (zrg_d rfl) (fun _ => by omega) (fun _ _ => ?_)
    have key : ∀ (q j : Nat) (t : Hp), j + q = j0 → 1 ≤ j → Same σ t → wX7_longest_26 (fun b t => zrg (j0 : Int) ∧ zrg b ∧ (((j0 : Int) = b → K t) ∧ (¬ ((j0 : Int) = b) → False))) (q + 1) m v2 j t := by
      intro q
      induction q with
      | zero =>
        intro j t hj h1j ht
        obtain rfl : j = j0 := by omega
        refine ⟨zr (by omega) (by omega), fun _ => fin rfl (zr (by omega) (by omega)) (hK _ (hI.same ht)), fun hc => ?_⟩
        have hz : (sols (fun _ => 15) m v2 0 (j + 1) 0 L0).length = 0 := by
          rcases hend with h | h
          · omega
          · exact h
        unfold wX7_there
        rw [show (j : Int) + 1 = ((j + 1 : Nat) : Int) by omega]
        refine ltop_s (H := fun _ => 15) (by omega) (by omega) hkd (Or.inl rfl) (zrg_d rfl) (zrg_d rfl) (fun s _ => Or.inl ⟨by decide, fun _ _ => rfl⟩) (hB _ (by omega)) (fun _ y hy y9 => ?_) (fun _ y F hF => ?_)
        · rw [y9]
          exact ⟨zrg_d rfl, fun _ => b0e (fin rfl (zr (by omega) (by omega)) (hK _ (hI.same (ht.tr hy)))), fun hc => absurd (by decide) hc⟩
        · have := (List.getElem?_eq_some_iff.mp hF).1
          omega
      | succ q ih =>
        intro j t hj h1j ht
        refine ⟨zr (by omega) (by omega), fun hc => by omega, fun hc => ?_⟩
        unfold wX7_there
        rw [show (j : Int) + 1 = ((j + 1 : Nat) : Int) by omega]
        have hp := hall (j + 1) (by omega) (by omega)
        refine ltop_s (H := fun _ => 15) (by omega) (by omega) hkd (Or.inl rfl) (zrg_d rfl) (zrg_d rfl) (fun s _ => Or.inl ⟨by decide, fun _ _ => rfl⟩) (hB _ (by omega)) (fun hd y hy y9 => by omega) (fun _ y F hF hD => ?_)
        rw [hD.2.1]
        exact ⟨zrg_d rfl, fun hc => absurd rfl hc, fun _ => b1e (ih (j + 1) y (by omega) (by omega) (ht.tr hD.1))⟩
    exact ⟨_, key (j0 - 1) 1 u (by omega) (Nat.le_refl _) hu⟩
  have key : ∀ (q j : Nat) (t : Hp), j + q = 12 → Same σ t → (∀ n, 1 ≤ n → n ≤ j → 1 ≤ (sols (fun _ => 15) m v2 0 n 0 L0).length) → wX6_longest_23 (fun a s => wX7_longest m v2 s (fun b t => zrg a ∧ zrg b ∧ ((a = b → K t) ∧ (¬ (a = b) → False)))) (q + 1) m v2 j ((j : Int) + 1) t := by
    intro q
    induction q with
    | zero =>
      intro j t hj ht hall
      obtain rfl : j = 12 := by omega
      exact ⟨zr (by omega) (by omega), fun _ => ref 12 t ht (by omega) (by omega) hall (Or.inl rfl), fun hc => absurd (by decide) hc⟩
    | succ q ih =>
      intro j t hj ht hall
      refine ⟨zr (by omega) (by omega), fun hc => by omega, fun _ => ?_⟩
      rw [show (j : Int) + 1 = ((j + 1 : Nat) : Int) by omega]
      refine rows_s (by omega) (by omega) ht (fun y hy => ?_)
      unfold wX4_reach
      refine begin_s hy (fun z hz => wtop_s (by omega) (by omega) hkd (Or.inl rfl) (zrg_d rfl) (fun x _ => Or.inl rfl) (hB _ (by omega)) hz (fun hd u hu _ => ⟨Or.inl rfl, b0n ?_⟩) (fun _ u F hF hD => ⟨Or.inr rfl, b1n ?_⟩))
      · have hz0 : (sols (fun _ => 15) m v2 0 (j + 1) 0 L0).length = 0 := by omega
        have hj1 : 1 ≤ j := by
          refine Classical.byContradiction (fun hc => ?_)
          obtain rfl : j = 0 := by omega
          have := sols_1 m v2 (by omega)
          have h00 : (sols (fun _ => 15) m v2 0 1 0 L0).length = 0 := hz0
          omega
        exact ref j u hu hj1 (by omega) hall (Or.inr hz0)
      · have hlt := (List.getElem?_eq_some_iff.mp hF).1
        exact ih (j + 1) u (by omega) hD.1 (fun n hn1 hn2 => by
          by_cases e : n = j + 1
          · subst e; omega
          · exact hall n hn1 (by omega))
  have st := key 12 0 σ (by decide) (Same.rf σ) (fun n hn1 hn2 => absurd hn2 (by omega))
  exact ⟨_, st⟩
