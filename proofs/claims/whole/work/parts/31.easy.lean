/-! the calls one by one: class, then reference, on one σ -/
theorem T_wipe {K : Hp → Prop} (hK : ∀ σ, Inv σ → K σ) {σ : Hp} (hI : Inv σ) : wX6_wipe σ (fun a s => wX7_wipe s (fun b t => zrg a ∧ zrg b ∧ ((a = b → K t) ∧ (¬ (a = b) → False)))) := by
  obtain ⟨hR, ⟨h1, h2, h3⟩, hE⟩ := hI
  show zrg (σ 2 1) ∧ _
  refine fin ?_ (zr (by omega) (by omega)) (hK _ ?_)
  · rw [zst_n (Or.inl (by decide))]; exact h2.symm
  · have e2 : (zst (zst σ 2 1 0) 17 3 0) 2 1 = 0 := by rw [zst_n (Or.inl (by decide)), zst_s]
    have e : ∀ p j, keep p j → ¬ (p = 2 ∧ j = 1) → ¬ (p = 17 ∧ j = 3) → (zst (zst σ 2 1 0) 17 3 0) p j = σ p j := fun p j _ q1 q2 => by
      rw [zst_n (by omega), zst_n (by omega)]
    refine ⟨fun k hk => (hR k hk).same hk (fun p j hp => ?_), ⟨by rw [e2]; omega, by rw [e2, zst_s], fun i hi => ?_⟩, ?_⟩
    · rw [zst_n (by omega), zst_n (by omega)]
    · rw [e2] at hi; omega
    · obtain ⟨g1, g2, g3, g4⟩ := hE
      have a1 : ∀ p j, p ≠ 2 → p ≠ 17 → (zst (zst σ 2 1 0) 17 3 0) p j = σ p j := fun p j q1 q2 => by rw [zst_n (Or.inl q2), zst_n (Or.inl q1)]
      have a2 : (zst (zst σ 2 1 0) 17 3 0) 17 5 = σ 17 5 := by rw [zst_n (Or.inr (by decide)), zst_n (Or.inl (by decide))]
      refine ⟨by rw [a1 12 2 (by decide) (by decide)]; exact g1, by rw [a2, a1 12 2 (by decide) (by decide)]; exact g2, fun i hi => ?_, fun i j hi hj => ?_⟩
      · rw [a1 12 2 (by decide) (by decide)] at hi
        rw [a1 13 i (by decide) (by decide), a1 14 i (by decide) (by decide), a1 22 i (by decide) (by decide), a1 23 i (by decide) (by decide)]
        exact g3 i hi
      · rw [a1 12 2 (by decide) (by decide)] at hi hj
        rw [a1 13 i (by decide) (by decide), a1 14 i (by decide) (by decide), a1 13 j (by decide) (by decide), a1 14 j (by decide) (by decide)]
        exact g4 i j hi hj
theorem T_still {K : Hp → Prop} (hK : ∀ σ, Inv σ → K σ) {σ : Hp} (hI : Inv σ) : wX6_still σ (fun a s => wX7_still s (fun b t => zrg a ∧ zrg b ∧ ((a = b → K t) ∧ (¬ (a = b) → False)))) := by
  obtain ⟨hR, hT, ⟨g1, g2, g3, g4⟩⟩ := hI
  show zrg (σ 12 2) ∧ _
  refine fin ?_ (zr (by omega) (by omega)) (hK _ ?_)
  · rw [zst_n (Or.inl (by decide))]; exact g2.symm
  · have e2 : (zst (zst σ 12 2 0) 17 5 0) 12 2 = 0 := by rw [zst_n (Or.inl (by decide)), zst_s]
    refine ⟨fun k hk => (hR k hk).same hk (fun p j hp => ?_), ?_, ⟨by rw [e2]; omega, by rw [e2, zst_s], fun i hi => ?_, fun i j hi => ?_⟩⟩
    · rw [zst_n (by omega), zst_n (by omega)]
    · obtain ⟨h1, h2, h3⟩ := hT
      have a1 : ∀ p j, p ≠ 12 → p ≠ 17 → (zst (zst σ 12 2 0) 17 5 0) p j = σ p j := fun p j q1 q2 => by rw [zst_n (Or.inl q2), zst_n (Or.inl q1)]
      have a2 : (zst (zst σ 12 2 0) 17 5 0) 17 3 = σ 17 3 := by rw [zst_n (Or.inr (by decide)), zst_n (Or.inl (by decide))]
      refine ⟨by rw [a1 2 1 (by decide) (by decide)]; exact h1, by rw [a2, a1 2 1 (by decide) (by decide)]; exact h2, fun i hi => ?_⟩
      rw [a1 2 1 (by decide) (by decide)] at hi
      rw [a1 3 i (by decide) (by decide), a1 21 i (by decide) (by decide)]
      exact h3 i hi
    · rw [e2] at hi; omega
    · rw [e2] at hi; omega
theorem T_told {K : Hp → Prop} (hK : ∀ σ, Inv σ → K σ) {v1 v2 : Int} (h1 : zrg v1) (h2 : zrg v2) {σ : Hp} (hI : Inv σ) : wX6_told v1 v2 σ (fun a s => wX7_told v1 v2 s (fun b t => zrg a ∧ zrg b ∧ ((a = b → K t) ∧ (¬ (a = b) → False)))) := by
  have bad : v1 < 0 ∨ 5 < v1 ∨ v2 < 0 ∨ 13 < v2 → wX7_told v1 v2 σ (fun b t => zrg (-1) ∧ zrg b ∧ (((-1) = b → K t) ∧ (¬ ((-1) = b) → False))) := fun hb => by
    refine isRow_br h1 (fun _ => fin rfl (zrg_d rfl) (hK _ hI)) (fun a1 a2 => ⟨h2, ?_⟩)
    refine ibrn h2 (zrg_d rfl) (zrg_d rfl) (fun _ => fin rfl (zrg_d rfl) (hK _ hI)) (fun b1 b2 => by omega)
  unfold wX6_told
  refine rowAt_br h1 (fun h => bad (by omega)) (fun a1 a2 => ?_)
  refine wbrn h2 (zrg_d rfl) (zrg_d rfl) (fun h => bad (by omega)) (fun b1 b2 => ⟨h2, ?_⟩)
  have hr := hI.row a1 a2
  have hw := hr.1
  have hm := hr.mw
  have e18 := hr.2.1
  have e19 := hr.2.2.1
  have ref : ∀ (z : Int), zrg z → (v2 = 0 → z = σ (29 + v1.toNat) 0) → (v2 = 1 → z = σ (29 + v1.toNat) 1) → (v2 ≠ 0 → v2 ≠ 1 → z = if ra σ v1.toNat (v2 - 2) = 15 then -4 else ra σ v1.toNat (v2 - 2)) → wX7_told v1 v2 σ (fun b t => zrg z ∧ zrg b ∧ ((z = b → K t) ∧ (¬ (z = b) → False))) := fun z hz c0 c1 c2 => by
    refine isRow_br h1 (fun _ => by omega) (fun _ _ => ⟨h2, ?_⟩)
    refine ibrn h2 (zrg_d rfl) (zrg_d rfl) (fun h => by omega) (fun _ _ => ?_)
    refine at_s a1 a2 hm.1 (zr (by omega) (by omega)) ⟨fun n0 => ⟨fun n1 => ?_, fun n1 => ⟨⟨a1, by omega⟩, ?_⟩⟩, fun n0 => ⟨⟨a1, by omega⟩, ?_⟩⟩
    · have hb := ma_b hm (v2 - 2)
      have e := c2 n0 n1
      rw [← hr.mra] at e
      refine ⟨zr (by omega) (by omega), fun q => ?_, fun q => ?_⟩
      · exact fin (by rw [e, if_neg q]) hz (hK _ hI)
      · exact fin (by rw [e, if_pos (by omega)]) hz (hK _ hI)
    · exact fin ((c1 (by omega)).trans e19.symm) hz (hK _ hI)
    · exact fin ((c0 (by omega)).trans e18.symm) hz (hK _ hI)
  refine ⟨fun n0 => ⟨fun n1 => ?_, fun n1 => ?_⟩, fun n0 => ?_⟩
  · refine mbr hw (zr (by omega) (by omega)) (fun e => ?_) (fun e => ?_)
    · exact ref (-4) (zrg_d rfl) (fun h => absurd h n0) (fun h => absurd h n1) (fun _ _ => by rw [if_pos e])
    · refine lineAt_s hw.1 (zr (by omega) (by omega)) ?_
      have hb := ra_b hw (v2 - 2)
      exact ref _ (zr (by omega) (by omega)) (fun h => absurd h n0) (fun h => absurd h n1) (fun _ _ => by rw [if_neg e])
  · have := hw.2.1
    exact ref _ (zr (by omega) (by omega)) (fun h => absurd h n0) (fun _ => rfl) (fun _ h => absurd h (by omega))
  · have := hw.1
    exact ref _ (zr (by omega) (by omega)) (fun _ => rfl) (fun h => by omega) (fun h _ => absurd h (by omega))
theorem step_s {r : Nat} {x y kind : Int} {σ : Hp} {k : Int → Hp → Prop} (h : RW σ r) (hx : zrg x) (hy : zrg y) (hkd : kind = 0 ∨ kind = 1) (hk : k (if kind = 0 then ra σ r y - ra σ r x else (ra σ r y - ra σ r x) % σ (29 + r) 1) σ) : wX3_step r x y kind σ k := by
  unfold wX3_step
  have b1 := ra_b h x
  have b2 := ra_b h y
  have h3 := h.2.1
  refine lineAt_s h.1 hy (lineAt_s h.1 hx ⟨zr (by omega) (by omega), fun n => ?_, fun n => ?_⟩)
  · rw [if_neg n] at hk
    exact rest_s (zr (by omega) (by omega)) (zr (by omega) (by omega)) (by omega) hk
  · rw [if_pos (by omega)] at hk
    exact hk
theorem off_s {v x y kind : Int} {σ : Hp} {k : Int → Hp → Prop} (h0 : 0 ≤ v) (h5 : v ≤ 5) (h : MW σ v.toNat) (hx : zrg x) (hy : zrg y) (hkd : kind = 0 ∨ kind = 1) (hv1 : ma σ v.toNat x ≠ 15) (hv2 : ma σ v.toNat y ≠ 15) (hk : k (if kind = 0 then ma σ v.toNat y - ma σ v.toNat x else (ma σ v.toNat y - ma σ v.toNat x) % σ 19 v.toNat) σ) : wX7_off v x y kind σ k := by
  unfold wX7_off
  have b1 := ma_v h x
  have b2 := ma_v h y
  have h3 := h.2.1
  refine at_s h0 h5 h.1 hy (at_s h0 h5 h.1 hx ⟨zr (by omega) (by omega), fun n => ?_, fun n => ⟨⟨h0, by omega⟩, zr (by omega) (by omega), zr (by omega) (by omega), by omega, ?_⟩⟩)
  · rw [if_pos (by omega)] at hk
    exact hk
  · rw [if_neg (by omega)] at hk
    rw [Int.tmod_eq_emod_of_nonneg (by omega), Int.add_emod_right]
    exact hk
theorem are_br {v x y : Int} {σ : Hp} {F T : Hp → Prop} (h0 : 0 ≤ v) (h5 : v ≤ 5) (h : MW σ v.toNat) (hx : zrg x) (hy : zrg y) (hf : ma σ v.toNat x = 15 ∨ ma σ v.toNat y = 15 → F σ) (ht : ma σ v.toNat x ≠ 15 → ma σ v.toNat y ≠ 15 → T σ) : wX7_are v x y σ (fun a s => zrg a ∧ ((a = 0 → F s) ∧ (¬ (a = 0) → T s))) := by
  unfold wX7_are
  have b1 := ma_b h x
  have b2 := ma_b h y
  refine at_s h0 h5 h.1 hx ⟨zr (by omega) (by omega), fun e => b0e (hf (Or.inl (by omega))), fun e => ?_⟩
  exact at_s h0 h5 h.1 hy ⟨zr (by omega) (by omega), fun e2 => b0e (hf (Or.inr (by omega))), fun e2 => b1e (ht (by omega) (by omega))⟩
theorem T_difference {K : Hp → Prop} (hK : ∀ σ, Inv σ → K σ) {v1 v2 v3 v4 : Int} (h1 : zrg v1) (h2 : zrg v2) (h3 : zrg v3) (h4 : zrg v4) {σ : Hp} (hI : Inv σ) : wX6_difference v1 v2 v3 v4 σ (fun a s => wX7_difference v1 v2 v3 v4 s (fun b t => zrg a ∧ zrg b ∧ ((a = b → K t) ∧ (¬ (a = b) → False)))) := by
  have bad : v1 < 0 ∨ 5 < v1 ∨ v2 < 0 ∨ 11 < v2 ∨ v3 < 1 ∨ 11 < v3 ∨ ¬ (v4 = 0 ∨ v4 = 1) → wX7_difference v1 v2 v3 v4 σ (fun b t => zrg (-100) ∧ zrg b ∧ (((-100) = b → K t) ∧ (¬ ((-100) = b) → False))) := fun hb => by
    refine isRow_br h1 (fun _ => fin rfl (zrg_d rfl) (hK _ hI)) (fun a1 a2 => ⟨h2, ?_⟩)
    refine ibr h2 (zrg_d rfl) (zrg_d rfl) (fun _ => fin rfl (zrg_d rfl) (hK _ hI)) (fun b1 b2 => ⟨h3, ?_⟩)
    refine ibr h3 (zrg_d rfl) (zrg_d rfl) (fun _ => fin rfl (zrg_d rfl) (hK _ hI)) (fun c1 c2 => ⟨h4, ?_⟩)
    exact ibrn h4 (zrg_d rfl) (zrg_d rfl) (fun _ => fin rfl (zrg_d rfl) (hK _ hI)) (fun d1 d2 => by omega)
  unfold wX6_difference
  refine rowAt_br h1 (fun h => bad (by omega)) (fun a1 a2 => ?_)
  refine wbr h2 (zrg_d rfl) (zrg_d rfl) (fun h => bad (by omega)) (fun b1 b2 => ?_)
  refine wbr h3 (zrg_d rfl) (zrg_d rfl) (fun h => bad (by omega)) (fun c1 c2 => ?_)
  refine isKind_br h4 (fun h => bad (by omega)) (fun d => ?_)
  have hr := hI.row a1 a2
  have hw := hr.1
  have hm := hr.mw
  have ref : ∀ z : Int, zrg z → z = (if ra σ v1.toNat v2 = 15 ∨ ra σ v1.toNat (v2 + v3) = 15 then -50 else if v4 = 0 then ra σ v1.toNat (v2 + v3) - ra σ v1.toNat v2 else (ra σ v1.toNat (v2 + v3) - ra σ v1.toNat v2) % σ (29 + v1.toNat) 1) → wX7_difference v1 v2 v3 v4 σ (fun b t => zrg z ∧ zrg b ∧ ((z = b → K t) ∧ (¬ (z = b) → False))) := fun z hz e => by
    refine isRow_br h1 (fun _ => by omega) (fun _ _ => ⟨h2, ?_⟩)
    refine ibr h2 (zrg_d rfl) (zrg_d rfl) (fun _ => by omega) (fun b1 b2 => ⟨h3, ?_⟩)
    refine ibr h3 (zrg_d rfl) (zrg_d rfl) (fun _ => by omega) (fun c1 c2 => ⟨h4, ?_⟩)
    refine ibrn h4 (zrg_d rfl) (zrg_d rfl) (fun _ => by omega) (fun d1 d2 => ?_)
    rw [← hr.mra, ← hr.mra, ← hr.2.2.1] at e
    refine are_br a1 a2 hm h2 (zr (by omega) (by omega)) (fun q => ?_) (fun q1 q2 => ?_)
    · exact fin (by rw [e, if_pos q]) hz (hK _ hI)
    · refine off_s a1 a2 hm h2 (zr (by omega) (by omega)) d q1 q2 ?_
      exact fin (by rw [e]; simp [q1, q2]) hz (hK _ hI)
  refine mbr hw h2 (fun e => ?_) (fun e => ?_)
  · exact ref _ (zrg_d rfl) (by rw [if_pos (Or.inl e)])
  · refine mbr hw (zr (by omega) (by omega)) (fun e2 => ?_) (fun e2 => ?_)
    · exact ref _ (zrg_d rfl) (by rw [if_pos (Or.inr e2)])
    · refine step_s hw h2 (zr (by omega) (by omega)) d ?_
      refine ref _ ?_ (by simp [e, e2])
      have b1 := ra_b hw v2
      have b2 := ra_b hw (v2 + v3)
      have b3 := hw.2.1
      have b4 := Int.emod_nonneg (ra σ v1.toNat (v2 + v3) - ra σ v1.toNat v2) (show σ (29 + v1.toNat) 1 ≠ 0 by omega)
      have b5 := Int.emod_lt_of_pos (ra σ v1.toNat (v2 + v3) - ra σ v1.toNat v2) (show 0 < σ (29 + v1.toNat) 1 by omega)
      split
      · exact zr (by omega) (by omega)
      · exact zr (by omega) (by omega)
