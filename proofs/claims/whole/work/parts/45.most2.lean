/-! most(): the reference, and both -/
def Mc (f : Nat → Int) (e v5 v6 : Int) (i : Nat) : Prop := i = 0 ∨ (v5 = (bf f e i).2 / 25 - 12 ∧ v6 = (bf f e i).2 % 25 - 12)
theorem rm_in {v1 v2 v3 e : Int} {X : Nat} {σ : Hp} {k : Int → Hp → Prop} {f : Nat → Int} {K45 : Int → Int → Int → Int → Int → Int → Int → Int → Hp → Prop} (h0 : 0 ≤ v1) (h5 : v1 ≤ 5) (g0 : 0 ≤ v2) (g5 : v2 ≤ 5) (hr : IRow σ v1.toNat) (gr : IRow σ v2.toNat) (hf : ∀ p, f p = hm (ra σ v1.toNat) (ra σ v2.toNat) (σ (29 + v1.toNat) 0) p) (he : (v1 ≠ v2 ∧ e = -1) ∨ (v1 = v2 ∧ e = 312)) (hX : X < 25) (hK : ∀ v5 v6, Mc f e v5 v6 (25 * X + 25) → K45 v1 v2 v3 (bf f e (25 * X + 25)).1 v5 v6 (zs (sq f e) (25 * X + 25)) ((X : Int) - 12 + 1) σ) : ∀ (q d : Nat) (v5 v6 : Int), d + q = 25 → Mc f e v5 v6 (25 * X + d) → wX7_most_56 k K45 (q + 1) v1 v2 v3 (bf f e (25 * X + d)).1 v5 v6 (zs (sq f e) (25 * X + d)) ((X : Int) - 12) ((d : Int) - 12) σ := by
  have hnb := hr.1.1
  have hfb : ∀ p, 0 ≤ f p ∧ f p ≤ 12 := fun p => by rw [hf]; exact hm_b hnb.2 p
  intro q
  induction q with
  | zero =>
    intro d v5 v6 hd hM
    obtain rfl : d = 25 := by omega
    exact ⟨zr (by omega) (by omega), fun _ => hK v5 v6 hM, fun hc => absurd (by decide) hc⟩
  | succ q ih =>
    intro d v5 v6 hd hM
    have bb := bf_b (f := f) (e := e) (25 * X + d) (fun j _ => hfb j)
    have fb := hfb (25 * X + d)
    have ih := fun v5 v6 => ih (d + 1) v5 v6 (by omega)
    rw [show (((d + 1 : Nat)) : Int) - 12 = (d : Int) - 12 + 1 by omega, show 25 * X + (d + 1) = 25 * X + d + 1 by omega] at ih
    have hh : hm (ra σ v1.toNat) (ra σ v2.toNat) (σ (29 + v1.toNat) 0) (25 * X + d) = zs (hi1 (ra σ v1.toNat) (ra σ v2.toNat) ((X : Int) - 12) ((d : Int) - 12)) (σ (29 + v1.toNat) 0).toNat := by
      unfold hm
      rw [show ((25 * X + d : Nat) : Int) / 25 = X by omega, show ((25 * X + d : Nat) : Int) % 25 = d by omega]
    have go : ((25 * X + d : Nat) : Int) ≠ e → wX7_most_82 k (fun v1 v2 v3 v4 v5 v6 v7 v8 v9 t0 σ => wX7_most_92 k (fun v1 v2 v3 v4 v5 v6 v7 v8 v9 σ => wX7_most_56 k K45 (q + 1) v1 v2 v3 v4 v5 v6 v7 v8 v9 σ) v1 v2 v3 v4 v5 v6 v7 v8 v9 t0 σ) v1 v2 v3 (bf f e (25 * X + d)).1 v5 v6 (zs (sq f e) (25 * X + d)) ((X : Int) - 12) ((d : Int) - 12) σ := fun hne => by
      unfold wX7_most_82
      refine hitsOf_s h0 h5 g0 g5 hr.mw gr.mw (by omega) (by omega) ?_
      rw [hr.mfun, gr.mfun, hr.2.1, ← hh, ← hf]
      have es : zs (sq f e) (25 * X + d + 1) = zs (sq f e) (25 * X + d) + f (25 * X + d) * f (25 * X + d) := by
        rw [show zs (sq f e) (25 * X + d + 1) = zs (sq f e) (25 * X + d) + sq f e (25 * X + d) from rfl, show sq f e (25 * X + d) = f (25 * X + d) * f (25 * X + d) from if_neg hne]
      refine ⟨zr (by omega) (by omega), fun _ => ⟨zr (by omega) (by omega), zr (by omega) (by omega), fun hc => ?_, fun hc => ?_⟩, fun hc => absurd fb.1 hc⟩
      · have eb : bf f e (25 * X + d + 1) = bf f e (25 * X + d) := (if_neg hne).trans (if_pos hc)
        rw [es, eb] at ih
        refine ih v5 v6 (Or.inr ?_)
        rw [eb]
        rcases hM with hM | hM
        · rw [hM] at hc
          have : (bf f e 0).1 = -1 := rfl
          have := hfb 0
          omega
        · exact hM
      · have eb : bf f e (25 * X + d + 1) = (f (25 * X + d), ((25 * X + d : Nat) : Int)) := (if_neg hne).trans (if_neg hc)
        rw [es, eb] at ih
        refine ih _ _ (Or.inr ?_)
        rw [eb]
        show (X : Int) - 12 = ((25 * X + d : Nat) : Int) / 25 - 12 ∧ (d : Int) - 12 = ((25 * X + d : Nat) : Int) % 25 - 12
        omega
    refine ⟨zr (by omega) (by omega), fun hc => by omega, fun _ => ⟨zr (by omega) (by omega), zr (by omega) (by omega), fun hc => go (by omega), fun hc => ⟨zr (by omega) (by omega), fun hc2 => go (by omega), fun hc2 => ⟨fun hc3 => go (by omega), fun hc3 => ?_⟩⟩⟩⟩
    have hie : ((25 * X + d : Nat) : Int) = e := by omega
    have eb : bf f e (25 * X + d + 1) = bf f e (25 * X + d) := if_pos hie
    have es : zs (sq f e) (25 * X + d + 1) = zs (sq f e) (25 * X + d) + 0 := by
      rw [show zs (sq f e) (25 * X + d + 1) = zs (sq f e) (25 * X + d) + sq f e (25 * X + d) from rfl, show sq f e (25 * X + d) = 0 from if_pos hie]
    rw [es, eb] at ih
    refine ⟨zrg_d rfl, fun hc4 => absurd hc4 (by decide), fun _ => ⟨zrg_d rfl, zr (by omega) (by omega), fun _ => ih v5 v6 (Or.inr ?_), fun hc4 => absurd bb.1 hc4⟩⟩
    rw [eb]
    rcases hM with hM | hM
    · omega
    · exact hM
theorem most_r {v1 v2 v3 e : Int} {σ : Hp} {k : Int → Hp → Prop} {f : Nat → Int} (h0 : 0 ≤ v1) (h5 : v1 ≤ 5) (g0 : 0 ≤ v2) (g5 : v2 ≤ 5) (hr : IRow σ v1.toNat) (gr : IRow σ v2.toNat) (hf : ∀ p, f p = hm (ra σ v1.toNat) (ra σ v2.toNat) (σ (29 + v1.toNat) 0) p) (he : (v1 ≠ v2 ∧ e = -1) ∨ (v1 = v2 ∧ e = 312)) (hv3 : 0 ≤ v3 ∧ v3 ≤ 3) (k0 : v3 = 0 → k (bf f e 625).1 σ) (k1 : v3 = 1 → k ((bf f e 625).2 / 25 - 12) σ) (k2 : v3 = 2 → k ((bf f e 625).2 % 25 - 12) σ) (k3 : v3 = 3 → k (zs (sq f e) 625) σ) : ∃ N, wX7_most_45 k N v1 v2 v3 (-1) 0 0 0 (-12) σ := by
  have key : ∀ (q X : Nat) (v5 v6 : Int), X + q = 25 → Mc f e v5 v6 (25 * X) → wX7_most_45 k (q + 1) v1 v2 v3 (bf f e (25 * X)).1 v5 v6 (zs (sq f e) (25 * X)) ((X : Int) - 12) σ := by
    intro q
    induction q with
    | zero =>
      intro X v5 v6 hX hM
      obtain rfl : X = 25 := by omega
      refine ⟨zr (by omega) (by omega), fun _ => ⟨zr (by omega) (by omega), fun c0 => ⟨fun c1 => ⟨fun c2 => k3 (by omega), fun c2 => ?_⟩, fun c1 => ?_⟩, fun c0 => k0 (by omega)⟩, fun hc => absurd (by decide) hc⟩
      · rcases hM with hM | hM
        · exact absurd hM (by decide)
        · rw [hM.2]; exact k2 (by omega)
      · rcases hM with hM | hM
        · exact absurd hM (by decide)
        · rw [hM.1]; exact k1 (by omega)
    | succ q ih =>
      intro X v5 v6 hX hM
      refine ⟨zr (by omega) (by omega), fun hc => by omega, fun _ => ⟨26, ?_⟩⟩
      exact rm_in (k := k) (X := X) h0 h5 g0 g5 hr gr hf he (by omega) (fun v5 v6 hM2 => by
        have := ih (X + 1) v5 v6 (by omega) hM2
        rw [show ((X + 1 : Nat) : Int) - 12 = (X : Int) - 12 + 1 by omega] at this
        exact this) 25 0 v5 v6 (by decide) hM
  exact ⟨_, key 25 0 0 0 (by decide) (Or.inl rfl)⟩
theorem T_most {K : Hp → Prop} (hK : ∀ σ, Inv σ → K σ) {v1 v2 v3 : Int} (h1 : zrg v1) (h2 : zrg v2) (h3 : zrg v3) {σ : Hp} (hI : Inv σ) : wX6_most v1 v2 v3 σ (fun a s => wX7_most v1 v2 v3 s (fun b t => zrg a ∧ zrg b ∧ ((a = b → K t) ∧ (¬ (a = b) → False)))) := by
  have fok : zrg (-100) ∧ zrg (-100) ∧ (((-100 : Int) = -100 → K σ) ∧ (¬ ((-100 : Int) = -100) → False)) := fin rfl (zrg_d rfl) (hK _ hI)
  have bad : v1 < 0 ∨ 5 < v1 ∨ v2 < 0 ∨ 5 < v2 ∨ v3 < 0 ∨ 3 < v3 → wX7_most v1 v2 v3 σ (fun b t => zrg (-100) ∧ zrg b ∧ (((-100) = b → K t) ∧ (¬ ((-100) = b) → False))) := fun hb => by
    refine isRow_br h1 (fun _ => fok) (fun a1 a2 => ?_)
    refine isRow_br h2 (fun _ => fok) (fun b1 b2 => ⟨h3, ?_⟩)
    exact ibrn h3 (zrg_d rfl) (zrg_d rfl) (fun _ => fok) (fun d1 d2 => by omega)
  unfold wX6_most
  refine rowAt_br h1 (fun hc => rowAt_br h2 (fun _ => bad (by omega)) (fun _ _ => bad (by omega))) (fun a1 a2 => ?_)
  refine rowAt_br h2 (fun hc => bad (by omega)) (fun b1 b2 => ?_)
  refine wbrn h3 (zrg_d rfl) (zrg_d rfl) (fun hc => bad (by omega)) (fun d1 d2 => ?_)
  have hr1 := hI.row a1 a2
  have hr2 := hI.row b1 b2
  have hnb := hr1.1.1
  have main : ∀ w e : Int, (w = 0 ∧ e = -1) ∨ (w = 1 ∧ e = 312) → (v1 ≠ v2 ∧ e = -1) ∨ (v1 = v2 ∧ e = 312) → wX6_most_54 (fun a s => wX7_most v1 v2 v3 s (fun b t => zrg a ∧ zrg b ∧ ((a = b → K t) ∧ (¬ (a = b) → False)))) v3 w v2.toNat v1.toNat σ := fun w e hw he => by
    unfold wX6_most_54
    refine lookAt_s hr1.1 hr2.1 hw (fun s hs s1 s2 s3 => ?_)
    generalize hf : hm (ra σ v1.toNat) (ra σ v2.toNat) (σ (29 + v1.toNat) 0) = f at *
    have fb : ∀ p, 0 ≤ f p ∧ f p ≤ 12 := fun p => by rw [← hf]; exact hm_b hnb.2 p
    have bb := bf_b (f := f) (e := e) 625 (fun j _ => fb j)
    have qb := zs_b (f := sq f e) (c := 144) (by decide) 625 (fun i _ => by
      unfold sq
      split
      · omega
      · have := fb i
        have h12 : f i * f i ≤ 12 * 12 := Int.mul_le_mul this.2 this.2 this.1 (by decide)
        exact ⟨Int.mul_nonneg this.1 this.1, by omega⟩)
    have hIs : Inv s := hI.same (hs.same (fun p j hk => by unfold keep at hk; unfold P45; omega))
    have e1 := fun q (h : 17 ≤ q) => hs q (by unfold P45; omega)
    have hf' : ∀ p, f p = hm (ra s v1.toNat) (ra s v2.toNat) (s (29 + v1.toNat) 0) p := fun p => by
      rw [← hf, ra_eq (e1 _ (by omega)) (e1 _ (by omega)), ra_eq (e1 _ (by omega)) (e1 _ (by omega)), e1 (29 + v1.toNat) (by omega)]
    have ref : ∀ z : Int, zrg z → (v3 = 0 → z = (bf f e 625).1) → (v3 = 1 → z = (bf f e 625).2 / 25 - 12) → (v3 = 2 → z = (bf f e 625).2 % 25 - 12) → (v3 = 3 → z = zs (sq f e) 625) → wX7_most v1 v2 v3 s (fun b t => zrg z ∧ zrg b ∧ ((z = b → K t) ∧ (¬ (z = b) → False))) := fun z hz z0 z1 z2 z3 => by
      refine isRow_br h1 (fun hc => by omega) (fun _ _ => ?_)
      refine isRow_br h2 (fun hc => by omega) (fun _ _ => ⟨h3, ?_⟩)
      refine ibrn h3 (zrg_d rfl) (zrg_d rfl) (fun hc => by omega) (fun _ _ => ?_)
      exact most_r a1 a2 b1 b2 (hIs.row a1 a2) (hIs.row b1 b2) hf' he ⟨d1, d2⟩ (fun c => fin (z0 c) hz (hK _ hIs)) (fun c => fin (z1 c) hz (hK _ hIs)) (fun c => fin (z2 c) hz (hK _ hIs)) (fun c => fin (z3 c) hz (hK _ hIs))
    have td : Int.tdiv (bf f e 625).2 25 = (bf f e 625).2 / 25 := Int.tdiv_eq_ediv_of_nonneg bb.2.2.1
    have tm : Int.tmod (bf f e 625).2 25 = (bf f e 625).2 % 25 := Int.tmod_eq_emod_of_nonneg bb.2.2.1
    refine ⟨h3, fun c => ?_, fun c => ?_, fun c => ?_, fun c => ?_⟩
    · show wX7_most v1 v2 v3 s (fun b t => zrg (s 4 3) ∧ zrg b ∧ (((s 4 3) = b → K t) ∧ (¬ ((s 4 3) = b) → False)))
      rw [s3]
      exact ref _ (zr (by omega) (by omega)) (fun _ => by omega) (fun _ => by omega) (fun _ => by omega) (fun _ => rfl)
    · show wX7_most v1 v2 v3 s (fun b t => zrg (s 4 1) ∧ zrg b ∧ (((s 4 1) = b → K t) ∧ (¬ ((s 4 1) = b) → False)))
      rw [s1]
      exact ref _ (zr (by omega) (by omega)) (fun _ => rfl) (fun _ => by omega) (fun _ => by omega) (fun _ => by omega)
    · refine ⟨by rw [s2]; exact zr (by omega) (by omega), ?_⟩
      rw [s2, td]
      exact ref _ (zr (by omega) (by omega)) (fun _ => by omega) (fun _ => rfl) (fun _ => by omega) (fun _ => by omega)
    · refine ⟨by rw [s2]; exact zr (by omega) (by omega), ?_⟩
      rw [s2, tm]
      exact ref _ (zr (by omega) (by omega)) (fun _ => by omega) (fun _ => by omega) (fun _ => rfl) (fun _ => by omega)
  exact ⟨h1, h2, fun hne => main 0 (-1) (Or.inl ⟨rfl, rfl⟩) (Or.inl ⟨hne, rfl⟩), fun hne => main 1 312 (Or.inr ⟨rfl, rfl⟩) (Or.inr ⟨Classical.not_not.mp hne, rfl⟩)⟩
