/-! among() -/
def am (g : Nat → Int) : Nat → Int × Int × Int
  | 0 => (-1, -1, 0)
  | i + 1 => if g i ≤ (am g i).1 then (if g i ≤ (am g i).2.1 then am g i else ((am g i).1, g i, (am g i).2.2)) else (g i, (am g i).1, i)
theorem am_b {g : Nat → Int} : ∀ i : Nat, (∀ j, j < i → -1 ≤ g j ∧ g j ≤ 12) → (-1 ≤ (am g i).1 ∧ (am g i).1 ≤ 12) ∧ (-1 ≤ (am g i).2.1 ∧ (am g i).2.1 ≤ 12) ∧ (0 ≤ (am g i).2.2 ∧ (am g i).2.2 ≤ i)
  | 0, _ => ⟨⟨show (-1 : Int) ≤ -1 by decide, show (-1 : Int) ≤ 12 by decide⟩, ⟨show (-1 : Int) ≤ -1 by decide, show (-1 : Int) ≤ 12 by decide⟩, ⟨show (0 : Int) ≤ 0 by decide, show (0 : Int) ≤ 0 by decide⟩⟩
  | i + 1, h => by
    have ih := am_b (g := g) i (fun j hj => h j (by omega))
    have hi := h i (by omega)
    by_cases c1 : g i ≤ (am g i).1
    · by_cases c2 : g i ≤ (am g i).2.1
      · rw [show am g (i + 1) = am g i from (if_pos c1).trans (if_pos c2)]
        omega
      · rw [show am g (i + 1) = ((am g i).1, g i, (am g i).2.2) from (if_pos c1).trans (if_neg c2)]
        show (-1 ≤ (am g i).1 ∧ (am g i).1 ≤ 12) ∧ (-1 ≤ g i ∧ g i ≤ 12) ∧ (0 ≤ (am g i).2.2 ∧ (am g i).2.2 ≤ (i + 1 : Nat))
        omega
    · rw [show am g (i + 1) = (g i, (am g i).1, (i : Int)) from if_neg c1]
      show (-1 ≤ g i ∧ g i ≤ 12) ∧ (-1 ≤ (am g i).1 ∧ (am g i).1 ≤ 12) ∧ (0 ≤ (i : Int) ∧ (i : Int) ≤ (i + 1 : Nat))
      omega
theorem eb_b {σ : Hp} {r : Nat} (hI : Inv σ) (hr : r < 6) : -1 ≤ eb σ r ∧ eb σ r ≤ 12 := by
  have fb := em_fb hI hr
  have bb := bf_b (f := em (σ 13) (σ 14) (σ 12 2).toNat (ra σ r) (σ (29 + r) 0).toNat) (e := -1) 779 (fun j _ => fb j)
  unfold eb
  omega
theorem eb_same {σ s : Hp} (hs : Same σ s) {r : Nat} (hr : r < 6) : eb s r = eb σ r := by
  unfold eb
  rw [em_same hs hr]
theorem T_among {K : Hp → Prop} (hK : ∀ σ, Inv σ → K σ) {v1 : Int} (h1 : zrg v1) {σ : Hp} (hI : Inv σ) : wX6_among v1 σ (fun a s => wX7_among v1 s (fun b t => zrg a ∧ zrg b ∧ ((a = b → K t) ∧ (¬ (a = b) → False)))) := by
  obtain ⟨g, hgb, gs⟩ : ∃ g : Nat → Int, (∀ j, j < 6 → -1 ≤ g j ∧ g j ≤ 12) ∧ ∀ t, Same σ t → ∀ i, i < 6 → eb t i = g i := ⟨eb σ, fun j hj => eb_b hI hj, fun t ht i hi => eb_same ht hi⟩
  have ab6 := am_b (g := g) 6 (fun j hj => hgb j hj)
  have ref : ∀ (z : Int) (s : Hp), Same σ s → zrg z → 0 ≤ v1 → v1 ≤ 1 → (v1 ≠ 0 → z = (am g 6).1 - (am g 6).2.1) → (v1 = 0 → z = (am g 6).2.2) → wX7_among v1 s (fun b t => zrg z ∧ zrg b ∧ ((z = b → K t) ∧ (¬ (z = b) → False))) := fun z s hs hz a1 a2 z1 z0 => by
    refine ⟨h1, ibrn h1 (zrg_d rfl) (zrg_d rfl) (fun hc => by omega) (fun _ _ => ?_)⟩
    have key : ∀ (q i : Nat) (t : Hp), i + q = 6 → Same σ t → wX7_among_22 (fun b t => zrg z ∧ zrg b ∧ ((z = b → K t) ∧ (¬ (z = b) → False))) (q + 1) v1 (am g i).2.2 (am g i).1 (am g i).2.1 i t := by
      intro q
      induction q with
      | zero =>
        intro i t hi ht
        obtain rfl : i = 6 := by omega
        exact ⟨zr (by omega) (by omega), fun _ => ⟨h1, fun c => fin (z1 c) hz (hK _ (hI.same ht)), fun c => fin (z0 (by omega)) hz (hK _ (hI.same ht))⟩, fun hc => absurd (by decide) hc⟩
      | succ q ih =>
        intro i t hi ht
        have ab := am_b (g := g) i (fun j hj => hgb j (by omega))
        have hb := hgb i (by omega)
        refine ⟨zr (by omega) (by omega), fun hc => by omega, fun _ => ?_⟩
        refine finds_s (by omega) (by omega) (hI.same ht) rfl (fun u hu u1 u2 u3 => ?_)
        have u1' : u 17 15 = g i := by
          rw [u1, Int.toNat_natCast]
          exact gs t ht i (by omega)
        have ih := ih (i + 1) u (by omega) (ht.tr hu)
        rw [show ((i + 1 : Nat) : Int) = (i : Int) + 1 by omega] at ih
        rw [u1']
        refine ⟨zr (by omega) (by omega), zr (by omega) (by omega), fun c1 => ⟨zr (by omega) (by omega), fun c2 => ?_, fun c2 => ?_⟩, fun c1 => ?_⟩
        · rw [show am g (i + 1) = am g i from (if_pos c1).trans (if_pos c2)] at ih
          exact ih
        · rw [show am g (i + 1) = ((am g i).1, g i, (am g i).2.2) from (if_pos c1).trans (if_neg c2)] at ih
          exact ih
        · rw [show am g (i + 1) = (g i, (am g i).1, (i : Int)) from if_neg c1] at ih
          exact ih
    exact ⟨_, key 6 0 s (by decide) hs⟩
  unfold wX6_among
  refine wbrn h1 (zrg_d rfl) (zrg_d rfl) (fun hc => ⟨h1, ibrn h1 (zrg_d rfl) (zrg_d rfl) (fun _ => fin rfl (zrg_d rfl) (hK _ hI)) (fun _ _ => by omega)⟩) (fun a1 a2 => ?_)
  have key : ∀ (q i : Nat) (t : Hp), i + q = 6 → Same σ t → wX6_among_21 (fun a s => wX7_among v1 s (fun b t => zrg a ∧ zrg b ∧ ((a = b → K t) ∧ (¬ (a = b) → False)))) (q + 1) v1 (am g i).1 (am g i).2.1 (am g i).2.2 i t := by
    intro q
    induction q with
    | zero =>
      intro i t hi ht
      obtain rfl : i = 6 := by omega
      exact ⟨zr (by omega) (by omega), fun _ => ⟨h1, fun c => ref _ t ht (zr (by omega) (by omega)) a1 a2 (fun _ => rfl) (fun c2 => absurd c2 c), fun c => ref _ t ht (zr (by omega) (by omega)) a1 a2 (fun c2 => absurd c2 c) (fun _ => rfl)⟩, fun hc => absurd (by decide) hc⟩
    | succ q ih =>
      intro i t hi ht
      have ab := am_b (g := g) i (fun j hj => hgb j (by omega))
      have hb := hgb i (by omega)
      refine ⟨zr (by omega) (by omega), fun hc => by omega, fun _ => ?_⟩
      refine bestHeard_s (by omega) (by omega) (hI.same ht) (fun u hu => ?_)
      rw [Int.toNat_natCast, gs t ht i (by omega)]
      have ih := ih (i + 1) u (by omega) (ht.tr hu)
      rw [show ((i + 1 : Nat) : Int) = (i : Int) + 1 by omega] at ih
      refine ⟨zr (by omega) (by omega), zr (by omega) (by omega), fun c1 => ⟨zr (by omega) (by omega), fun c2 => ?_, fun c2 => ?_⟩, fun c1 => ?_⟩
      · rw [show am g (i + 1) = am g i from (if_pos c1).trans (if_pos c2)] at ih
        exact ih
      · rw [show am g (i + 1) = ((am g i).1, g i, (am g i).2.2) from (if_pos c1).trans (if_neg c2)] at ih
        exact ih
      · rw [show am g (i + 1) = (g i, (am g i).1, (i : Int)) from if_neg c1] at ih
        exact ih
  exact ⟨_, key 6 0 σ (by decide) (Same.rf σ)⟩
