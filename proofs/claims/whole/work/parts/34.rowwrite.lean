/-! hear, write, row -/
theorem holds_t {x y : Int} {σ : Hp} {k : Int → Hp → Prop} (hE : IEcho σ) (hx : zrg x) (hy : zrg y) {j0 : Nat} (hj0 : (j0 : Int) < σ 12 2) (e1 : σ 13 j0 = x) (e2 : σ 14 j0 = y) (hk : k 1 σ) : wX0_holds x y σ k := by
  have hb := hE.1
  have key : ∀ (m i : Nat), i + m = j0 → wX0_holds_2 k (m + 1) x y i σ := by
    intro m
    induction m with
    | zero =>
      intro i hi
      obtain rfl : i = j0 := by omega
      refine ⟨zr (by omega) (by omega), zr (by omega) (by omega), fun hc => by omega, fun _ => ⟨fun hc => by omega, fun _ => ⟨⟨by omega, by omega⟩, ?_⟩⟩⟩
      rw [Int.toNat_natCast]
      exact ⟨e1 ▸ hx, hx, fun hc => absurd e1 hc, fun _ => ⟨e2 ▸ hy, hy, fun hc => absurd e2 hc, fun _ => hk⟩⟩
    | succ m ih =>
      intro i hi
      have hi2 := hE.2.2.1 i (by omega)
      have ih := ih (i + 1) (by omega)
      rw [show ((i + 1 : Nat) : Int) = (i : Int) + 1 by omega] at ih
      refine ⟨zr (by omega) (by omega), zr (by omega) (by omega), fun hc => by omega, fun _ => ⟨fun hc => by omega, fun _ => ⟨⟨by omega, by omega⟩, ?_⟩⟩⟩
      rw [Int.toNat_natCast]
      refine ⟨zr (by omega) (by omega), hx, fun _ => ih, fun _ => ⟨zr (by omega) (by omega), hy, fun _ => ih, fun _ => hk⟩⟩
  exact ⟨_, key j0 0 (by omega)⟩
theorem holds_f {x y : Int} {σ : Hp} {k : Int → Hp → Prop} (hE : IEcho σ) (hx : zrg x) (hy : zrg y) (hno : ∀ j : Nat, (j : Int) < σ 12 2 → ¬ (σ 13 j = x ∧ σ 14 j = y)) (hk : k 0 σ) : wX0_holds x y σ k := by
  have hb := hE.1
  have key : ∀ (m i : Nat), i + m = (σ 12 2).toNat → wX0_holds_2 k (m + 1) x y i σ := by
    intro m
    induction m with
    | zero =>
      intro i hi
      exact ⟨zr (by omega) (by omega), zr (by omega) (by omega), fun _ => hk, fun hc => by omega⟩
    | succ m ih =>
      intro i hi
      have hi2 := hE.2.2.1 i (by omega)
      have hn := hno i (by omega)
      have ih := ih (i + 1) (by omega)
      rw [show ((i + 1 : Nat) : Int) = (i : Int) + 1 by omega] at ih
      refine ⟨zr (by omega) (by omega), zr (by omega) (by omega), fun hc => by omega, fun _ => ⟨fun hc => by omega, fun _ => ⟨⟨by omega, by omega⟩, ?_⟩⟩⟩
      rw [Int.toNat_natCast]
      exact ⟨zr (by omega) (by omega), hx, fun _ => ih, fun h1 => ⟨zr (by omega) (by omega), hy, fun _ => ih, fun h2 => absurd ⟨by omega, by omega⟩ hn⟩⟩
  exact ⟨_, key (σ 12 2).toNat 0 (by omega)⟩
/-- the reference's heard marks -/
def MEcho (σ : Hp) : Prop := (0 ≤ σ 17 5 ∧ σ 17 5 ≤ 40) ∧ ∀ i : Nat, (i : Int) < σ 17 5 → (0 ≤ σ 22 i ∧ σ 22 i ≤ 30) ∧ (-20 ≤ σ 23 i ∧ σ 23 i ≤ 20)
theorem IEcho.m {σ : Hp} (h : IEcho σ) : MEcho σ := by
  obtain ⟨h1, h2, h3, h4⟩ := h
  refine ⟨by rw [h2]; exact h1, fun i hi => ?_⟩
  rw [h2] at hi
  have := h3 i hi
  rw [this.2.2.1, this.2.2.2]
  exact ⟨this.1, this.2.1⟩
theorem isHeard_l1 {x y : Int} {σ : Hp} {k : Int → Hp → Prop} (hE : MEcho σ) (hk : k 1 σ) : ∀ (m i : Nat), i + m = (σ 17 5).toNat → wX7_isHeard_5 k (m + 1) x y 1 i σ := by
  have hb := hE.1
  intro m
  induction m with
  | zero => intro i hi; exact ⟨zr (by omega) (by omega), zr (by omega) (by omega), fun _ => ⟨Or.inr rfl, hk⟩, fun hc => by omega⟩
  | succ m ih =>
    intro i hi
    have ih := ih (i + 1) (by omega)
    rw [show ((i + 1 : Nat) : Int) = (i : Int) + 1 by omega] at ih
    exact ⟨zr (by omega) (by omega), zr (by omega) (by omega), fun hc => by omega, fun _ => ⟨zrg_d rfl, fun _ => ih, fun hc => absurd (by decide) hc⟩⟩
theorem isHeard_t {x y : Int} {σ : Hp} {k : Int → Hp → Prop} (hE : MEcho σ) (hx : zrg x) (hy : zrg y) {j0 : Nat} (hj0 : (j0 : Int) < σ 17 5) (e1 : σ 22 j0 = x) (e2 : σ 23 j0 = y) (hk : k 1 σ) : wX7_isHeard x y σ k := by
  have hb := hE.1
  have key : ∀ (m i : Nat), i ≤ j0 → i + m = (σ 17 5).toNat → wX7_isHeard_5 k (m + 1) x y 0 i σ := by
    intro m
    induction m with
    | zero => intro i h0 hi; omega
    | succ m ih =>
      intro i h0 hi
      have hi2 := hE.2 i (by omega)
      have l1 := isHeard_l1 (x := x) (y := y) hE hk m (i + 1) (by omega)
      rw [show ((i + 1 : Nat) : Int) = (i : Int) + 1 by omega] at l1
      refine ⟨zr (by omega) (by omega), zr (by omega) (by omega), fun hc => by omega, fun _ => ⟨zrg_d rfl, fun hc => absurd rfl hc, fun _ => ⟨⟨by omega, by omega⟩, ?_⟩⟩⟩
      rw [Int.toNat_natCast]
      by_cases hij : i = j0
      · subst hij
        exact ⟨zr (by omega) (by omega), hx, fun hc => absurd e1 hc, fun _ => ⟨zr (by omega) (by omega), hy, fun hc => absurd e2 hc, fun _ => l1⟩⟩
      · have ih := ih (i + 1) (by omega) (by omega)
        rw [show ((i + 1 : Nat) : Int) = (i : Int) + 1 by omega] at ih
        exact ⟨zr (by omega) (by omega), hx, fun _ => ih, fun _ => ⟨zr (by omega) (by omega), hy, fun _ => ih, fun _ => l1⟩⟩
  exact ⟨_, key (σ 17 5).toNat 0 (by omega) (by omega)⟩
theorem isHeard_f {x y : Int} {σ : Hp} {k : Int → Hp → Prop} (hE : MEcho σ) (hx : zrg x) (hy : zrg y) (hno : ∀ j : Nat, (j : Int) < σ 17 5 → ¬ (σ 22 j = x ∧ σ 23 j = y)) (hk : k 0 σ) : wX7_isHeard x y σ k := by
  have hb := hE.1
  have key : ∀ (m i : Nat), i + m = (σ 17 5).toNat → wX7_isHeard_5 k (m + 1) x y 0 i σ := by
    intro m
    induction m with
    | zero => intro i hi; exact ⟨zr (by omega) (by omega), zr (by omega) (by omega), fun _ => ⟨Or.inl rfl, hk⟩, fun hc => by omega⟩
    | succ m ih =>
      intro i hi
      have hi2 := hE.2 i (by omega)
      have hn := hno i (by omega)
      have ih := ih (i + 1) (by omega)
      rw [show ((i + 1 : Nat) : Int) = (i : Int) + 1 by omega] at ih
      refine ⟨zr (by omega) (by omega), zr (by omega) (by omega), fun hc => by omega, fun _ => ⟨zrg_d rfl, fun hc => absurd rfl hc, fun _ => ⟨⟨by omega, by omega⟩, ?_⟩⟩⟩
      rw [Int.toNat_natCast]
      exact ⟨zr (by omega) (by omega), hx, fun _ => ih, fun h1 => ⟨zr (by omega) (by omega), hy, fun _ => ih, fun h2 => absurd ⟨by omega, by omega⟩ hn⟩⟩
  exact ⟨_, key (σ 17 5).toNat 0 (by omega)⟩
theorem T_hear {K : Hp → Prop} (hK : ∀ σ, Inv σ → K σ) {v1 v2 : Int} (h1 : zrg v1) (h2 : zrg v2) {σ : Hp} (hI : Inv σ) : wX6_hear v1 v2 σ (fun a s => wX7_hear v1 v2 s (fun b t => zrg a ∧ zrg b ∧ ((a = b → K t) ∧ (¬ (a = b) → False)))) := by
  have hE := hI.2.2
  have hM := hE.m
  have hb := hE.1
  have e5 := hE.2.1
  have bad : v1 < 0 ∨ 30 < v1 ∨ v2 < -20 ∨ 20 < v2 → wX7_hear v1 v2 σ (fun b t => zrg (-1) ∧ zrg b ∧ (((-1) = b → K t) ∧ (¬ ((-1) = b) → False))) := fun hb => by
    refine ⟨h1, ibr h1 (zrg_d rfl) (zrg_d rfl) (fun _ => fin rfl (zrg_d rfl) (hK _ hI)) (fun a1 a2 => ⟨h2, ?_⟩)⟩
    exact ibrn h2 (zrg_d rfl) (zrg_d rfl) (fun _ => fin rfl (zrg_d rfl) (hK _ hI)) (fun b1 b2 => by omega)
  unfold wX6_hear
  refine wbr h1 (zrg_d rfl) (zrg_d rfl) (fun hc => bad (by omega)) (fun a1 a2 => ?_)
  refine wbrn h2 (zrg_d rfl) (zrg_d rfl) (fun hc => bad (by omega)) (fun b1 b2 => ?_)
  have ok : ∀ (z : Int) (s : Hp), wX7_isHeard v1 v2 s (fun a12 σ11 => zrg a12 ∧ ((a12 = 0 → zrg (σ11 17 5) ∧ ((σ11 17 5 ≠ 40 → (0 ≤ σ11 17 5 ∧ σ11 17 5 < 40) ∧ (0 ≤ (zst σ11 22 (σ11 17 5).toNat v1) 17 5 ∧ (zst σ11 22 (σ11 17 5).toNat v1) 17 5 < 40) ∧ (fun b t => zrg z ∧ zrg b ∧ ((z = b → K t) ∧ (¬ (z = b) → False))) ((zst (zst (zst σ11 22 (σ11 17 5).toNat v1) 23 ((zst σ11 22 (σ11 17 5).toNat v1) 17 5).toNat v2) 17 5 (((zst (zst σ11 22 (σ11 17 5).toNat v1) 23 ((zst σ11 22 (σ11 17 5).toNat v1) 17 5).toNat v2) 17 5) + 1)) 17 5) (zst (zst (zst σ11 22 (σ11 17 5).toNat v1) 23 ((zst σ11 22 (σ11 17 5).toNat v1) 17 5).toNat v2) 17 5 (((zst (zst σ11 22 (σ11 17 5).toNat v1) 23 ((zst σ11 22 (σ11 17 5).toNat v1) 17 5).toNat v2) 17 5) + 1))) ∧ (¬ (σ11 17 5 ≠ 40) → (fun b t => zrg z ∧ zrg b ∧ ((z = b → K t) ∧ (¬ (z = b) → False))) ((-3)) σ11))) ∧ (¬ (a12 = 0) → (fun b t => zrg z ∧ zrg b ∧ ((z = b → K t) ∧ (¬ (z = b) → False))) ((-2)) σ11))) → wX7_hear v1 v2 s (fun b t => zrg z ∧ zrg b ∧ ((z = b → K t) ∧ (¬ (z = b) → False))) := fun z s hh => by
    refine ⟨h1, ibr h1 (zrg_d rfl) (zrg_d rfl) (fun hc => by omega) (fun a1 a2 => ⟨h2, ?_⟩)⟩
    exact ibrn h2 (zrg_d rfl) (zrg_d rfl) (fun hc => by omega) (fun b1 b2 => hh)
  by_cases hex : ∃ j : Nat, (j : Int) < σ 12 2 ∧ σ 13 j = v1 ∧ σ 14 j = v2
  · obtain ⟨j, hj, q1, q2⟩ := hex
    have hj2 := hE.2.2.1 j hj
    refine holds_t hE h1 h2 hj q1 q2 (b1e (ok _ _ ?_))
    exact isHeard_t hM h1 h2 (j0 := j) (by rw [e5]; exact hj) (hj2.2.2.1.trans q1) (hj2.2.2.2.trans q2) (b1e (fin rfl (zrg_d rfl) (hK _ hI)))
  · have hno : ∀ j : Nat, (j : Int) < σ 12 2 → ¬ (σ 13 j = v1 ∧ σ 14 j = v2) := fun j hj hc => hex ⟨j, hj, hc⟩
    have hno2 : ∀ j : Nat, (j : Int) < σ 17 5 → ¬ (σ 22 j = v1 ∧ σ 23 j = v2) := fun j hj hc => by
      rw [e5] at hj
      have hj2 := hE.2.2.1 j hj
      exact hno j hj ⟨hj2.2.2.1.symm.trans hc.1, hj2.2.2.2.symm.trans hc.2⟩
    refine holds_f hE h1 h2 hno (b0e ?_)
    by_cases hfull : σ 12 2 < 40
    · refine ⟨zr (by omega) (by omega), fun _ => b0e ?_, fun hc => absurd hfull hc⟩
      -- the class adds
      have hn1 : (σ 12 2).toNat < 40 := by omega
      show wX0_add v1 v2 σ _
      refine within_t (zr (by omega) (by omega)) (zrg_d rfl) (zrg_d rfl) (by omega) (by omega) (b1e ⟨⟨by omega, by omega⟩, ?_⟩)
      have z1 : zst σ 13 (σ 12 2).toNat v1 12 2 = σ 12 2 := zst_n (Or.inl (by decide))
      rw [z1]
      refine ⟨⟨by omega, by omega⟩, ?_⟩
      have z2 : zst (zst σ 13 (σ 12 2).toNat v1) 14 (σ 12 2).toNat v2 12 2 = σ 12 2 := by rw [zst_n (Or.inl (by decide)), z1]
      rw [z2]
      generalize hs : zst (zst (zst σ 13 (σ 12 2).toNat v1) 14 (σ 12 2).toNat v2) 12 2 (σ 12 2 + 1) = s
      have s12 : s 12 2 = σ 12 2 + 1 := by rw [← hs, zst_s]
      have so : ∀ p j, p ≠ 12 → p ≠ 13 → p ≠ 14 → s p j = σ p j := fun p j c1 c2 c3 => by rw [← hs, zst_n (Or.inl c1), zst_n (Or.inl c3), zst_n (Or.inl c2)]
      have s13 : ∀ j, s 13 j = if j = (σ 12 2).toNat then v1 else σ 13 j := fun j => by
        rw [← hs, zst_n (Or.inl (by decide)), zst_n (Or.inl (by decide))]
        by_cases hj : j = (σ 12 2).toNat
        · rw [if_pos hj, hj, zst_s]
        · rw [if_neg hj, zst_n (Or.inr hj)]
      have s14 : ∀ j, s 14 j = if j = (σ 12 2).toNat then v2 else σ 14 j := fun j => by
        rw [← hs, zst_n (Or.inl (by decide))]
        by_cases hj : j = (σ 12 2).toNat
        · rw [if_pos hj, hj, zst_s]
        · rw [if_neg hj, zst_n (Or.inr hj), zst_n (Or.inl (by decide))]
      show wX7_hear v1 v2 s (fun b t => zrg (s 12 2) ∧ zrg b ∧ ((s 12 2 = b → K t) ∧ (¬ (s 12 2 = b) → False)))
      rw [s12]
      refine ok _ _ ?_
      have m17 : ∀ j, s 17 j = σ 17 j := fun j => so 17 j (by decide) (by decide) (by decide)
      have m22 : ∀ j, s 22 j = σ 22 j := fun j => so 22 j (by decide) (by decide) (by decide)
      have m23 : ∀ j, s 23 j = σ 23 j := fun j => so 23 j (by decide) (by decide) (by decide)
      have hMs : MEcho s := ⟨by rw [m17]; exact hM.1, fun i hi => by rw [m17] at hi; rw [m22, m23]; exact hM.2 i hi⟩
      refine isHeard_f hMs h1 h2 (fun j hj => by rw [m17] at hj; rw [m22, m23]; exact hno2 j hj) (b0e ?_)
      rw [m17, e5]
      refine ⟨zr (by omega) (by omega), fun _ => ⟨⟨by omega, by omega⟩, ?_⟩, fun hc => by omega⟩
      have y1 : zst s 22 (σ 12 2).toNat v1 17 5 = σ 12 2 := by rw [zst_n (Or.inl (by decide)), m17, e5]
      rw [y1]
      refine ⟨⟨by omega, by omega⟩, ?_⟩
      have y2 : zst (zst s 22 (σ 12 2).toNat v1) 23 (σ 12 2).toNat v2 17 5 = σ 12 2 := by rw [zst_n (Or.inl (by decide)), y1]
      rw [y2]
      have y3 : zst (zst (zst s 22 (σ 12 2).toNat v1) 23 (σ 12 2).toNat v2) 17 5 (σ 12 2 + 1) 17 5 = σ 12 2 + 1 := zst_s _ _ _ _
      generalize ht : zst (zst (zst s 22 (σ 12 2).toNat v1) 23 (σ 12 2).toNat v2) 17 5 (σ 12 2 + 1) = t at y3 ⊢
      have to : ∀ p j, p ≠ 17 → p ≠ 22 → p ≠ 23 → t p j = s p j := fun p j c1 c2 c3 => by rw [← ht, zst_n (Or.inl c1), zst_n (Or.inl c3), zst_n (Or.inl c2)]
      have t17 : t 17 3 = σ 17 3 := by rw [← ht, zst_n (Or.inr (by decide)), zst_n (Or.inl (by decide)), zst_n (Or.inl (by decide)), m17]
      have t22 : ∀ j, t 22 j = if j = (σ 12 2).toNat then v1 else σ 22 j := fun j => by
        rw [← ht, zst_n (Or.inl (by decide)), zst_n (Or.inl (by decide))]
        by_cases hj : j = (σ 12 2).toNat
        · rw [if_pos hj, hj, zst_s]
        · rw [if_neg hj, zst_n (Or.inr hj), m22]
      have t23 : ∀ j, t 23 j = if j = (σ 12 2).toNat then v2 else σ 23 j := fun j => by
        rw [← ht, zst_n (Or.inl (by decide))]
        by_cases hj : j = (σ 12 2).toNat
        · rw [if_pos hj, hj, zst_s]
        · rw [if_neg hj, zst_n (Or.inr hj), zst_n (Or.inl (by decide)), m23]
      refine fin y3.symm (zr (by omega) (by omega)) (hK _ ⟨fun k hk => (hI.1 k hk).same hk (fun p j hp => ?_), ?_, ?_⟩)
      · rw [to p j (by omega) (by omega) (by omega), so p j (by omega) (by omega) (by omega)]
      · obtain ⟨g1, g2, g3⟩ := hI.2.1
        have e2 : t 2 1 = σ 2 1 := by rw [to 2 1 (by decide) (by decide) (by decide), so 2 1 (by decide) (by decide) (by decide)]
        refine ⟨by rw [e2]; exact g1, by rw [e2, t17]; exact g2, fun i hi => ?_⟩
        rw [e2] at hi
        rw [to 3 i (by decide) (by decide) (by decide), so 3 i (by decide) (by decide) (by decide), to 21 i (by decide) (by decide) (by decide), so 21 i (by decide) (by decide) (by decide)]
        exact g3 i hi
      · have e12 : t 12 2 = σ 12 2 + 1 := by rw [to 12 2 (by decide) (by decide) (by decide), s12]
        have a13 : ∀ j, t 13 j = if j = (σ 12 2).toNat then v1 else σ 13 j := fun j => by rw [to 13 j (by decide) (by decide) (by decide), s13]
        have a14 : ∀ j, t 14 j = if j = (σ 12 2).toNat then v2 else σ 14 j := fun j => by rw [to 14 j (by decide) (by decide) (by decide), s14]
        refine ⟨by rw [e12]; omega, by rw [e12, y3], fun i hi => ?_, fun i j hi hj => ?_⟩
        · rw [e12] at hi
          rw [a13, a14, t22, t23]
          by_cases hc : i = (σ 12 2).toNat
          · simp only [if_pos hc]
            exact ⟨⟨a1, a2⟩, ⟨b1, b2⟩, by trivial, by trivial⟩
          · simp only [if_neg hc]
            exact hE.2.2.1 i (by omega)
        · rw [e12] at hi hj
          rw [a13, a14, a13, a14]
          by_cases hc : i = (σ 12 2).toNat
          · by_cases hd : j = (σ 12 2).toNat
            · intro _ _; omega
            · simp only [if_pos hc, if_neg hd]
              intro q1 q2
              exact absurd ⟨q1.symm, q2.symm⟩ (hno j (by omega))
          · by_cases hd : j = (σ 12 2).toNat
            · simp only [if_neg hc, if_pos hd]
              intro q1 q2
              exact absurd ⟨q1, q2⟩ (hno i (by omega))
            · simp only [if_neg hc, if_neg hd]
              exact hE.2.2.2 i j (by omega) (by omega)
    · refine ⟨zr (by omega) (by omega), fun hc => absurd hc hfull, fun _ => b1e (ok _ _ ?_)⟩
      refine isHeard_f hM h1 h2 hno2 (b0e ?_)
      rw [e5]
      exact ⟨zr (by omega) (by omega), fun hc => by omega, fun _ => fin rfl (zrg_d rfl) (hK _ hI)⟩
theorem shape_s {r : Nat} {n m : Int} {σ : Hp} {k : Hp → Prop} (h1 : 1 ≤ n) (h2 : n ≤ 12) (h3 : 1 ≤ m) (h4 : m ≤ 12) (hk : k (zfill (zst (zst σ (29 + r) 0 n) (29 + r) 1 m) (36 + r) 12 15)) : wX3_shape r n m σ k := by
  unfold wX3_shape
  refine within_t (zr (by omega) (by omega)) (zrg_d rfl) (zrg_d rfl) h1 h2 (b1e ?_)
  refine within_t (zr (by omega) (by omega)) (zrg_d rfl) (zrg_d rfl) h3 h4 (b1n ?_)
  exact fill_s (by decide) hk
theorem put_s {r : Nat} {x y : Int} {σ : Hp} {k : Hp → Prop} (hn : 1 ≤ σ (29 + r) 0 ∧ σ (29 + r) 0 ≤ 12) (hm : 1 ≤ σ (29 + r) 1 ∧ σ (29 + r) 1 ≤ 12) (hx : 0 ≤ x) (hx2 : x < σ (29 + r) 0) (hy : zrg y) (hk : k (zst σ (36 + r) x.toNat (if 0 ≤ y ∧ y < σ (29 + r) 1 then y else 15))) : wX3_put r x y σ k := by
  unfold wX3_put
  refine within_t (zr (by omega) (by omega)) (zrg_d rfl) (zr (by omega) (by omega)) hx (by omega) (b1e ?_)
  refine wbr (F := fun s => wX3_put_39 k 15 x r s) (T := fun s => wX3_put_39 k y x r s) hy (zrg_d rfl) (zr (by omega) (by omega)) (fun hc => ⟨⟨hx, by omega⟩, ?_⟩) (fun c1 c2 => ⟨⟨hx, by omega⟩, ?_⟩)
  · rw [if_neg (by omega)] at hk; exact hk
  · rw [if_pos (by omega)] at hk; exact hk
