/-! hits() -/
def hi1 (A B : Int → Int) (dx dy : Int) (x : Nat) : Int := if A x ≠ 15 ∧ B (x + dx) ≠ 15 ∧ B (x + dx) = A x + dy then 1 else 0
def hi2 (A B : Int → Int) (n m dx dy : Int) (x : Nat) : Int := if A x ≠ 15 ∧ A x < m ∧ B ((x + dx) % n) = (A x + dy) % m then 1 else 0
theorem hi1_b (A B : Int → Int) (dx dy : Int) (x : Nat) : 0 ≤ hi1 A B dx dy x ∧ hi1 A B dx dy x ≤ 1 := by unfold hi1; split <;> omega
theorem hi2_b (A B : Int → Int) (n m dx dy : Int) (x : Nat) : 0 ≤ hi2 A B n m dx dy x ∧ hi2 A B n m dx dy x ≤ 1 := by unfold hi2; split <;> omega
theorem hasMark_br {r : Nat} {x y : Int} {σ : Hp} {F T : Hp → Prop} (h : RW σ r) (hx : zrg x) (hy : zrg y) (hf : ¬ (ra σ r x ≠ 15 ∧ ra σ r x = y) → F σ) (ht : ra σ r x ≠ 15 → ra σ r x = y → T σ) : wX3_hasMark r x y σ (fun a s => zrg a ∧ ((a = 0 → F s) ∧ (¬ (a = 0) → T s))) := by
  have hb := ra_b h x
  refine ⟨hy, fun hc => b0e (hf (by omega)), fun hc => lineAt_s h.1 hx ⟨zr (by omega) (by omega), fun hd => b0e (hf (by omega)), fun hd => b1e (ht (by omega) (by omega))⟩⟩
theorem meeting_s {r0 r1 : Nat} {dx dy : Int} {σ : Hp} {k : Int → Hp → Prop} (h0 : RW σ r0) (h1 : RW σ r1) (hdx : -12 ≤ dx ∧ dx ≤ 12) (hdy : -12 ≤ dy ∧ dy ≤ 12) (hk : k (zs (hi1 (ra σ r0) (ra σ r1) dx dy) (σ (29 + r0) 0).toNat) σ) : wX6_meeting r0 r1 dx dy σ k := by
  have hn := h0.1
  have key : ∀ (q x : Nat), x + q = (σ (29 + r0) 0).toNat → wX6_meeting_6 k (q + 1) r0 r1 dx dy (zs (hi1 (ra σ r0) (ra σ r1) dx dy) x) x σ := by
    intro q
    induction q with
    | zero =>
      intro x hx
      rw [← show x = (σ (29 + r0) 0).toNat by omega] at hk
      exact ⟨zr (by omega) (by omega), zr (by omega) (by omega), fun _ => hk, fun hc => by omega⟩
    | succ q ih =>
      intro x hx
      have ih := ih (x + 1) (by omega)
      rw [show ((x + 1 : Nat) : Int) = (x : Int) + 1 by omega, show zs (hi1 (ra σ r0) (ra σ r1) dx dy) (x + 1) = zs (hi1 (ra σ r0) (ra σ r1) dx dy) x + hi1 (ra σ r0) (ra σ r1) dx dy x from rfl] at ih
      have hb := ra_b h0 x
      have no : ¬ (ra σ r0 x ≠ 15 ∧ ra σ r1 (x + dx) ≠ 15 ∧ ra σ r1 (x + dx) = ra σ r0 x + dy) → wX6_meeting_6 k (q + 1) r0 r1 dx dy (zs (hi1 (ra σ r0) (ra σ r1) dx dy) x) ((x : Int) + 1) σ := fun hc => by
        rw [show hi1 (ra σ r0) (ra σ r1) dx dy x = 0 from if_neg hc, Int.add_zero] at ih; exact ih
      refine ⟨zr (by omega) (by omega), zr (by omega) (by omega), fun hc => by omega, fun _ => mbr h0 (zr (by omega) (by omega)) (fun hc => no (fun hd => hd.1 hc)) (fun hc => lineAt_s h0.1 (zr (by omega) (by omega)) ?_)⟩
      refine hasMark_br h1 (zr (by omega) (by omega)) (zr (by omega) (by omega)) (fun hd => no (fun he => hd he.2)) (fun hd he => ?_)
      rw [show hi1 (ra σ r0) (ra σ r1) dx dy x = 1 from if_pos ⟨hc, hd, he⟩] at ih
      exact ih
  exact ⟨_, key (σ (29 + r0) 0).toNat 0 (by omega)⟩
theorem hitsOf_s {a b dx dy : Int} {σ : Hp} {k : Int → Hp → Prop} (ha0 : 0 ≤ a) (ha5 : a ≤ 5) (hb0 : 0 ≤ b) (hb5 : b ≤ 5) (h0 : MW σ a.toNat) (h1 : MW σ b.toNat) (hdx : -12 ≤ dx ∧ dx ≤ 12) (hdy : -12 ≤ dy ∧ dy ≤ 12) (hk : k (zs (hi1 (ma σ a.toNat) (ma σ b.toNat) dx dy) (σ 18 a.toNat).toNat) σ) : wX7_hitsOf a b dx dy σ k := by
  have hn := h0.1
  have key : ∀ (q x : Nat), x + q = (σ 18 a.toNat).toNat → wX7_hitsOf_6 k (q + 1) a b dx dy (zs (hi1 (ma σ a.toNat) (ma σ b.toNat) dx dy) x) x σ := by
    intro q
    induction q with
    | zero =>
      intro x hx
      rw [← show x = (σ 18 a.toNat).toNat by omega] at hk
      exact ⟨⟨ha0, by omega⟩, zr (by omega) (by omega), zr (by omega) (by omega), fun _ => hk, fun hc => by omega⟩
    | succ q ih =>
      intro x hx
      have ih := ih (x + 1) (by omega)
      rw [show ((x + 1 : Nat) : Int) = (x : Int) + 1 by omega, show zs (hi1 (ma σ a.toNat) (ma σ b.toNat) dx dy) (x + 1) = zs (hi1 (ma σ a.toNat) (ma σ b.toNat) dx dy) x + hi1 (ma σ a.toNat) (ma σ b.toNat) dx dy x from rfl] at ih
      have hb := ma_b h0 x
      have hb2 := ma_b h1 (x + dx)
      have no : ¬ (ma σ a.toNat x ≠ 15 ∧ ma σ b.toNat (x + dx) ≠ 15 ∧ ma σ b.toNat (x + dx) = ma σ a.toNat x + dy) → wX7_hitsOf_6 k (q + 1) a b dx dy (zs (hi1 (ma σ a.toNat) (ma σ b.toNat) dx dy) x + 0) ((x : Int) + 1) σ := fun hc => by
        rw [show hi1 (ma σ a.toNat) (ma σ b.toNat) dx dy x = 0 from if_neg hc] at ih; exact ih
      refine ⟨⟨ha0, by omega⟩, zr (by omega) (by omega), zr (by omega) (by omega), fun hc => by omega, fun _ => at_s ha0 ha5 h0.1 (zr (by omega) (by omega)) ⟨zr (by omega) (by omega), fun hc => no (fun hd => by omega), fun hc => ?_⟩⟩
      refine at_s hb0 hb5 h1.1 (zr (by omega) (by omega)) ⟨zr (by omega) (by omega), fun hd => no (fun he => by omega), fun hd => ?_⟩
      refine at_s hb0 hb5 h1.1 (zr (by omega) (by omega)) ⟨zr (by omega) (by omega), zr (by omega) (by omega), fun he => no (fun hf => he hf.2.2), fun he => ?_⟩
      rw [show hi1 (ma σ a.toNat) (ma σ b.toNat) dx dy x = 1 from if_pos ⟨by omega, by omega, by omega⟩] at ih
      exact ih
  exact ⟨_, key (σ 18 a.toNat).toNat 0 (by omega)⟩
theorem md_b (a : Int) {n : Int} (h : 1 ≤ n) : 0 ≤ a % n ∧ a % n < n := ⟨Int.emod_nonneg _ (by omega), Int.emod_lt_of_pos _ (by omega)⟩
theorem meetingRound_s {r0 r1 N : Nat} {dx dy : Int} {σ : Hp} {k : Int → Hp → Prop} (h0 : RW σ r0) (h1 : RW σ r1) (hN : (N : Int) ≤ σ (29 + r0) 0 ∧ (N : Int) ≤ σ (29 + r1) 0 ∧ (σ (29 + r0) 0 ≤ N ∨ σ (29 + r1) 0 ≤ N)) (hdx : -12 ≤ dx ∧ dx ≤ 12) (hdy : -12 ≤ dy ∧ dy ≤ 12) (hk : k (zs (hi2 (ra σ r0) (ra σ r1) (σ (29 + r1) 0) (σ (29 + r1) 1) dx dy) N) σ) : wX6_meetingRound r0 r1 dx dy σ k := by
  have hn := h0.1
  have hn1 := h1.1
  have hm1 := h1.2.1
  have key : ∀ (q x : Nat), x + q = N → wX6_meetingRound_6 k (q + 1) r0 r1 dx dy (zs (hi2 (ra σ r0) (ra σ r1) (σ (29 + r1) 0) (σ (29 + r1) 1) dx dy) x) x σ := by
    intro q
    induction q with
    | zero =>
      intro x hx
      obtain rfl : x = N := by omega
      exact ⟨zr (by omega) (by omega), zr (by omega) (by omega), fun _ => hk, fun hc => ⟨zr (by omega) (by omega), fun _ => hk, fun hd => by omega⟩⟩
    | succ q ih =>
      intro x hx
      have ih := ih (x + 1) (by omega)
      rw [show ((x + 1 : Nat) : Int) = (x : Int) + 1 by omega, show zs (hi2 (ra σ r0) (ra σ r1) (σ (29 + r1) 0) (σ (29 + r1) 1) dx dy) (x + 1) = zs (hi2 (ra σ r0) (ra σ r1) (σ (29 + r1) 0) (σ (29 + r1) 1) dx dy) x + hi2 (ra σ r0) (ra σ r1) (σ (29 + r1) 0) (σ (29 + r1) 1) dx dy x from rfl] at ih
      have hb := ra_b h0 x
      have no : ¬ (ra σ r0 x ≠ 15 ∧ ra σ r0 x < σ (29 + r1) 1 ∧ ra σ r1 ((x + dx) % σ (29 + r1) 0) = (ra σ r0 x + dy) % σ (29 + r1) 1) → wX6_meetingRound_6 k (q + 1) r0 r1 dx dy (zs (hi2 (ra σ r0) (ra σ r1) (σ (29 + r1) 0) (σ (29 + r1) 1) dx dy) x) ((x : Int) + 1) σ := fun hc => by
        rw [show hi2 (ra σ r0) (ra σ r1) (σ (29 + r1) 0) (σ (29 + r1) 1) dx dy x = 0 from if_neg hc, Int.add_zero] at ih; exact ih
      have m1 := md_b (x + dx) hn1.1
      have m2 := md_b (ra σ r0 x + dy) hm1.1
      refine ⟨zr (by omega) (by omega), zr (by omega) (by omega), fun hc => by omega, fun _ => ⟨zr (by omega) (by omega), fun hc => by omega, fun _ => lineAt_s h0.1 (zr (by omega) (by omega)) ⟨zr (by omega) (by omega), fun hc => no (fun hd => hd.1 hc), fun hc => ⟨zr (by omega) (by omega), fun hd => no (fun he => by omega), fun hd => ?_⟩⟩⟩⟩
      refine rest_s (zr (by omega) (by omega)) (zr (by omega) (by omega)) (by omega) ?_
      refine rest_s (zr (by omega) (by omega)) (zr (by omega) (by omega)) (by omega) ?_
      refine hasMark_br h1 (zr (by omega) (by omega)) (zr (by omega) (by omega)) (fun he => no (fun hf => he ⟨by omega, hf.2.2⟩)) (fun he hf => ?_)
      rw [show hi2 (ra σ r0) (ra σ r1) (σ (29 + r1) 0) (σ (29 + r1) 1) dx dy x = 1 from if_pos ⟨hc, by omega, hf⟩] at ih
      exact ih
  exact ⟨_, key N 0 (by omega)⟩
theorem roundOf_s {a b dx dy : Int} {N : Nat} {σ : Hp} {k : Int → Hp → Prop} (ha0 : 0 ≤ a) (ha5 : a ≤ 5) (hb0 : 0 ≤ b) (hb5 : b ≤ 5) (h0 : MW σ a.toNat) (h1 : MW σ b.toNat) (hN : (N : Int) ≤ σ 18 a.toNat ∧ (N : Int) ≤ σ 18 b.toNat ∧ (σ 18 a.toNat ≤ N ∨ σ 18 b.toNat ≤ N)) (hdx : -12 ≤ dx ∧ dx ≤ 12) (hdy : -12 ≤ dy ∧ dy ≤ 12) (hk : k (zs (hi2 (ma σ a.toNat) (ma σ b.toNat) (σ 18 b.toNat) (σ 19 b.toNat) dx dy) N) σ) : wX7_roundOf a b dx dy σ k := by
  have hn := h0.1
  have hn1 := h1.1
  have hm1 := h1.2.1
  have key : ∀ (q x : Nat), x + q = N → wX7_roundOf_6 k (q + 1) a b dx dy (zs (hi2 (ma σ a.toNat) (ma σ b.toNat) (σ 18 b.toNat) (σ 19 b.toNat) dx dy) x) x σ := by
    intro q
    induction q with
    | zero =>
      intro x hx
      obtain rfl : x = N := by omega
      exact ⟨⟨ha0, by omega⟩, zr (by omega) (by omega), zr (by omega) (by omega), fun _ => hk, fun hc => ⟨⟨hb0, by omega⟩, zr (by omega) (by omega), fun _ => hk, fun hd => by omega⟩⟩
    | succ q ih =>
      intro x hx
      have ih := ih (x + 1) (by omega)
      rw [show ((x + 1 : Nat) : Int) = (x : Int) + 1 by omega, show zs (hi2 (ma σ a.toNat) (ma σ b.toNat) (σ 18 b.toNat) (σ 19 b.toNat) dx dy) (x + 1) = zs (hi2 (ma σ a.toNat) (ma σ b.toNat) (σ 18 b.toNat) (σ 19 b.toNat) dx dy) x + hi2 (ma σ a.toNat) (ma σ b.toNat) (σ 18 b.toNat) (σ 19 b.toNat) dx dy x from rfl] at ih
      have hb := ma_b h0 x
      have no : ¬ (ma σ a.toNat x ≠ 15 ∧ ma σ a.toNat x < σ 19 b.toNat ∧ ma σ b.toNat ((x + dx) % σ 18 b.toNat) = (ma σ a.toNat x + dy) % σ 19 b.toNat) → wX7_roundOf_6 k (q + 1) a b dx dy (zs (hi2 (ma σ a.toNat) (ma σ b.toNat) (σ 18 b.toNat) (σ 19 b.toNat) dx dy) x + 0) ((x : Int) + 1) σ := fun hc => by
        rw [show hi2 (ma σ a.toNat) (ma σ b.toNat) (σ 18 b.toNat) (σ 19 b.toNat) dx dy x = 0 from if_neg hc] at ih; exact ih
      have m1 := md_b (x + dx) hn1.1
      have m2 := md_b (ma σ a.toNat x + dy) hm1.1
      refine ⟨⟨ha0, by omega⟩, zr (by omega) (by omega), zr (by omega) (by omega), fun hc => by omega, fun _ => ⟨⟨hb0, by omega⟩, zr (by omega) (by omega), fun hc => by omega, fun _ => at_s ha0 ha5 h0.1 (zr (by omega) (by omega)) ⟨zr (by omega) (by omega), zr (by omega) (by omega), by omega, zr (by omega) (by omega), zr (by omega) (by omega), fun hc => no (fun hd => by omega), fun hc => ?_⟩⟩⟩
      have e1 : Int.tmod ((x : Int) + dx + 12 * σ 18 b.toNat) (σ 18 b.toNat) = ((x : Int) + dx) % σ 18 b.toNat := by
        rw [Int.tmod_eq_emod_of_nonneg (by omega), Int.mul_comm 12, Int.add_mul_emod_self_left]
      have e2 : Int.tmod (ma σ a.toNat x + dy + 12 * σ 19 b.toNat) (σ 19 b.toNat) = (ma σ a.toNat x + dy) % σ 19 b.toNat := by
        rw [Int.tmod_eq_emod_of_nonneg (by omega), Int.mul_comm 12, Int.add_mul_emod_self_left]
      rw [e1]
      have hb2 := ma_b h1 ((x + dx) % σ 18 b.toNat)
      refine at_s hb0 hb5 h1.1 (zr (by omega) (by omega)) ?_
      rw [e2]
      refine ⟨zr (by omega) (by omega), zr (by omega) (by omega), by omega, zr (by omega) (by omega), zr (by omega) (by omega), fun hd => no (fun he => hd he.2.2), fun hd => ?_⟩
      rw [show hi2 (ma σ a.toNat) (ma σ b.toNat) (σ 18 b.toNat) (σ 19 b.toNat) dx dy x = 1 from if_pos ⟨by omega, by omega, by omega⟩] at ih
      exact ih
  exact ⟨_, key N 0 (by omega)⟩
theorem IRow.mfun {σ : Hp} {k : Nat} (h : IRow σ k) : ma σ k = ra σ k := funext (fun x => h.mra x)
theorem T_hits {K : Hp → Prop} (hK : ∀ σ, Inv σ → K σ) {v1 v2 v3 v4 v5 : Int} (h1 : zrg v1) (h2 : zrg v2) (h3 : zrg v3) (h4 : zrg v4) (h5 : zrg v5) {σ : Hp} (hI : Inv σ) : wX6_hits v1 v2 v3 v4 v5 σ (fun a s => wX7_hits v1 v2 v3 v4 v5 s (fun b t => zrg a ∧ zrg b ∧ ((a = b → K t) ∧ (¬ (a = b) → False)))) := by
  have fok : zrg (-1) ∧ zrg (-1) ∧ (((-1 : Int) = -1 → K σ) ∧ (¬ ((-1 : Int) = -1) → False)) := fin rfl (zrg_d rfl) (hK _ hI)
  have bad : v1 < 0 ∨ 5 < v1 ∨ v2 < 0 ∨ 5 < v2 ∨ v3 < -12 ∨ 12 < v3 ∨ v4 < -12 ∨ 12 < v4 → wX7_hits v1 v2 v3 v4 v5 σ (fun b t => zrg (-1) ∧ zrg b ∧ (((-1) = b → K t) ∧ (¬ ((-1) = b) → False))) := fun hb => by
    refine isRow_br h1 (fun _ => fok) (fun a1 a2 => ?_)
    refine isRow_br h2 (fun _ => fok) (fun b1 b2 => ⟨h3, ?_⟩)
    refine ibr h3 (zrg_d rfl) (zrg_d rfl) (fun _ => fok) (fun c1 c2 => ⟨h4, ?_⟩)
    exact ibrn h4 (zrg_d rfl) (zrg_d rfl) (fun _ => fok) (fun d1 d2 => by omega)
  unfold wX6_hits
  refine rowAt_br h1 (fun hc => rowAt_br h2 (fun _ => bad (by omega)) (fun _ _ => bad (by omega))) (fun a1 a2 => ?_)
  refine rowAt_br h2 (fun hc => bad (by omega)) (fun b1 b2 => ?_)
  refine isMove_br h3 (fun hc => bad (by omega)) (fun c1 c2 => ?_)
  refine isMove_brn h4 (fun hc => bad (by omega)) (fun d1 d2 => ⟨h5, ?_⟩)
  have hr1 := hI.row a1 a2
  have hr2 := hI.row b1 b2
  have hn1 := hr1.1.1
  have hn2 := hr2.1.1
  have ref : ∀ z : Int, zrg z → (v5 = 0 → z = zs (hi1 (ra σ v1.toNat) (ra σ v2.toNat) v3 v4) (σ (29 + v1.toNat) 0).toNat) → (∀ N : Nat, (N : Int) ≤ σ (29 + v1.toNat) 0 ∧ (N : Int) ≤ σ (29 + v2.toNat) 0 ∧ (σ (29 + v1.toNat) 0 ≤ N ∨ σ (29 + v2.toNat) 0 ≤ N) → v5 ≠ 0 → z = zs (hi2 (ra σ v1.toNat) (ra σ v2.toNat) (σ (29 + v2.toNat) 0) (σ (29 + v2.toNat) 1) v3 v4) N) → wX7_hits v1 v2 v3 v4 v5 σ (fun b t => zrg z ∧ zrg b ∧ ((z = b → K t) ∧ (¬ (z = b) → False))) := fun z hz e1 e2 => by
    refine isRow_br h1 (fun hc => by omega) (fun _ _ => ?_)
    refine isRow_br h2 (fun hc => by omega) (fun _ _ => ⟨h3, ?_⟩)
    refine ibr h3 (zrg_d rfl) (zrg_d rfl) (fun hc => by omega) (fun _ _ => ⟨h4, ?_⟩)
    refine ibrn h4 (zrg_d rfl) (zrg_d rfl) (fun hc => by omega) (fun _ _ => ⟨h5, fun hv => ?_, fun hv => ?_⟩)
    · refine hitsOf_s a1 a2 b1 b2 hr1.mw hr2.mw ⟨c1, c2⟩ ⟨d1, d2⟩ ?_
      rw [hr1.mfun, hr2.mfun, hr1.2.1]
      exact fin (e1 hv) hz (hK _ hI)
    · obtain ⟨N, hN⟩ : ∃ N : Nat, (N : Int) ≤ σ (29 + v1.toNat) 0 ∧ (N : Int) ≤ σ (29 + v2.toNat) 0 ∧ (σ (29 + v1.toNat) 0 ≤ N ∨ σ (29 + v2.toNat) 0 ≤ N) := by
        by_cases hc : σ (29 + v1.toNat) 0 ≤ σ (29 + v2.toNat) 0
        · exact ⟨(σ (29 + v1.toNat) 0).toNat, by omega⟩
        · exact ⟨(σ (29 + v2.toNat) 0).toNat, by omega⟩
      refine roundOf_s (N := N) a1 a2 b1 b2 hr1.mw hr2.mw (by rw [hr1.2.1, hr2.2.1]; exact hN) ⟨c1, c2⟩ ⟨d1, d2⟩ ?_
      rw [hr1.mfun, hr2.mfun, hr2.2.1, hr2.2.2.1]
      exact fin (e2 N hN hv) hz (hK _ hI)
  refine ⟨fun hv => ?_, fun hv => ?_⟩
  · refine meeting_s hr1.1 hr2.1 ⟨c1, c2⟩ ⟨d1, d2⟩ ?_
    have zb := zs_b (f := hi1 (ra σ v1.toNat) (ra σ v2.toNat) v3 v4) (c := 1) (by decide) (σ (29 + v1.toNat) 0).toNat (fun i _ => hi1_b _ _ _ _ i)
    exact ref _ (zr (by omega) (by omega)) (fun _ => rfl) (fun N _ hc => absurd hv hc)
  · obtain ⟨N, hN⟩ : ∃ N : Nat, (N : Int) ≤ σ (29 + v1.toNat) 0 ∧ (N : Int) ≤ σ (29 + v2.toNat) 0 ∧ (σ (29 + v1.toNat) 0 ≤ N ∨ σ (29 + v2.toNat) 0 ≤ N) := by
      by_cases hc : σ (29 + v1.toNat) 0 ≤ σ (29 + v2.toNat) 0
      · exact ⟨(σ (29 + v1.toNat) 0).toNat, by omega⟩
      · exact ⟨(σ (29 + v2.toNat) 0).toNat, by omega⟩
    refine meetingRound_s (N := N) hr1.1 hr2.1 hN ⟨c1, c2⟩ ⟨d1, d2⟩ ?_
    have zb := zs_b (f := hi2 (ra σ v1.toNat) (ra σ v2.toNat) (σ (29 + v2.toNat) 0) (σ (29 + v2.toNat) 1) v3 v4) (c := 1) (by decide) N (fun i _ => hi2_b _ _ _ _ _ _ i)
    refine ref _ (zr (by omega) (by omega)) (fun hc => absurd hc hv) (fun N2 hN2 _ => ?_)
    rw [show N = N2 by omega]
