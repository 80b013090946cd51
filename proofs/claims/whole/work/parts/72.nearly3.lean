/-! nearly(): both -/
theorem near_in {σ : Hp} {n c : Nat} {q v3 v4 : Int} {k : Int → Hp → Prop} {K47 : Int → Int → Int → Int → Int → Hp → Prop} (hn : 1 ≤ n ∧ n ≤ 6) (hq : zrg q) (hc : c ≤ 50000) (hK : ∀ t, Same σ t → K47 n q (v3 + ind n q (dg n 0 L0 c n)) v4 ((c : Int) + 1) t) : ∀ (e x : Nat) (t : Hp), x + e = n → Same σ t → (∀ j, j < x → t 24 j = dg n 0 L0 c n j) → wX7_nearly_64 k K47 (e + 1) n q v3 v4 c ((c / n ^ x : Nat) : Int) (di (dg n 0 L0 c n) x) x t := by
  have hd : ∀ j, j < n → dg n 0 L0 c n j = ((c / n ^ j % n : Nat) : Int) := fun j hj => by
    unfold dg
    rw [if_pos (by omega), Nat.sub_zero]
  have hb : ∀ j, j < n → 0 ≤ dg n 0 L0 c n j ∧ dg n 0 L0 c n j < n := fun j hj => by
    rw [hd j hj]
    have := Nat.mod_lt (c / n ^ j) (show n > 0 by omega)
    omega
  intro e
  induction e with
  | zero =>
    intro x t hx ht hl
    obtain rfl : x = n := by omega
    have hK := hK t ht
    have dor := di_or (dg x 0 L0 c x) x
    have Qb := Qz_b (dg x 0 L0 c x) x
    refine ⟨zr (by omega) (by omega), zr (by omega) (by omega), fun _ => ⟨zr (by omega) (by omega), fun h0 => ?_, fun h0 => ?_⟩, fun hx => by omega⟩
    · rw [show ind x q (dg x 0 L0 c x) = 0 from if_neg (fun h => by omega)] at hK
      exact hK
    · refine laid_s hn hb hl ⟨zr (by omega) (by omega), hq, fun he => ?_, fun he => ?_⟩
      · rw [show ind x q (dg x 0 L0 c x) = 0 from if_neg (fun h => he h.2)] at hK
        exact hK
      · rw [show ind x q (dg x 0 L0 c x) = 1 from if_pos ⟨by omega, Classical.not_not.mp he⟩] at hK
        exact hK
  | succ e ih =>
    intro x t hx ht hl
    have dor := di_or (dg n 0 L0 c n) x
    have hle : c / n ^ x ≤ c := Nat.div_le_self _ _
    have zv6 : zrg ((c / n ^ x : Nat) : Int) := by
      generalize c / n ^ x = w at hle
      exact zr (by omega) (by omega)
    have e1 : Int.tdiv ((c / n ^ x : Nat) : Int) (n : Int) = ((c / n ^ (x + 1) : Nat) : Int) := by
      rw [Int.tdiv_eq_ediv_of_nonneg (Int.natCast_nonneg _), Nat.pow_succ, ← Nat.div_div_eq_div_mul]
      rfl
    have e2 : Int.tmod ((c / n ^ x : Nat) : Int) (n : Int) = dg n 0 L0 c n x := by
      rw [Int.tmod_eq_emod_of_nonneg (Int.natCast_nonneg _), hd x (by omega)]
      rfl
    have hz : ∀ j, j ≤ x → zst t 24 x (dg n 0 L0 c n x) 24 j = dg n 0 L0 c n j := fun j hj => by
      by_cases e : j = x
      · subst e; rw [zst_s]
      · rw [zst_n (Or.inr e), hl j (by omega)]
    have ih := ih (x + 1) (zst t 24 x (dg n 0 L0 c n x)) (by omega) (ht.st (by unfold keep; omega)) (fun j hj => hz j (by omega))
    rw [show ((x + 1 : Nat) : Int) = (x : Int) + 1 by omega] at ih
    refine ⟨zr (by omega) (by omega), zr (by omega) (by omega), fun hx => by omega, fun _ => ⟨zv6, by omega, ⟨by omega, by omega⟩, zr (by omega) (by omega), ?_⟩⟩
    rw [e1, e2, Int.toNat_natCast]
    refine ⟨fun h0 => ?_, fun h0 => ?_⟩
    · rw [show di (dg n 0 L0 c n) (x + 1) = 0 from if_neg (fun h => by omega)] at ih
      exact ih
    · refine isUnlike_s (by omega) (fun j hj => by
        rw [hz j hj]
        have := hb j (by omega)
        exact zr (by omega) (by omega)) (fun hall => b1e ?_) (fun hno => b0e ?_)
      · rw [show di (dg n 0 L0 c n) (x + 1) = 1 from if_pos ⟨by omega, fun j hj => by
          have := hall j hj
          rw [hz j (by omega), hz x (by omega)] at this
          exact this⟩] at ih
        exact ih
      · rw [show di (dg n 0 L0 c n) (x + 1) = 0 from if_neg (fun h => hno (fun j hj => by
          rw [hz j (by omega), hz x (by omega)]
          exact h.2 j hj))] at ih
        exact ih
theorem T_nearly {K : Hp → Prop} (hK : ∀ σ, Inv σ → K σ) {v1 v2 : Int} (h1 : zrg v1) (h2 : zrg v2) {σ : Hp} (hI : Inv σ) : wX6_nearly v1 v2 σ (fun a s => wX7_nearly v1 v2 s (fun b t => zrg a ∧ zrg b ∧ ((a = b → K t) ∧ (¬ (a = b) → False)))) := by
  have fok : zrg (-1) ∧ zrg (-1) ∧ (((-1 : Int) = -1 → K σ) ∧ (¬ ((-1 : Int) = -1) → False)) := fin rfl (zrg_d rfl) (hK _ hI)
  have bad : ¬ (1 ≤ v1 ∧ v1 ≤ 6 ∧ 0 ≤ v2) → wX7_nearly v1 v2 σ (fun b t => zrg (-1) ∧ zrg b ∧ (((-1) = b → K t) ∧ (¬ ((-1) = b) → False))) := fun hb => by
    exact ⟨h1, ibr h1 (zrg_d rfl) (zrg_d rfl) (fun _ => fok) (fun a1 a2 => ⟨h2, fun h => absurd ⟨a1, a2, h⟩ hb, fun _ => fok⟩)⟩
  unfold wX6_nearly
  refine wbr h1 (zrg_d rfl) (zrg_d rfl) (fun hc => bad (by omega)) (fun a1 a2 => ⟨h2, fun hq => ?_, fun hq => bad (by omega)⟩)
  obtain ⟨n, rfl⟩ : ∃ n : Nat, v1 = (n : Int) := ⟨v1.toNat, by omega⟩
  have hnn : n ^ n ≤ 46656 := Nat.le_trans (Nat.pow_le_pow_left (show n ≤ 6 by omega) n) (Nat.le_trans (Nat.pow_le_pow_right (by decide) (show n ≤ 6 by omega)) (by decide))
  unfold wX2_withQuarrels
  refine wbrn h1 (zrg_d rfl) (zrg_d rfl) (fun hc => by omega) (fun _ _ => ?_)
  refine countFrom_s (σ := σ) (n := n) (by omega) n 0 8 L0 _ v2 _ (by omega) (by omega) (fun j hj => absurd hj (by omega)) hq h2 ⟨(Same.rf σ).st (by unfold keep; omega), by rw [zst_s], fun j hj => absurd hj (by omega)⟩ (fun s hs => ?_)
  have hs1 : Same σ s := hs.1
  have cb := cn_b n n 0 L0 v2
  have tot : zs (fun c => ind n v2 (dg n 0 L0 c n)) (n ^ n) = cn n n 0 L0 v2 := by
    rw [code_T (f := ind n v2) (by omega) (fun L M h => ind_congr h) n 0 L0 (by omega), Tn_cn (by omega) n 0 L0 (by omega) rfl, Qz_0, Int.sub_zero]
  generalize cn n n 0 L0 v2 = Z at *
  refine ⟨h1, ibr h1 (zrg_d rfl) (zrg_d rfl) (fun _ => by omega) (fun _ _ => ⟨h2, fun _ => ?_, fun hc => absurd hq hc⟩)⟩
  have codes : ∀ (e c : Nat) (t : Hp), c + e = n ^ n → Same σ t → wX7_nearly_47 (fun b t => zrg (Z) ∧ zrg b ∧ ((Z = b → K t) ∧ (¬ (Z = b) → False))) (e + 1) n v2 (zs (fun c => ind n v2 (dg n 0 L0 c n)) c) ((n ^ n : Nat) : Int) c t := by
    intro e
    induction e with
    | zero =>
      intro c t hc ht
      obtain rfl : c = n ^ n := by omega
      refine ⟨zr (by omega) (by omega), zr (by omega) (by omega), fun _ => ?_, fun hx => by omega⟩
      exact fin tot.symm (zr (by omega) (by omega)) (hK _ (hI.same ht))
    | succ e ih =>
      intro c t hc ht
      refine ⟨zr (by omega) (by omega), zr (by omega) (by omega), fun hx => by omega, fun _ => ⟨n + 1, ?_⟩⟩
      have := near_in (σ := σ) (n := n) (c := c) (q := v2) (v3 := zs (fun c => ind n v2 (dg n 0 L0 c n)) c) (v4 := ((n ^ n : Nat) : Int)) (k := (fun b t => zrg (Z) ∧ zrg b ∧ ((Z = b → K t) ∧ (¬ (Z = b) → False)))) (K47 := fun v1 v2 v3 v4 v5 σ => wX7_nearly_47 (fun b t => zrg (Z) ∧ zrg b ∧ ((Z = b → K t) ∧ (¬ (Z = b) → False))) (e + 1) v1 v2 v3 v4 v5 σ) (by omega) h2 (by omega) (fun u hu => by
        have := ih (c + 1) u (by omega) hu
        rw [show ((c + 1 : Nat) : Int) = (c : Int) + 1 by omega] at this
        exact this) n 0 t (by omega) ht (fun j hj => absurd hj (by omega))
      rw [Nat.pow_zero, Nat.div_one] at this
      exact this
  have pows : ∀ (e x : Nat), x + e = n → wX7_nearly_26 (fun b t => zrg (Z) ∧ zrg b ∧ ((Z = b → K t) ∧ (¬ (Z = b) → False))) (e + 1) n v2 0 ((n ^ x : Nat) : Int) x s := by
    intro e
    induction e with
    | zero =>
      intro x hx
      obtain rfl : x = n := by omega
      exact ⟨zr (by omega) (by omega), zr (by omega) (by omega), fun _ => ⟨_, codes (x ^ x) 0 s (by omega) hs1⟩, fun hx => by omega⟩
    | succ e ih =>
      intro x hx
      have ih := ih (x + 1) (by omega)
      rw [show ((x + 1 : Nat) : Int) = (x : Int) + 1 by omega, Nat.pow_succ, Int.natCast_mul] at ih
      exact ⟨zr (by omega) (by omega), zr (by omega) (by omega), fun hx => by omega, fun _ => ih⟩
  exact ⟨_, pows n 0 (by omega)⟩
