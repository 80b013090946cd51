/-! row() -/
theorem cl_id {m y : Int} (h : (0 ≤ y ∧ y < m) ∨ y = 15) (hm : m ≤ 15) : cl m y = y := by
  unfold cl
  rcases h with h | h
  · rw [if_pos h]
  · subst h; rw [if_neg (by omega)]
def gn (v : Int) (p : Nat) : Int := (v / 2 ^ (4 * p)) % 16
theorem gn_b (v : Int) (p : Nat) : 0 ≤ gn v p ∧ gn v p ≤ 15 := by
  unfold gn
  have h1 := Int.emod_nonneg (v / 2 ^ (4 * p)) (show (16 : Int) ≠ 0 by decide)
  have h2 := Int.emod_lt_of_pos (v / 2 ^ (4 * p)) (show (0 : Int) < 16 by decide)
  omega
theorem nibble_s {v : Int} {p : Nat} {σ : Hp} {k : Int → Hp → Prop} (h0 : 0 ≤ v) (h1 : v < 9223372036854775808) (hp : p < 16) (hk : k (gn v p) σ) : wX6_nibble v p σ k := by
  unfold wX6_nibble
  rw [show (4 : Int) * (p : Int) = ((4 * p : Nat) : Int) by omega, z_hi h0 h1 (by omega), show (15 : Int) = ((15 : Nat) : Int) from rfl, zand_m _ 4 (by decide) 15 rfl]
  exact hk
theorem ref_nib {v : Int} {n x : Nat} (hv : zrl v) (hn : n ≤ 12) (hx : x < n) : zLand (zLshr v (4 * (((n : Int) - 1) - x))) 15 = gn v (n - 1 - x) := by
  rw [zLand15, show (4 : Int) * (((n : Int) - 1) - x) = ((4 * (n - 1 - x) : Nat) : Int) by omega, zLshr_e hv (by omega)]
  rfl
def okn (v m : Int) (p : Nat) : Prop := gn v p < m ∨ gn v p = 15
theorem fits_t {v m : Int} {n : Nat} {σ : Hp} {k : Int → Hp → Prop} (h0 : 0 ≤ v) (h1 : v < 9223372036854775808) (hn : n ≤ 12) (hm : 1 ≤ m ∧ m ≤ 12) (hall : ∀ p, p < n → okn v m p) (hk : k 1 σ) : ∀ (q i : Nat), i + q = n → wX6_fits_15 k (q + 1) n m v i σ := by
  intro q
  induction q with
  | zero => intro i hi; exact ⟨zr (by omega) (by omega), zr (by omega) (by omega), fun _ => hk, fun hc => by omega⟩
  | succ q ih =>
    intro i hi
    have ih := ih (i + 1) (by omega)
    rw [show ((i + 1 : Nat) : Int) = (i : Int) + 1 by omega] at ih
    have hb := gn_b v i
    have ho := hall i (by omega)
    refine ⟨zr (by omega) (by omega), zr (by omega) (by omega), fun hc => by omega, fun _ => nibble_s h0 h1 (by omega) ⟨zr (by omega) (by omega), zr (by omega) (by omega), fun _ => ih, fun hc => ⟨fun _ => ih, fun hd => ?_⟩⟩⟩
    rcases ho with ho | ho
    · exact absurd ho hc
    · exact absurd ho hd
theorem fits_f {v m : Int} {n p0 : Nat} {σ : Hp} {k : Int → Hp → Prop} (h0 : 0 ≤ v) (h1 : v < 9223372036854775808) (hn : n ≤ 12) (hm : 1 ≤ m ∧ m ≤ 12) (hp : p0 < n) (hno : ¬ okn v m p0) (hk : k 0 σ) : ∀ (q i : Nat), i ≤ p0 → i + q = n → wX6_fits_15 k (q + 1) n m v i σ := by
  intro q
  induction q with
  | zero => intro i hi1 hi; omega
  | succ q ih =>
    intro i hi1 hi
    have hb := gn_b v i
    refine ⟨zr (by omega) (by omega), zr (by omega) (by omega), fun hc => by omega, fun _ => nibble_s h0 h1 (by omega) ⟨zr (by omega) (by omega), zr (by omega) (by omega), ?_⟩⟩
    by_cases hij : i = p0
    · subst hij
      exact ⟨fun hc => absurd (Or.inl hc) hno, fun _ => ⟨fun hc => absurd (Or.inr hc) hno, fun _ => hk⟩⟩
    · have ih := ih (i + 1) (by omega) (by omega)
      rw [show ((i + 1 : Nat) : Int) = (i : Int) + 1 by omega] at ih
      exact ⟨fun _ => ih, fun _ => ⟨fun _ => ih, fun _ => hk⟩⟩
theorem mrow_f {v v1 m : Int} {n x0 : Nat} {σ : Hp} {k : Int → Hp → Prop} (hv : zrl v) (hn : n ≤ 12) (hm : 1 ≤ m ∧ m ≤ 12) (hx0 : x0 < n) (hno : ¬ okn v m (n - 1 - x0)) (hk : k (-1) σ) : ∀ (q i : Nat), i ≤ x0 → i + q = n → wX7_row_54 k (q + 1) v1 n m v i σ := by
  intro q
  induction q with
  | zero => intro i hi1 hi; omega
  | succ q ih =>
    intro i hi1 hi
    have e := ref_nib (x := i) hv hn (by omega)
    have hb := gn_b v (n - 1 - i)
    refine ⟨zr (by omega) (by omega), zr (by omega) (by omega), fun hc => by omega, fun _ => ?_⟩
    rw [e]
    refine ⟨zr (by omega) (by omega), ?_⟩
    by_cases hij : i = x0
    · subst hij
      exact ⟨fun hc => absurd (Or.inr hc) hno, fun _ => ⟨zr (by omega) (by omega), fun hc => absurd (Or.inl hc) hno, fun _ => hk⟩⟩
    · have ih := ih (i + 1) (by omega) (by omega)
      rw [show ((i + 1 : Nat) : Int) = (i : Int) + 1 by omega] at ih
      exact ⟨fun _ => ih, fun _ => ⟨zr (by omega) (by omega), fun _ => ih, fun _ => hk⟩⟩
theorem mrow_set {v v1 m : Int} {n : Nat} {s : Hp} {was : Int} {k : Int → Hp → Prop} (h0 : 0 ≤ v1) (h5 : v1 ≤ 5) (hv : zrl v) (hn : n ≤ 12) (hk : k was (mf s v1.toNat n m (fun x => gn v (n - 1 - x)) n)) : ∀ (q i : Nat), i + q = n → wX7_row_124 k (q + 1) v1 n v was i (mf s v1.toNat n m (fun x => gn v (n - 1 - x)) i) := by
  intro q
  induction q with
  | zero =>
    intro i hi
    obtain rfl : i = n := by omega
    exact ⟨zr (by omega) (by omega), zr (by omega) (by omega), fun _ => hk, fun hc => by omega⟩
  | succ q ih =>
    intro i hi
    have ih := ih (i + 1) (by omega)
    rw [show ((i + 1 : Nat) : Int) = (i : Int) + 1 by omega] at ih
    refine ⟨zr (by omega) (by omega), zr (by omega) (by omega), fun hc => by omega, fun _ => ⟨⟨by omega, by omega⟩, ?_⟩⟩
    rw [ref_nib (x := i) hv hn (by omega), show (12 * v1 + (i : Int)).toNat = 12 * v1.toNat + i by omega]
    have := mf_step s v1.toNat n m (fun x => gn v (n - 1 - x)) i
    rw [this]
    exact ih
theorem mrow_t {v v1 m : Int} {n : Nat} {s : Hp} {k : Int → Hp → Prop} (h0 : 0 ≤ v1) (h5 : v1 ≤ 5) (hv : zrl v) (hn : n ≤ 12) (hm : 1 ≤ m ∧ m ≤ 12) (hall : ∀ p, p < n → okn v m p) (hk : k (s 18 v1.toNat) (mf s v1.toNat n m (fun x => gn v (n - 1 - x)) n)) : ∀ (q i : Nat), i + q = n → wX7_row_54 k (q + 1) v1 n m v i s := by
  intro q
  induction q with
  | zero =>
    intro i hi
    refine ⟨zr (by omega) (by omega), zr (by omega) (by omega), fun _ => ⟨⟨h0, by omega⟩, n + 1, ?_⟩, fun hc => by omega⟩
    rw [mf_0 s v1.toNat n m (fun x => gn v (n - 1 - x))]
    exact mrow_set h0 h5 hv hn hk n 0 (by omega)
  | succ q ih =>
    intro i hi
    have e := ref_nib (x := i) hv hn (by omega)
    have hb := gn_b v (n - 1 - i)
    have ho := hall (n - 1 - i) (by omega)
    have ih := ih (i + 1) (by omega)
    rw [show ((i + 1 : Nat) : Int) = (i : Int) + 1 by omega] at ih
    refine ⟨zr (by omega) (by omega), zr (by omega) (by omega), fun hc => by omega, fun _ => ?_⟩
    rw [e]
    refine ⟨zr (by omega) (by omega), fun _ => ih, fun hc => ⟨zr (by omega) (by omega), fun _ => ih, fun hd => ?_⟩⟩
    rcases ho with ho | ho
    · exact absurd ho hd
    · exact absurd ho hc
theorem xrow_set {v m was : Int} {n r : Nat} {σ : Hp} {k : Int → Hp → Prop} (h0 : 0 ≤ v) (h1 : v < 9223372036854775808) (hn0 : 1 ≤ n) (hn : n ≤ 12) (hm : 1 ≤ m ∧ m ≤ 12) (hk : k was (pf σ r n m (fun x => gn v (n - 1 - x)) n)) : ∀ (q i : Nat), i + q = n → wX6_row_61 k (q + 1) n v r was i (pf σ r n m (fun x => gn v (n - 1 - x)) i) := by
  intro q
  induction q with
  | zero =>
    intro i hi
    obtain rfl : i = n := by omega
    exact ⟨zr (by omega) (by omega), zr (by omega) (by omega), fun _ => hk, fun hc => by omega⟩
  | succ q ih =>
    intro i hi
    have ih := ih (i + 1) (by omega)
    rw [show ((i + 1 : Nat) : Int) = (i : Int) + 1 by omega] at ih
    refine ⟨zr (by omega) (by omega), zr (by omega) (by omega), fun hc => by omega, fun _ => ?_⟩
    rw [show ((n : Int) - 1) - (i : Int) = ((n - 1 - i : Nat) : Int) by omega]
    have hb := gn_b v (n - 1 - i)
    refine nibble_s h0 h1 (by omega) ?_
    exact put_pf (by omega) (by omega) hm.1 hm.2 (by omega) (zr (by omega) (by omega)) rfl ih
theorem T_row {K : Hp → Prop} (hK : ∀ σ, Inv σ → K σ) {v1 v2 v3 v4 : Int} (h1 : zrg v1) (h2 : zrg v2) (h3 : zrg v3) (h4 : zrl v4) {σ : Hp} (hI : Inv σ) : wX6_row v1 v2 v3 v4 σ (fun a s => wX7_row v1 v2 v3 v4 s (fun b t => zrg a ∧ zrg b ∧ ((a = b → K t) ∧ (¬ (a = b) → False)))) := by
  have fok : ∀ t : Hp, Inv t → zrg (-1) ∧ zrg (-1) ∧ (((-1 : Int) = -1 → K t) ∧ (¬ ((-1 : Int) = -1) → False)) := fun t ht => fin rfl (zrg_d rfl) (hK t ht)
  have bad : v1 < 0 ∨ 5 < v1 ∨ v2 < 1 ∨ 12 < v2 ∨ v3 < 1 ∨ 12 < v3 ∨ v4 < 0 ∨ v4 / 2 ^ (4 * v2.toNat) ≠ 0 ∨ (∃ p : Nat, (p : Int) < v2 ∧ ¬ okn v4 v3 p) → wX7_row v1 v2 v3 v4 σ (fun b t => zrg (-1) ∧ zrg b ∧ (((-1) = b → K t) ∧ (¬ ((-1) = b) → False))) := fun hb => by
    refine isRow_br h1 (fun _ => fok _ hI) (fun a1 a2 => ⟨h2, ?_⟩)
    refine ibr h2 (zrg_d rfl) (zrg_d rfl) (fun _ => fok _ hI) (fun b1 b2 => ⟨h3, ?_⟩)
    refine ibr h3 (zrg_d rfl) (zrg_d rfl) (fun _ => fok _ hI) (fun c1 c2 => ⟨h4, fun _ => fok _ hI, fun d1 => ?_⟩)
    have e : zLshr v4 (4 * v2) = v4 / 2 ^ (4 * v2.toNat) := by
      rw [show 4 * v2 = ((4 * v2.toNat : Nat) : Int) by omega]
      exact zLshr_e h4 (by omega)
    refine ⟨zLshr_r _ _, fun d2 => ?_, fun _ => fok _ hI⟩
    rw [e] at d2
    rcases (show ∃ p : Nat, (p : Int) < v2 ∧ ¬ okn v4 v3 p by
      rcases hb with hb | hb | hb | hb | hb | hb | hb | hb | hb
      all_goals first | exact hb | exact absurd d2 hb | omega) with ⟨p0, g1, g2⟩
    have := mrow_f (v1 := v1) (m := v3) (n := v2.toNat) (x0 := v2.toNat - 1 - p0) (σ := σ) (k := fun b t => zrg (-1) ∧ zrg b ∧ (((-1) = b → K t) ∧ (¬ ((-1) = b) → False))) h4 (by omega) ⟨c1, c2⟩ (by omega) (by rw [show v2.toNat - 1 - (v2.toNat - 1 - p0) = p0 by omega]; exact g2) (fok _ hI) v2.toNat 0 (by omega) (by omega)
    rw [show ((v2.toNat : Nat) : Int) = v2 by omega] at this
    exact ⟨_, this⟩
  unfold wX6_row
  refine rowAt_br h1 (fun hc => bad (by omega)) (fun a1 a2 => ?_)
  refine wbr h2 (zrg_d rfl) (zrg_d rfl) (fun hc => bad (by omega)) (fun b1 b2 => ?_)
  refine wbr h3 (zrg_d rfl) (zrg_d rfl) (fun hc => bad (by omega)) (fun c1 c2 => ?_)
  refine ⟨zLushr_r _ _, ?_⟩
  have e0 : 4 * v2 = ((4 * v2.toNat : Nat) : Int) := by omega
  by_cases hneg : v4 < 0
  · refine ⟨fun d => ?_, fun _ => b0n (bad (by omega))⟩
    rw [e0] at d
    exact absurd d (z_neg hneg h4.1 (by omega))
  · have hp0 : 0 ≤ v4 := by omega
    have hp1 : v4 < 9223372036854775808 := h4.2
    have e1 : zLushr v4 (4 * v2) = v4 / 2 ^ (4 * v2.toNat) := by rw [e0]; exact z_hi hp0 hp1 (by omega)
    rw [e1]
    refine ⟨fun d => ?_, fun d => b0n (bad (Or.inr (Or.inr (Or.inr (Or.inr (Or.inr (Or.inr (Or.inr (Or.inl d)))))))))⟩
    by_cases hall : ∀ p : Nat, p < v2.toNat → okn v4 v3 p
    · have ft := fits_t (σ := σ) (k := fun a12 σ11 => zrg a12 ∧ ((a12 ≠ 0 → wX3_columns v1.toNat σ11 (fun a16 σ15 => wX3_shape v1.toNat v2 v3 σ15 (fun σ17 => (∃ N18, wX6_row_61 (fun a s => wX7_row v1 v2 v3 v4 s (fun b t => zrg a ∧ zrg b ∧ ((a = b → K t) ∧ (¬ (a = b) → False)))) N18 v2 v4 v1.toNat a16 0 σ17)))) ∧ (¬ (a12 ≠ 0) → (fun a s => wX7_row v1 v2 v3 v4 s (fun b t => zrg a ∧ zrg b ∧ ((a = b → K t) ∧ (¬ (a = b) → False)))) ((-1)) σ11))) (v := v4) (m := v3) (n := v2.toNat) hp0 hp1 (by omega) ⟨c1, c2⟩ hall (b1n ?_) v2.toNat 0 (by omega)
      · rw [show ((v2.toNat : Nat) : Int) = v2 by omega] at ft
        exact ⟨_, ft⟩
      · show wX3_shape v1.toNat v2 v3 σ _
        refine shape_pf (fun x => gn v4 (v2.toNat - 1 - x)) b1 b2 c1 c2 ?_
        have hr := hI.row a1 a2
        have xs := xrow_set (σ := σ) (r := v1.toNat) (m := v3) (n := v2.toNat) (was := σ (29 + v1.toNat) 0) (v := v4) (k := fun a s => wX7_row v1 v2 v3 v4 s (fun b t => zrg a ∧ zrg b ∧ ((a = b → K t) ∧ (¬ (a = b) → False)))) hp0 hp1 (by omega) (by omega) ⟨c1, c2⟩ ?_ v2.toNat 0 (by omega)
        · rw [show ((v2.toNat : Nat) : Int) = v2 by omega] at xs
          exact ⟨_, xs⟩
        · rw [show ((v2.toNat : Nat) : Int) = v2 by omega]
          have hc := pf_set (σ := σ) (r := v1.toNat) (n := v2) (m := v3) (f := fun x => gn v4 (v2.toNat - 1 - x)) (i := v2.toNat) (by omega) ⟨c1, c2⟩
          generalize hs : pf σ v1.toNat v2 v3 (fun x => gn v4 (v2.toNat - 1 - x)) v2.toNat = s at hc ⊢
          refine isRow_br h1 (fun hc => by omega) (fun _ _ => ⟨h2, ?_⟩)
          refine ibr h2 (zrg_d rfl) (zrg_d rfl) (fun hc => by omega) (fun _ _ => ⟨h3, ?_⟩)
          refine ibr h3 (zrg_d rfl) (zrg_d rfl) (fun hc => by omega) (fun _ _ => ⟨h4, fun hc => by omega, fun _ => ⟨zLshr_r _ _, ?_⟩⟩)
          have e2 : zLshr v4 (4 * v2) = v4 / 2 ^ (4 * v2.toNat) := by rw [e0]; exact zLshr_e h4 (by omega)
          rw [e2]
          refine ⟨fun _ => ?_, fun hc => absurd d hc⟩
          have e18 : s 18 v1.toNat = σ (29 + v1.toNat) 0 := by
            rw [← hr.2.1]
            exact hc.1 18 v1.toNat (by unfold keep; omega) (by omega) (by omega)
          have mt := mrow_t (s := s) (v := v4) (v1 := v1) (m := v3) (n := v2.toNat) (k := fun b t => zrg (σ (29 + v1.toNat) 0) ∧ zrg b ∧ ((σ (29 + v1.toNat) 0 = b → K t) ∧ (¬ (σ (29 + v1.toNat) 0 = b) → False))) a1 a2 h4 (by omega) ⟨c1, c2⟩ hall ?_ v2.toNat 0 (by omega)
          · rw [show ((v2.toNat : Nat) : Int) = v2 by omega] at mt
            exact ⟨_, mt⟩
          · have := hr.1.1
            refine fin e18.symm (zr (by omega) (by omega)) (hK _ ?_)
            rw [show ((v2.toNat : Nat) : Int) = v2 by omega]
            refine hI.set (k := v1.toNat) (n := v2) (m := v3) (A := fun x => cl v3 (gn v4 (v2.toNat - 1 - x))) (by omega) ⟨⟨b1, b2⟩, ⟨c1, c2⟩, fun x _ => cl_v c1⟩ hc ?_
            have ms := mf_set (s := s) (k := v1.toNat) (n := v2) (m := v3) (f := fun x => gn v4 (v2.toNat - 1 - x)) (i := v2.toNat) (by omega) b2
            refine ⟨ms.1, ms.2.1, ms.2.2.1, fun x hx => ?_⟩
            rw [ms.2.2.2 x hx]
            have ho := hall (v2.toNat - 1 - x) (by omega)
            have hb := gn_b v4 (v2.toNat - 1 - x)
            show gn v4 (v2.toNat - 1 - x) = cl v3 (gn v4 (v2.toNat - 1 - x))
            refine (cl_id ?_ (by omega)).symm
            rcases ho with ho | ho
            · exact Or.inl ⟨hb.1, ho⟩
            · exact Or.inr ho
    · obtain ⟨p0, hp⟩ := Classical.not_forall.mp hall
      obtain ⟨g1, g2⟩ := Classical.not_imp.mp hp
      have ff := fits_f (σ := σ) (k := fun a12 σ11 => zrg a12 ∧ ((a12 ≠ 0 → wX3_columns v1.toNat σ11 (fun a16 σ15 => wX3_shape v1.toNat v2 v3 σ15 (fun σ17 => (∃ N18, wX6_row_61 (fun a s => wX7_row v1 v2 v3 v4 s (fun b t => zrg a ∧ zrg b ∧ ((a = b → K t) ∧ (¬ (a = b) → False)))) N18 v2 v4 v1.toNat a16 0 σ17)))) ∧ (¬ (a12 ≠ 0) → (fun a s => wX7_row v1 v2 v3 v4 s (fun b t => zrg a ∧ zrg b ∧ ((a = b → K t) ∧ (¬ (a = b) → False)))) ((-1)) σ11))) (v := v4) (m := v3) (n := v2.toNat) hp0 hp1 (by omega) ⟨c1, c2⟩ g1 g2 (b0n (bad (Or.inr (Or.inr (Or.inr (Or.inr (Or.inr (Or.inr (Or.inr (Or.inr ⟨p0, by omega, g2⟩)))))))))) v2.toNat 0 (by omega) (by omega)
      rw [show ((v2.toNat : Nat) : Int) = v2 by omega] at ff
      exact ⟨_, ff⟩
