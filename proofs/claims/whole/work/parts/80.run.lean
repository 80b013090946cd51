/-! the law's loop -/
theorem xr (a : Int32) : zrg a.toInt := ⟨Int32.le_toInt _, Int32.toInt_lt _⟩
theorem xl (a b : Int) : zrl (zLor a b) := ⟨Int64.le_toInt _, Int64.toInt_lt _⟩
set_option maxHeartbeats 4000000 in
theorem law_all {L : Nat} {xs : Nat → Int32} (hL : L ≤ 3072) : ∀ (q v : Nat) (σ : Hp), Inv σ → v ≤ 3072 → L ≤ v + 6 * q + 5 → wL_law_18 L xs (q + 1) v σ := by
  intro q
  induction q with
  | zero =>
    intro v σ hI hv hq
    exact ⟨zr (by omega) (by omega), zr (by omega) (by omega), fun _ => trivial, fun hc => absurd (by omega) hc⟩
  | succ q ih =>
    intro v σ hI hv hq
    refine ⟨zr (by omega) (by omega), zr (by omega) (by omega), fun _ => trivial, fun hc => ?_⟩
    have hvL : (v : Int) + 6 ≤ L := by omega
    have hK : ∀ σ, Inv σ → wL_law_18 L xs (q + 1) ((v : Int) + 6) σ := fun σ hI => by
      have := ih (v + 6) σ hI (by omega) (by omega)
      rw [show ((v + 6 : Nat) : Int) = (v : Int) + 6 by omega] at this
      exact this
    have i1 : 0 ≤ (v : Int) + 1 ∧ (v : Int) + 1 < (L : Int) := by omega
    have i2 : 0 ≤ (v : Int) + 2 ∧ (v : Int) + 2 < (L : Int) := by omega
    have i3 : 0 ≤ (v : Int) + 3 ∧ (v : Int) + 3 < (L : Int) := by omega
    have i4 : 0 ≤ (v : Int) + 4 ∧ (v : Int) + 4 < (L : Int) := by omega
    have i5 : 0 ≤ (v : Int) + 5 ∧ (v : Int) + 5 < (L : Int) := by omega
    refine ⟨⟨by omega, by omega⟩, zand_r _ _, fun _ => hK σ hI, fun _ => ⟨i1, i2, i3, i4, xr _, i5, xr _, T_row hK (xr _) (xr _) (xr _) (xl _ _) hI⟩, fun _ => ⟨i1, i2, xr _, i3, xr _, T_write hK (xr _) (xl _ _) hI⟩, fun _ => T_wipe hK hI, fun _ => T_fault hK hI, fun _ => ⟨i1, T_lay hK (xr _) hI⟩, fun _ => ⟨i1, i2, T_told hK (xr _) (xr _) hI⟩, fun _ => ⟨i1, T_marks hK (xr _) hI⟩, fun _ => ⟨i1, i2, i3, i4, T_difference hK (xr _) (xr _) (xr _) (xr _) hI⟩, fun _ => ⟨i1, i2, i3, T_quarrels hK (xr _) (xr _) (xr _) hI⟩, fun _ => ⟨i1, i2, i3, i4, i5, xr _, fun h => ?_, fun h => ?_⟩, fun _ => ⟨i1, i2, i3, T_most hK (xr _) (xr _) (xr _) hI⟩, fun _ => ⟨i1, i2, i3, T_squares hK (xr _) (xr _) (xr _) hI⟩, fun _ => ⟨i1, i2, i3, T_holding hK (xr _) (xr _) (xr _) hI⟩, fun _ => ⟨i1, i2, T_nearly hK (xr _) (xr _) hI⟩, fun _ => ⟨i1, i2, i3, i4, i5, T_rows hK (xr _) (xr _) (xr _) (xr _) (xr _) hI⟩, fun _ => ⟨i1, i2, T_longest hK (xr _) (xr _) hI⟩, fun _ => ⟨i1, i2, i3, i4, T_powers hK (xr _) (xr _) (xr _) (xr _) hI⟩, fun _ => ⟨i1, i2, i3, i4, T_sums hK (xr _) (xr _) (xr _) (xr _) hI⟩, fun _ => ⟨i1, i2, T_turn hK (xr _) (xr _) hI⟩, fun _ => ⟨i1, T_like hK (xr _) hI⟩, fun _ => ⟨i1, i2, i3, xr _, fun h => ?_, fun h => ?_⟩, fun _ => ⟨i1, i2, T_hear hK (xr _) (xr _) hI⟩, fun _ => T_still hK hI, fun _ => ⟨i1, i2, T_found hK (xr _) (xr _) hI⟩, fun _ => ⟨i1, T_among hK (xr _) hI⟩, fun _ => ⟨i1, T_count hK (xr _) hI⟩⟩
    · have T := T_hits hK (v5 := 0) (xr (xs ((v : Int) + 1).toNat)) (xr (xs ((v : Int) + 2).toNat)) (xr (xs ((v : Int) + 3).toNat)) (xr (xs ((v : Int) + 4).toNat)) (zrg_d rfl) hI
      unfold wL_law_534
      exact Eq.mpr (congrArg (wX6_hits _ _ _ _ _ σ) (funext fun a => funext fun s => propext ⟨fun g => g.2.2.2.2.2.2.1 h, fun g => ⟨i1, i2, i3, i4, i5, xr _, fun _ => g, fun h2 => absurd h h2⟩⟩)) T
    · have T := T_hits hK (v5 := 1) (xr (xs ((v : Int) + 1).toNat)) (xr (xs ((v : Int) + 2).toNat)) (xr (xs ((v : Int) + 3).toNat)) (xr (xs ((v : Int) + 4).toNat)) (zrg_d rfl) hI
      unfold wL_law_534
      exact Eq.mpr (congrArg (wX6_hits _ _ _ _ _ σ) (funext fun a => funext fun s => propext ⟨fun g => g.2.2.2.2.2.2.2 h, fun g => ⟨i1, i2, i3, i4, i5, xr _, fun h2 => absurd h2 h, fun _ => g⟩⟩)) T
    · have T := T_corner hK (v3 := 0) (xr (xs ((v : Int) + 1).toNat)) (xr (xs ((v : Int) + 2).toNat)) (zrg_d rfl) hI
      unfold wL_law_1023
      exact Eq.mpr (congrArg (wX6_corner _ _ _ σ) (funext fun a => funext fun s => propext ⟨fun g => g.2.2.2.2.1 h, fun g => ⟨i1, i2, i3, xr _, fun _ => g, fun h2 => absurd h h2⟩⟩)) T
    · have T := T_corner hK (v3 := 1) (xr (xs ((v : Int) + 1).toNat)) (xr (xs ((v : Int) + 2).toNat)) (zrg_d rfl) hI
      unfold wL_law_1023
      exact Eq.mpr (congrArg (wX6_corner _ _ _ σ) (funext fun a => funext fun s => propext ⟨fun g => g.2.2.2.2.2 h, fun g => ⟨i1, i2, i3, xr _, fun h2 => absurd h2 h, fun _ => g⟩⟩)) T
theorem law_run {L : Nat} {xs : Nat → Int32} (hL : L ≤ 3072) : ∃ n, wL_law_18 L xs n 0 zs0 := ⟨_, law_all hL 600 0 zs0 zs0_inv (by omega) (by omega)⟩
