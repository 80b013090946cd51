def wX6_isNewTurning_2 (k : Int → Hp → Prop) : Nat → Int → Int → Hp → Prop
  | 0, _, _, _ => False
  | n + 1, v1, v2, σ => zrg v2 ∧ zrg v1 ∧ ((v1 ≤ v2 → k 1 σ) ∧ (¬ (v1 ≤ v2) → (0 ≤ v2 ∧ v2 < 8) ∧ (0 ≤ v1 ∧ v1 < 8) ∧ zrl (σ 16 v2.toNat) ∧ zrl (σ 16 v1.toNat) ∧ ((σ 16 v2.toNat ≠ σ 16 v1.toNat → wX6_isNewTurning_2 k n v1 (v2 + 1) σ) ∧ (¬ (σ 16 v2.toNat ≠ σ 16 v1.toNat) → k 0 σ))))
set_option maxRecDepth 100000 in
theorem sX6_isNewTurning_2 {x : Cx} (C : zOk x cX6_isNewTurning RX6 (some .boolean) (0) (0)) (hN : x.2.2.2.2.1 = 3) {k : Int → Hp → Prop} (E : zEnd x (zPi k x.2.1)) : ∀ (n : Nat) (v1 : Int) (v2 : Int) (σ : Hp), wX6_isNewTurning_2 k n v1 v2 σ → zV x σ 2 [(0, za x (0)), (1, .int (zI (v1))), (2, .int (zI (v2)))] [] := by
  intro n
  induction n with
  | zero => intro _ _ _ h; exact h.elim
  | succ n ih =>
    intro v1 v2 σ h
    unfold wX6_isNewTurning_2 at h
    refine z_iload_n C 2 dX6_isNewTurning_2 rfl rfl ?_
    refine z_iload_n C 1 dX6_isNewTurning_3 rfl rfl ?_
    obtain ⟨o1, h⟩ := h
    obtain ⟨o2, h⟩ := h
    refine z_icmp_ge C 31 dX6_isNewTurning_4 (by decide) o1 o2 (fun c3 => ?_) (fun c3 => ?_)
    · have h := h.1 c3
      refine z_iconst C dX6_isNewTurning_31 ?_
      exact z_zret C E dX6_isNewTurning_32 (by decide) ⟨_, rfl, h⟩
    · have h := h.2 c3
      refine z_aload_n C 0 dX6_isNewTurning_7 rfl rfl ?_
      refine g_X6_7 C kf_X6_55 dX6_isNewTurning_8 ?_
      refine z_iload_n C 2 dX6_isNewTurning_11 rfl rfl ?_
      obtain ⟨o4, h⟩ := h
      refine z_lald C ia_16 dX6_isNewTurning_12 o4.1 o4.2 ?_
      refine z_aload_n C 0 dX6_isNewTurning_13 rfl rfl ?_
      refine g_X6_7 C kf_X6_55 dX6_isNewTurning_14 ?_
      refine z_iload_n C 1 dX6_isNewTurning_17 rfl rfl ?_
      obtain ⟨o5, h⟩ := h
      refine z_lald C ia_16 dX6_isNewTurning_18 o5.1 o5.2 ?_
      obtain ⟨o6, h⟩ := h
      obtain ⟨o7, h⟩ := h
      refine z_lcmp_ne C 25 dX6_isNewTurning_19 dX6_isNewTurning_20 (by decide) o6 o7 (fun c8 => ?_) (fun c8 => ?_)
      · have h := h.1 c8
        refine z_iinc C 2 [(2, .int (zI (v2 + 1))), (0, za x (0)), (1, .int (zI (v1)))] dX6_isNewTurning_25 rfl (by rw [hN]; decide) rfl ?_
        refine z_goto C 2 dX6_isNewTurning_28 (by decide) ?_
        refine z_sub C [1, 2, 0] [(0, za x (0)), (1, .int (zI (v1))), (2, .int (zI (v2 + 1)))] rfl ?_
        exact ih v1 (v2 + 1)  σ h
      · have h := h.2 c8
        refine z_iconst C dX6_isNewTurning_23 ?_
        exact z_zret C E dX6_isNewTurning_24 (by decide) ⟨_, rfl, h⟩
def wX6_isNewTurning (v1 : Int) (σ : Hp) (k : Int → Hp → Prop) : Prop :=
  (∃ N1, wX6_isNewTurning_2 k N1 v1 0 σ)
set_option maxRecDepth 100000 in
theorem mX6_isNewTurning (v1 : Int) (σ : Hp) (k : Int → Hp → Prop) (h : wX6_isNewTurning v1 σ k) (l : Launch) : zMt l yX6_isNewTurning cX6_isNewTurning 3 (some .boolean) { frames := 0, cells := 0, slots := 0, locals := 0 } (fun w => [.ref (w.2.1 (0)), .int (zI (v1))]) σ (zPi k) := by
  refine zMt_of (plainFor_of_name (by decide)) (fun w => Nat.le_of_ble_eq_true rfl) (fun x hl hN C E => ?_)
  change zV x σ 0 [(0, za x (0)), (1, .int (zI (v1)))] []
  change zOk x cX6_isNewTurning RX6 (some .boolean) (0) (0) at C
  unfold wX6_isNewTurning at h
  refine z_iconst C dX6_isNewTurning_0 ?_
  refine z_istore_n C [(2, .int (zI (0))), (0, za x (0)), (1, .int (zI (v1)))] dX6_isNewTurning_1 rfl (by rw [hN]; decide) rfl ?_
  refine z_sub C [1, 2, 0] [(0, za x (0)), (1, .int (zI (v1))), (2, .int (zI (0)))] rfl ?_
  obtain ⟨n1, h⟩ := h
  exact sX6_isNewTurning_2 C hN E n1 v1 0  σ h
def wX6_isToldPrime (v0 : Int) (σ : Hp) (k : Int → Hp → Prop) : Prop :=
  zrg v0 ∧ ((v0 = 3 → k 1 σ) ∧ (¬ (v0 = 3) → ((v0 = 5 → k 1 σ) ∧ (¬ (v0 = 5) → ((v0 = 7 → k 1 σ) ∧ (¬ (v0 = 7) → ((v0 = 11 → k 1 σ) ∧ (¬ (v0 = 11) → ((v0 ≠ 13 → k 0 σ) ∧ (¬ (v0 ≠ 13) → k 1 σ))))))))))
set_option maxRecDepth 100000 in
theorem mX6_isToldPrime (v0 : Int) (σ : Hp) (k : Int → Hp → Prop) (h : wX6_isToldPrime v0 σ k) (l : Launch) : zMt l yX6_isToldPrime cX6_isToldPrime 1 (some .boolean) { frames := 0, cells := 0, slots := 0, locals := 0 } (fun w => [.int (zI (v0))]) σ (zPi k) := by
  refine zMt_of (plainFor_of_name (by decide)) (fun w => Nat.le_of_ble_eq_true rfl) (fun x hl hN C E => ?_)
  change zV x σ 0 [(0, .int (zI (v0)))] []
  change zOk x cX6_isToldPrime RX6 (some .boolean) (0) (0) at C
  unfold wX6_isToldPrime at h
  refine z_iload_n C 0 dX6_isToldPrime_0 rfl rfl ?_
  refine z_iconst C dX6_isToldPrime_1 ?_
  obtain ⟨o1, h⟩ := h
  refine z_icmp_eq C 28 dX6_isToldPrime_2 (by decide) o1 (zrg_d rfl) (fun c2 => ?_) (fun c2 => ?_)
  · have h := h.1 c2
    refine z_iconst C dX6_isToldPrime_28 ?_
    refine z_goto C 33 dX6_isToldPrime_29 (by decide) ?_
    exact z_zret C E dX6_isToldPrime_33 (by decide) ⟨_, rfl, h⟩
  · have h := h.2 c2
    refine z_iload_n C 0 dX6_isToldPrime_5 rfl rfl ?_
    refine z_iconst C dX6_isToldPrime_6 ?_
    refine z_icmp_eq C 28 dX6_isToldPrime_7 (by decide) o1 (zrg_d rfl) (fun c3 => ?_) (fun c3 => ?_)
    · have h := h.1 c3
      refine z_iconst C dX6_isToldPrime_28 ?_
      refine z_goto C 33 dX6_isToldPrime_29 (by decide) ?_
      exact z_zret C E dX6_isToldPrime_33 (by decide) ⟨_, rfl, h⟩
    · have h := h.2 c3
      refine z_iload_n C 0 dX6_isToldPrime_10 rfl rfl ?_
      refine z_bipush C dX6_isToldPrime_11 rfl ?_
      refine z_icmp_eq C 28 dX6_isToldPrime_13 (by decide) o1 (zrg_d rfl) (fun c4 => ?_) (fun c4 => ?_)
      · have h := h.1 c4
        refine z_iconst C dX6_isToldPrime_28 ?_
        refine z_goto C 33 dX6_isToldPrime_29 (by decide) ?_
        exact z_zret C E dX6_isToldPrime_33 (by decide) ⟨_, rfl, h⟩
      · have h := h.2 c4
        refine z_iload_n C 0 dX6_isToldPrime_16 rfl rfl ?_
        refine z_bipush C dX6_isToldPrime_17 rfl ?_
        refine z_icmp_eq C 28 dX6_isToldPrime_19 (by decide) o1 (zrg_d rfl) (fun c5 => ?_) (fun c5 => ?_)
        · have h := h.1 c5
          refine z_iconst C dX6_isToldPrime_28 ?_
          refine z_goto C 33 dX6_isToldPrime_29 (by decide) ?_
          exact z_zret C E dX6_isToldPrime_33 (by decide) ⟨_, rfl, h⟩
        · have h := h.2 c5
          refine z_iload_n C 0 dX6_isToldPrime_22 rfl rfl ?_
          refine z_bipush C dX6_isToldPrime_23 rfl ?_
          refine z_icmp_ne C 32 dX6_isToldPrime_25 (by decide) o1 (zrg_d rfl) (fun c6 => ?_) (fun c6 => ?_)
          · have h := h.1 c6
            refine z_iconst C dX6_isToldPrime_32 ?_
            exact z_zret C E dX6_isToldPrime_33 (by decide) ⟨_, rfl, h⟩
          · have h := h.2 c6
            refine z_iconst C dX6_isToldPrime_28 ?_
            refine z_goto C 33 dX6_isToldPrime_29 (by decide) ?_
            exact z_zret C E dX6_isToldPrime_33 (by decide) ⟨_, rfl, h⟩
def wX6_keepSquare (r1 : Nat) (σ : Hp) (k : Int → Hp → Prop) : Prop :=
  wX3_isSquare 6 σ (fun a2 σ1 => zrg a2 ∧ ((a2 ≠ 0 → wX3_copyFrom r1 6 σ1 (fun σ5 => wX3_columns r1 σ5 (fun a7 σ6 => k a7 σ6))) ∧ (¬ (a2 ≠ 0) → k ((-2)) σ1)))
set_option maxRecDepth 100000 in
theorem mX6_keepSquare (r1 : Nat) (hr1 : r1 < 7) (σ : Hp) (k : Int → Hp → Prop) (h : wX6_keepSquare r1 σ k) (l : Launch) : zMt l yX6_keepSquare cX6_keepSquare 2 (some .int) { frames := 3, cells := 0, slots := 0, locals := 67 } (fun w => [.ref (w.2.1 (0)), .ref (w.2.1 (29 + r1))]) σ (zPi k) := by
  refine zMt_of (plainFor_of_name (by decide)) (fun w => Nat.le_of_ble_eq_true rfl) (fun x hl hN C E => ?_)
  change zV x σ 0 [(0, za x (0)), (1, za x (29 + r1))] []
  change zOk x cX6_keepSquare RX6 (some .int) (3) (67) at C
  unfold wX6_keepSquare at h
  refine z_aload_n C 0 dX6_keepSquare_0 rfl rfl ?_
  refine g_X6_1 C kf_X6_16 dX6_keepSquare_1 ?_
  refine z_callV (av := fun w => []) C [] cs_X3_isSquare (by decide) (zcell_row (by decide)) rfl (mX3_isSquare 6 (by decide) σ _ h) km_X6_206 dX6_keepSquare_4 rfl rfl ⟨rfl, rfl⟩ ⟨by decide, by decide⟩ (Nat.le_of_ble_eq_true rfl) (fun rv σ1 hp => ?_)
  obtain ⟨a2, rfl, h⟩ := hp
  change zV x σ1 7 [(0, za x (0)), (1, za x (29 + r1))] [.int (zI (a2))]
  obtain ⟨o3, h⟩ := h
  refine z_if_ne C 13 dX6_keepSquare_7 (by decide) o3 (fun c4 => ?_) (fun c4 => ?_)
  · have h := h.1 c4
    refine z_aload_n C 1 dX6_keepSquare_13 rfl rfl ?_
    refine z_aload_n C 0 dX6_keepSquare_14 rfl rfl ?_
    refine g_X6_1 C kf_X6_16 dX6_keepSquare_15 ?_
    refine z_callV (av := fun w => [.ref (w.2.1 (29 + 6))]) C [] cs_X3_copyFrom (by have := hr1; omega) (zcell_row hr1) rfl (mX3_copyFrom r1 6 hr1 (by decide) σ1 _ h) km_X6_214 dX6_keepSquare_18 rfl rfl ⟨rfl, rfl⟩ ⟨by decide, by decide⟩ (Nat.le_of_ble_eq_true rfl) (fun rv σ5 hp => ?_)
    obtain ⟨rfl, h⟩ := hp
    change zV x σ5 21 [(0, za x (0)), (1, za x (29 + r1))] []
    refine z_aload_n C 1 dX6_keepSquare_21 rfl rfl ?_
    refine z_callV (av := fun w => []) C [] cs_X3_columns (by have := hr1; omega) (zcell_row hr1) rfl (mX3_columns r1 hr1 σ5 _ h) km_X6_71 dX6_keepSquare_22 rfl rfl ⟨rfl, rfl⟩ ⟨by decide, by decide⟩ (Nat.le_of_ble_eq_true rfl) (fun rv σ6 hp => ?_)
    obtain ⟨a7, rfl, h⟩ := hp
    change zV x σ6 25 [(0, za x (0)), (1, za x (29 + r1))] [.int (zI (a7))]
    exact z_iret C E dX6_keepSquare_25 ⟨_, rfl, h⟩
  · have h := h.2 c4
    refine z_bipush C dX6_keepSquare_10 rfl ?_
    exact z_iret C E dX6_keepSquare_12 ⟨_, rfl, h⟩
def wX6_layOne_26 (k : Hp → Prop) : Nat → Int → Int → Nat → Int → Hp → Prop
  | 0, _, _, _, _, _ => False
  | n + 1, v3, v4, r5, v6, σ => zrg v6 ∧ zrg (v4 - v3) ∧ ((v4 - v3 ≤ v6 → k σ) ∧ (¬ (v4 - v3 ≤ v6) → wX5_lineAt (v3 + v6) σ (fun a5 σ4 => wX3_put r5 v6 a5 σ4 (fun σ6 => wX6_layOne_26 k n v3 v4 r5 (v6 + 1) σ6))))
set_option maxRecDepth 100000 in
theorem sX6_layOne_26 {x : Cx} (C : zOk x cX6_layOne RX6 (none) (2) (45)) (hN : x.2.2.2.2.1 = 7) {k : Hp → Prop} (E : zEnd x (zPv k x.2.1)) : ∀ (n : Nat) (v3 : Int) (v4 : Int) (r5 : Nat) (v6 : Int) (hr5 : r5 < 7) (σ : Hp), wX6_layOne_26 k n v3 v4 r5 v6 σ → zV x σ 26 [(0, za x (0)), (3, .int (zI (v3))), (4, .int (zI (v4))), (5, za x (29 + r5)), (6, .int (zI (v6)))] [] := by
  intro n
  induction n with
  | zero => intro _ _ _ _ _ _ h; exact h.elim
  | succ n ih =>
    intro v3 v4 r5 v6 hr5 σ h
    unfold wX6_layOne_26 at h
    refine z_iload C 4 dX6_layOne_26 rfl ?_
    refine z_iload C 2 dX6_layOne_28 rfl ?_
    refine z_iload_n C 1 dX6_layOne_30 rfl rfl ?_
    refine z_isub C dX6_layOne_31 ?_
    obtain ⟨o1, h⟩ := h
    obtain ⟨o2, h⟩ := h
    refine z_icmp_ge C 59 dX6_layOne_32 (by decide) o1 o2 (fun c3 => ?_) (fun c3 => ?_)
    · have h := h.1 c3
      exact z_vret C E dX6_layOne_59 ⟨rfl, h⟩
    · have h := h.2 c3
      refine z_aload C 3 dX6_layOne_35 rfl ?_
      refine z_iload C 4 dX6_layOne_37 rfl ?_
      refine z_aload_n C 0 dX6_layOne_39 rfl rfl ?_
      refine g_X6_2 C kf_X6_23 dX6_layOne_40 ?_
      refine z_iload_n C 1 dX6_layOne_43 rfl rfl ?_
      refine z_iload C 4 dX6_layOne_44 rfl ?_
      refine z_iadd C dX6_layOne_46 ?_
      refine z_callV (av := fun w => [.int (zI (v3 + v6))]) C [.int (zI (v6)), za x (29 + r5)] cs_X5_lineAt (by decide) (fun _ _ => rfl) rfl (mX5_lineAt (v3 + v6)  σ _ h) km_X6_264 dX6_layOne_47 rfl rfl ⟨rfl, rfl⟩ ⟨by decide, by decide⟩ (Nat.le_of_ble_eq_true rfl) (fun rv σ4 hp => ?_)
      obtain ⟨a5, rfl, h⟩ := hp
      change zV x σ4 50 [(0, za x (0)), (3, .int (zI (v3))), (4, .int (zI (v4))), (5, za x (29 + r5)), (6, .int (zI (v6)))] [.int (zI (a5)), .int (zI (v6)), za x (29 + r5)]
      refine z_callV (av := fun w => [.int (zI (v6)), .int (zI (a5))]) C [] cs_X3_put (by have := hr5; omega) (zcell_row hr5) rfl (mX3_put r5 v6 a5 hr5 σ4 _ h) km_X6_83 dX6_layOne_50 rfl rfl ⟨rfl, rfl⟩ ⟨by decide, by decide⟩ (Nat.le_of_ble_eq_true rfl) (fun rv σ6 hp => ?_)
      obtain ⟨rfl, h⟩ := hp
      change zV x σ6 53 [(0, za x (0)), (3, .int (zI (v3))), (4, .int (zI (v4))), (5, za x (29 + r5)), (6, .int (zI (v6)))] []
      refine z_iinc C 4 [(6, .int (zI (v6 + 1))), (0, za x (0)), (3, .int (zI (v3))), (4, .int (zI (v4))), (5, za x (29 + r5))] dX6_layOne_53 rfl (by rw [hN]; decide) rfl ?_
      refine z_goto C 26 dX6_layOne_56 (by decide) ?_
      refine z_sub C [1, 2, 3, 4, 0] [(0, za x (0)), (3, .int (zI (v3))), (4, .int (zI (v4))), (5, za x (29 + r5)), (6, .int (zI (v6 + 1)))] rfl ?_
      exact ih v3 v4 r5 (v6 + 1) hr5 σ6 h
def wX6_layOne (v1 : Int) (v2 : Int) (v3 : Int) (v4 : Int) (σ : Hp) (k : Hp → Prop) : Prop :=
  wX6_rowAt v1 σ (fun w5 σ1 => (w5 = none → k σ1) ∧ ∀ q2, w5 = some q2 → wX3_shape q2 (v4 - v3) v2 σ1 (fun σ3 => (∃ N4, wX6_layOne_26 k N4 v3 v4 q2 0 σ3)))
set_option maxRecDepth 100000 in
theorem mX6_layOne (v1 : Int) (v2 : Int) (v3 : Int) (v4 : Int) (σ : Hp) (k : Hp → Prop) (h : wX6_layOne v1 v2 v3 v4 σ k) (l : Launch) : zMt l yX6_layOne cX6_layOne 7 (none) { frames := 2, cells := 0, slots := 0, locals := 45 } (fun w => [.ref (w.2.1 (0)), .int (zI (v1)), .int (zI (v2)), .int (zI (v3)), .int (zI (v4))]) σ (zPv k) := by
  refine zMt_of (plainFor_of_name (by decide)) (fun w => Nat.le_of_ble_eq_true rfl) (fun x hl hN C E => ?_)
  change zV x σ 0 [(0, za x (0)), (1, .int (zI (v1))), (2, .int (zI (v2))), (3, .int (zI (v3))), (4, .int (zI (v4)))] []
  change zOk x cX6_layOne RX6 (none) (2) (45) at C
  unfold wX6_layOne at h
  refine z_aload_n C 0 dX6_layOne_0 rfl rfl ?_
  refine z_iload_n C 1 dX6_layOne_1 rfl rfl ?_
  refine z_callV (av := fun w => [.int (zI (v1))]) C [] cs_X6_rowAt (by decide) (fun _ _ => rfl) rfl (mX6_rowAt v1  σ _ h) km_X6_59 dX6_layOne_2 rfl rfl ⟨rfl, rfl⟩ ⟨by decide, by decide⟩ (Nat.le_of_ble_eq_true rfl) (fun rv σ1 hp => ?_)
  rcases hp with ⟨rfl, h⟩ | ⟨q2, hq2, rfl, h⟩
  · have h := h.1 rfl
    change zV x σ1 5 [(0, za x (0)), (1, .int (zI (v1))), (2, .int (zI (v2))), (3, .int (zI (v3))), (4, .int (zI (v4)))] [.null]
    refine z_astoreN C [(5, .null), (0, za x (0)), (1, .int (zI (v1))), (2, .int (zI (v2))), (3, .int (zI (v3))), (4, .int (zI (v4)))] dX6_layOne_5 (by rw [hN]; decide) rfl ?_
    refine z_aloadN C 0 dX6_layOne_7 rfl ?_
    refine z_ifnonnullN C dX6_layOne_9 ?_
    exact z_vret C E dX6_layOne_12 ⟨rfl, h⟩
  · have h := h.2 q2 rfl
    change zV x σ1 5 [(0, za x (0)), (1, .int (zI (v1))), (2, .int (zI (v2))), (3, .int (zI (v3))), (4, .int (zI (v4)))] [za x (29 + q2)]
    refine z_astore C [(5, za x (29 + q2)), (0, za x (0)), (1, .int (zI (v1))), (2, .int (zI (v2))), (3, .int (zI (v3))), (4, .int (zI (v4)))] dX6_layOne_5 (by rw [hN]; decide) rfl ?_
    refine z_aload C 0 dX6_layOne_7 rfl ?_
    refine z_ifnonnull C 13 dX6_layOne_9 (by decide) ?_
    refine z_aload C 0 dX6_layOne_13 rfl ?_
    refine z_iload C 5 dX6_layOne_15 rfl ?_
    refine z_iload_n C 4 dX6_layOne_17 rfl rfl ?_
    refine z_isub C dX6_layOne_18 ?_
    refine z_iload_n C 3 dX6_layOne_19 rfl rfl ?_
    refine z_callV (av := fun w => [.int (zI (v4 - v3)), .int (zI (v2))]) C [] cs_X3_shape (by have := hq2; omega) (zcell_row hq2) rfl (mX3_shape q2 (v4 - v3) v2 hq2 σ1 _ h) km_X6_75 dX6_layOne_20 rfl rfl ⟨rfl, rfl⟩ ⟨by decide, by decide⟩ (Nat.le_of_ble_eq_true rfl) (fun rv σ3 hp => ?_)
    obtain ⟨rfl, h⟩ := hp
    change zV x σ3 23 [(5, za x (29 + q2)), (0, za x (0)), (1, .int (zI (v1))), (2, .int (zI (v2))), (3, .int (zI (v3))), (4, .int (zI (v4)))] []
    refine z_iconst C dX6_layOne_23 ?_
    refine z_istore C [(6, .int (zI (0))), (5, za x (29 + q2)), (0, za x (0)), (1, .int (zI (v1))), (2, .int (zI (v2))), (3, .int (zI (v3))), (4, .int (zI (v4)))] dX6_layOne_24 (by rw [hN]; decide) rfl ?_
    refine z_sub C [2, 5, 6, 1, 0] [(0, za x (0)), (3, .int (zI (v3))), (4, .int (zI (v4))), (5, za x (29 + q2)), (6, .int (zI (0)))] rfl ?_
    obtain ⟨n4, h⟩ := h
    exact sX6_layOne_26 C hN E n4 v3 v4 q2 0 hq2 σ3 h
def wX6_lay_45 (k : Int → Hp → Prop) : Nat → Int → Int → Int → Int → Hp → Prop
  | 0, _, _, _, _, _ => False
  | n + 1, v1, v2, v3, v4, σ => wX5_length  σ (fun a2 σ1 => zrg v4 ∧ zrg a2 ∧ ((a2 ≤ v4 → k v3 σ1) ∧ (¬ (a2 ≤ v4) → wX5_endsRow v4 σ1 (fun a7 σ6 => zrg a7 ∧ ((a7 = 0 → wX6_lay_45 k n v1 v2 v3 (v4 + 1) σ6) ∧ (¬ (a7 = 0) → wX6_layOne v3 v1 v2 v4 σ6 (fun σ10 => wX6_lay_45 k n v1 (v4 + 1) (v3 + 1) (v4 + 1) σ10)))))))
set_option maxRecDepth 100000 in
theorem sX6_lay_45 {x : Cx} (C : zOk x cX6_lay RX6 (some .int) (4) (88)) (hN : x.2.2.2.2.1 = 5) {k : Int → Hp → Prop} (E : zEnd x (zPi k x.2.1)) : ∀ (n : Nat) (v1 : Int) (v2 : Int) (v3 : Int) (v4 : Int) (σ : Hp), wX6_lay_45 k n v1 v2 v3 v4 σ → zV x σ 45 [(0, za x (0)), (1, .int (zI (v1))), (2, .int (zI (v2))), (3, .int (zI (v3))), (4, .int (zI (v4)))] [] := by
  intro n
  induction n with
  | zero => intro _ _ _ _ _ h; exact h.elim
  | succ n ih =>
    intro v1 v2 v3 v4 σ h
    unfold wX6_lay_45 at h
    refine z_iload C 4 dX6_lay_45 rfl ?_
    refine z_aload_n C 0 dX6_lay_47 rfl rfl ?_
    refine g_X6_2 C kf_X6_23 dX6_lay_48 ?_
    refine z_callV (av := fun w => []) C [.int (zI (v4))] cs_X5_length (by decide) (fun _ _ => rfl) rfl (mX5_length   σ _ h) km_X6_94 dX6_lay_51 rfl rfl ⟨rfl, rfl⟩ ⟨by decide, by decide⟩ (Nat.le_of_ble_eq_true rfl) (fun rv σ1 hp => ?_)
    obtain ⟨a2, rfl, h⟩ := hp
    change zV x σ1 54 [(0, za x (0)), (1, .int (zI (v1))), (2, .int (zI (v2))), (3, .int (zI (v3))), (4, .int (zI (v4)))] [.int (zI (a2)), .int (zI (v4))]
    obtain ⟨o3, h⟩ := h
    obtain ⟨o4, h⟩ := h
    refine z_icmp_ge C 92 dX6_lay_54 (by decide) o3 o4 (fun c5 => ?_) (fun c5 => ?_)
    · have h := h.1 c5
      refine z_iload_n C 3 dX6_lay_92 rfl rfl ?_
      exact z_iret C E dX6_lay_93 ⟨_, rfl, h⟩
    · have h := h.2 c5
      refine z_aload_n C 0 dX6_lay_57 rfl rfl ?_
      refine g_X6_2 C kf_X6_23 dX6_lay_58 ?_
      refine z_iload C 4 dX6_lay_61 rfl ?_
      refine z_callV (av := fun w => [.int (zI (v4))]) C [] cs_X5_endsRow (by decide) (fun _ _ => rfl) rfl (mX5_endsRow v4  σ1 _ h) km_X6_106 dX6_lay_63 rfl rfl ⟨rfl, rfl⟩ ⟨by decide, by decide⟩ (Nat.le_of_ble_eq_true rfl) (fun rv σ6 hp => ?_)
      obtain ⟨a7, rfl, h⟩ := hp
      change zV x σ6 66 [(0, za x (0)), (1, .int (zI (v1))), (2, .int (zI (v2))), (3, .int (zI (v3))), (4, .int (zI (v4)))] [.int (zI (a7))]
      obtain ⟨o8, h⟩ := h
      refine z_if_eq C 86 dX6_lay_66 (by decide) o8 (fun c9 => ?_) (fun c9 => ?_)
      · have h := h.1 c9
        refine z_iinc C 4 [(4, .int (zI (v4 + 1))), (0, za x (0)), (1, .int (zI (v1))), (2, .int (zI (v2))), (3, .int (zI (v3)))] dX6_lay_86 rfl (by rw [hN]; decide) rfl ?_
        refine z_goto C 45 dX6_lay_89 (by decide) ?_
        refine z_sub C [1, 2, 3, 4, 0] [(0, za x (0)), (1, .int (zI (v1))), (2, .int (zI (v2))), (3, .int (zI (v3))), (4, .int (zI (v4 + 1)))] rfl ?_
        exact ih v1 v2 v3 (v4 + 1)  σ6 h
      · have h := h.2 c9
        refine z_aload_n C 0 dX6_lay_69 rfl rfl ?_
        refine z_iload_n C 3 dX6_lay_70 rfl rfl ?_
        refine z_iload_n C 1 dX6_lay_71 rfl rfl ?_
        refine z_iload_n C 2 dX6_lay_72 rfl rfl ?_
        refine z_iload C 4 dX6_lay_73 rfl ?_
        refine z_callV (av := fun w => [.int (zI (v3)), .int (zI (v1)), .int (zI (v2)), .int (zI (v4))]) C [] cs_X6_layOne (by decide) (fun _ _ => rfl) rfl (mX6_layOne v3 v1 v2 v4  σ6 _ h) km_X6_109 dX6_lay_75 rfl rfl ⟨rfl, rfl⟩ ⟨by decide, by decide⟩ (Nat.le_of_ble_eq_true rfl) (fun rv σ10 hp => ?_)
        obtain ⟨rfl, h⟩ := hp
        change zV x σ10 78 [(0, za x (0)), (1, .int (zI (v1))), (2, .int (zI (v2))), (3, .int (zI (v3))), (4, .int (zI (v4)))] []
        refine z_iinc C 3 [(3, .int (zI (v3 + 1))), (0, za x (0)), (1, .int (zI (v1))), (2, .int (zI (v2))), (4, .int (zI (v4)))] dX6_lay_78 rfl (by rw [hN]; decide) rfl ?_
        refine z_iload C 4 dX6_lay_81 rfl ?_
        refine z_iconst C dX6_lay_83 ?_
        refine z_iadd C dX6_lay_84 ?_
        refine z_istore_n C [(2, .int (zI (v4 + 1))), (3, .int (zI (v3 + 1))), (0, za x (0)), (1, .int (zI (v1))), (4, .int (zI (v4)))] dX6_lay_85 rfl (by rw [hN]; decide) rfl ?_
        refine z_iinc C 4 [(4, .int (zI (v4 + 1))), (2, .int (zI (v4 + 1))), (3, .int (zI (v3 + 1))), (0, za x (0)), (1, .int (zI (v1)))] dX6_lay_86 rfl (by rw [hN]; decide) rfl ?_
        refine z_goto C 45 dX6_lay_89 (by decide) ?_
        refine z_sub C [3, 4, 1, 2, 0] [(0, za x (0)), (1, .int (zI (v1))), (2, .int (zI (v4 + 1))), (3, .int (zI (v3 + 1))), (4, .int (zI (v4 + 1)))] rfl ?_
        exact ih v1 (v4 + 1) (v3 + 1) (v4 + 1)  σ10 h
def wX6_lay (v1 : Int) (σ : Hp) (k : Int → Hp → Prop) : Prop :=
  wX6_within v1 1 12 σ (fun a2 σ1 => zrg a2 ∧ ((a2 ≠ 0 → wX5_firstFault  σ1 (fun a6 σ5 => zrg a6 ∧ ((a6 ≠ (-4) → k ((-2)) σ5) ∧ (¬ (a6 ≠ (-4)) → wX5_highestLine  σ5 (fun a10 σ9 => zrg a10 ∧ zrg v1 ∧ ((a10 < v1 → (∃ N14, wX6_lay_45 k N14 v1 0 0 0 σ9)) ∧ (¬ (a10 < v1) → k ((-2)) σ9))))))) ∧ (¬ (a2 ≠ 0) → k ((-1)) σ1)))
set_option maxRecDepth 100000 in
theorem mX6_lay (v1 : Int) (σ : Hp) (k : Int → Hp → Prop) (h : wX6_lay v1 σ k) (l : Launch) : zMt l yX6_lay cX6_lay 5 (some .int) { frames := 4, cells := 0, slots := 0, locals := 88 } (fun w => [.ref (w.2.1 (0)), .int (zI (v1))]) σ (zPi k) := by
  refine zMt_of (plainFor_of_name (by decide)) (fun w => Nat.le_of_ble_eq_true rfl) (fun x hl hN C E => ?_)
  change zV x σ 0 [(0, za x (0)), (1, .int (zI (v1)))] []
  change zOk x cX6_lay RX6 (some .int) (4) (88) at C
  unfold wX6_lay at h
  refine z_iload_n C 1 dX6_lay_0 rfl rfl ?_
  refine z_iconst C dX6_lay_1 ?_
  refine z_bipush C dX6_lay_2 rfl ?_
  refine z_callS (av := fun w => [.int (zI (v1)), .int (zI (1)), .int (zI (12))]) C [] cs_X6_within (mX6_within v1 1 12  σ _ h) km_X6_63 dX6_lay_4 rfl rfl ⟨rfl, rfl⟩ ⟨by decide, by decide⟩ (Nat.le_of_ble_eq_true rfl) (fun rv σ1 hp => ?_)
  obtain ⟨a2, rfl, h⟩ := hp
  change zV x σ1 7 [(0, za x (0)), (1, .int (zI (v1)))] [.int (zI (a2))]
  obtain ⟨o3, h⟩ := h
  refine z_if_ne C 12 dX6_lay_7 (by decide) o3 (fun c4 => ?_) (fun c4 => ?_)
  · have h := h.1 c4
    refine z_aload_n C 0 dX6_lay_12 rfl rfl ?_
    refine g_X6_2 C kf_X6_23 dX6_lay_13 ?_
    refine z_callV (av := fun w => []) C [] cs_X5_firstFault (by decide) (fun _ _ => rfl) rfl (mX5_firstFault   σ1 _ h) km_X6_100 dX6_lay_16 rfl rfl ⟨rfl, rfl⟩ ⟨by decide, by decide⟩ (Nat.le_of_ble_eq_true rfl) (fun rv σ5 hp => ?_)
    obtain ⟨a6, rfl, h⟩ := hp
    change zV x σ5 19 [(0, za x (0)), (1, .int (zI (v1)))] [.int (zI (a6))]
    refine z_bipush C dX6_lay_19 rfl ?_
    obtain ⟨o7, h⟩ := h
    refine z_icmp_ne C 35 dX6_lay_21 (by decide) o7 (zrg_d rfl) (fun c8 => ?_) (fun c8 => ?_)
    · have h := h.1 c8
      refine z_bipush C dX6_lay_35 rfl ?_
      exact z_iret C E dX6_lay_37 ⟨_, rfl, h⟩
    · have h := h.2 c8
      refine z_aload_n C 0 dX6_lay_24 rfl rfl ?_
      refine g_X6_2 C kf_X6_23 dX6_lay_25 ?_
      refine z_callV (av := fun w => []) C [] cs_X5_highestLine (by decide) (fun _ _ => rfl) rfl (mX5_highestLine   σ5 _ h) km_X6_103 dX6_lay_28 rfl rfl ⟨rfl, rfl⟩ ⟨by decide, by decide⟩ (Nat.le_of_ble_eq_true rfl) (fun rv σ9 hp => ?_)
      obtain ⟨a10, rfl, h⟩ := hp
      change zV x σ9 31 [(0, za x (0)), (1, .int (zI (v1)))] [.int (zI (a10))]
      refine z_iload_n C 1 dX6_lay_31 rfl rfl ?_
      obtain ⟨o11, h⟩ := h
      obtain ⟨o12, h⟩ := h
      refine z_icmp_lt C 38 dX6_lay_32 (by decide) o11 o12 (fun c13 => ?_) (fun c13 => ?_)
      · have h := h.1 c13
        refine z_iconst C dX6_lay_38 ?_
        refine z_istore_n C [(2, .int (zI (0))), (0, za x (0)), (1, .int (zI (v1)))] dX6_lay_39 rfl (by rw [hN]; decide) rfl ?_
        refine z_iconst C dX6_lay_40 ?_
        refine z_istore_n C [(3, .int (zI (0))), (2, .int (zI (0))), (0, za x (0)), (1, .int (zI (v1)))] dX6_lay_41 rfl (by rw [hN]; decide) rfl ?_
        refine z_iconst C dX6_lay_42 ?_
        refine z_istore C [(4, .int (zI (0))), (3, .int (zI (0))), (2, .int (zI (0))), (0, za x (0)), (1, .int (zI (v1)))] dX6_lay_43 (by rw [hN]; decide) rfl ?_
        refine z_sub C [3, 4, 2, 1, 0] [(0, za x (0)), (1, .int (zI (v1))), (2, .int (zI (0))), (3, .int (zI (0))), (4, .int (zI (0)))] rfl ?_
        obtain ⟨n14, h⟩ := h
        exact sX6_lay_45 C hN E n14 v1 0 0 0  σ9 h
      · have h := h.2 c13
        refine z_bipush C dX6_lay_35 rfl ?_
        exact z_iret C E dX6_lay_37 ⟨_, rfl, h⟩
  · have h := h.2 c4
    refine z_iconst C dX6_lay_10 ?_
    exact z_iret C E dX6_lay_11 ⟨_, rfl, h⟩
def wX6_turnInto_49 (k : Hp → Prop) (K14 : Nat → Nat → Int → Int → Int → Hp → Prop) : Nat → Nat → Nat → Int → Int → Int → Int → Int → Int → Hp → Prop
  | 0, _, _, _, _, _, _, _, _, _ => False
  | n + 1, r0, r1, v2, v3, v4, v5, v6, v7, σ => zrg v7 ∧ zrg (zand v2 3) ∧ ((zand v2 3 ≤ v7 → wX3_put r0 v5 v6 σ (fun σ4 => K14 r0 r1 v2 v3 (v4 + 1) σ4)) ∧ (¬ (zand v2 3 ≤ v7) → wX6_turnInto_49 k K14 n r0 r1 v2 v3 v4 v6 ((v3 - 1) - v5) (v7 + 1) σ))
set_option maxRecDepth 100000 in
theorem sX6_turnInto_49 {x : Cx} (C : zOk x cX6_turnInto RX6 (none) (2) (45)) (hN : x.2.2.2.2.1 = 9) {k : Hp → Prop} (E : zEnd x (zPv k x.2.1)) {K14 : Nat → Nat → Int → Int → Int → Hp → Prop} (H14 : ∀ (r0 : Nat) (r1 : Nat) (v2 : Int) (v3 : Int) (v4 : Int) (hr0 : r0 < 7) (hr1 : r1 < 7) (σ : Hp), K14 r0 r1 v2 v3 v4 σ → zV x σ 14 [(0, za x (29 + r0)), (1, za x (29 + r1)), (2, .int (zI (v2))), (3, .int (zI (v3))), (4, .int (zI (v4)))] []) : ∀ (n : Nat) (r0 : Nat) (r1 : Nat) (v2 : Int) (v3 : Int) (v4 : Int) (v5 : Int) (v6 : Int) (v7 : Int) (hr0 : r0 < 7) (hr1 : r1 < 7) (σ : Hp), wX6_turnInto_49 k K14 n r0 r1 v2 v3 v4 v5 v6 v7 σ → zV x σ 49 [(0, za x (29 + r0)), (1, za x (29 + r1)), (2, .int (zI (v2))), (3, .int (zI (v3))), (4, .int (zI (v4))), (5, .int (zI (v5))), (6, .int (zI (v6))), (7, .int (zI (v7)))] [] := by
  intro n
  induction n with
  | zero => intro _ _ _ _ _ _ _ _ _ _ _ h; exact h.elim
  | succ n ih =>
    intro r0 r1 v2 v3 v4 v5 v6 v7 hr0 hr1 σ h
    unfold wX6_turnInto_49 at h
    refine z_iload C 7 dX6_turnInto_49 rfl ?_
    refine z_iload_n C 2 dX6_turnInto_51 rfl rfl ?_
    refine z_iconst C dX6_turnInto_52 ?_
    refine z_iand C dX6_turnInto_53 ?_
    obtain ⟨o1, h⟩ := h
    obtain ⟨o2, h⟩ := h
    refine z_icmp_ge C 79 dX6_turnInto_54 (by decide) o1 o2 (fun c3 => ?_) (fun c3 => ?_)
    · have h := h.1 c3
      refine z_aload_n C 0 dX6_turnInto_79 rfl rfl ?_
      refine z_iload C 5 dX6_turnInto_80 rfl ?_
      refine z_iload C 6 dX6_turnInto_82 rfl ?_
      refine z_callV (av := fun w => [.int (zI (v5)), .int (zI (v6))]) C [] cs_X3_put (by have := hr0; omega) (zcell_row hr0) rfl (mX3_put r0 v5 v6 hr0 σ _ h) km_X6_83 dX6_turnInto_84 rfl rfl ⟨rfl, rfl⟩ ⟨by decide, by decide⟩ (Nat.le_of_ble_eq_true rfl) (fun rv σ4 hp => ?_)
      obtain ⟨rfl, h⟩ := hp
      change zV x σ4 87 [(0, za x (29 + r0)), (1, za x (29 + r1)), (2, .int (zI (v2))), (3, .int (zI (v3))), (4, .int (zI (v4))), (5, .int (zI (v5))), (6, .int (zI (v6))), (7, .int (zI (v7)))] []
      refine z_iinc C 4 [(4, .int (zI (v4 + 1))), (0, za x (29 + r0)), (1, za x (29 + r1)), (2, .int (zI (v2))), (3, .int (zI (v3))), (5, .int (zI (v5))), (6, .int (zI (v6))), (7, .int (zI (v7)))] dX6_turnInto_87 rfl (by rw [hN]; decide) rfl ?_
      refine z_goto C 14 dX6_turnInto_90 (by decide) ?_
      refine z_sub C [1, 2, 3, 4, 0] [(0, za x (29 + r0)), (1, za x (29 + r1)), (2, .int (zI (v2))), (3, .int (zI (v3))), (4, .int (zI (v4 + 1)))] rfl ?_
      exact H14 r0 r1 v2 v3 (v4 + 1) hr0 hr1 σ4 h
    · have h := h.2 c3
      refine z_iload C 5 dX6_turnInto_57 rfl ?_
      refine z_istore C [(8, .int (zI (v5))), (0, za x (29 + r0)), (1, za x (29 + r1)), (2, .int (zI (v2))), (3, .int (zI (v3))), (4, .int (zI (v4))), (5, .int (zI (v5))), (6, .int (zI (v6))), (7, .int (zI (v7)))] dX6_turnInto_59 (by rw [hN]; decide) rfl ?_
      refine z_iload C 7 dX6_turnInto_61 rfl ?_
      refine z_istore C [(5, .int (zI (v6))), (8, .int (zI (v5))), (0, za x (29 + r0)), (1, za x (29 + r1)), (2, .int (zI (v2))), (3, .int (zI (v3))), (4, .int (zI (v4))), (6, .int (zI (v6))), (7, .int (zI (v7)))] dX6_turnInto_63 (by rw [hN]; decide) rfl ?_
      refine z_iload_n C 5 dX6_turnInto_65 rfl rfl ?_
      refine z_iconst C dX6_turnInto_66 ?_
      refine z_isub C dX6_turnInto_67 ?_
      refine z_iload C 1 dX6_turnInto_68 rfl ?_
      refine z_isub C dX6_turnInto_70 ?_
      refine z_istore C [(6, .int (zI ((v3 - 1) - v5))), (5, .int (zI (v6))), (8, .int (zI (v5))), (0, za x (29 + r0)), (1, za x (29 + r1)), (2, .int (zI (v2))), (3, .int (zI (v3))), (4, .int (zI (v4))), (7, .int (zI (v7)))] dX6_turnInto_71 (by rw [hN]; decide) rfl ?_
      refine z_iinc C 8 [(7, .int (zI (v7 + 1))), (6, .int (zI ((v3 - 1) - v5))), (5, .int (zI (v6))), (8, .int (zI (v5))), (0, za x (29 + r0)), (1, za x (29 + r1)), (2, .int (zI (v2))), (3, .int (zI (v3))), (4, .int (zI (v4)))] dX6_turnInto_73 rfl (by rw [hN]; decide) rfl ?_
      refine z_goto C 49 dX6_turnInto_76 (by decide) ?_
      refine z_sub C [4, 5, 6, 7, 8, 2, 1, 0] [(0, za x (29 + r0)), (1, za x (29 + r1)), (2, .int (zI (v2))), (3, .int (zI (v3))), (4, .int (zI (v4))), (5, .int (zI (v6))), (6, .int (zI ((v3 - 1) - v5))), (7, .int (zI (v7 + 1)))] rfl ?_
      exact ih r0 r1 v2 v3 v4 v6 ((v3 - 1) - v5) (v7 + 1) hr0 hr1 σ h
def wX6_turnInto_36 (k : Hp → Prop) (K14 : Nat → Nat → Int → Int → Int → Hp → Prop) (r0 : Nat) (r1 : Nat) (v2 : Int) (v3 : Int) (v4 : Int) (t0 : Int) (σ : Hp) : Prop :=
  wX3_lineAt r1 v4 σ (fun a2 σ1 => (∃ N3, wX6_turnInto_49 k K14 N3 r0 r1 v2 v3 v4 t0 a2 0 σ1))
set_option maxRecDepth 100000 in
theorem sX6_turnInto_36 {x : Cx} (C : zOk x cX6_turnInto RX6 (none) (2) (45)) (hN : x.2.2.2.2.1 = 9) {k : Hp → Prop} (E : zEnd x (zPv k x.2.1)) {K14 : Nat → Nat → Int → Int → Int → Hp → Prop} (H14 : ∀ (r0 : Nat) (r1 : Nat) (v2 : Int) (v3 : Int) (v4 : Int) (hr0 : r0 < 7) (hr1 : r1 < 7) (σ : Hp), K14 r0 r1 v2 v3 v4 σ → zV x σ 14 [(0, za x (29 + r0)), (1, za x (29 + r1)), (2, .int (zI (v2))), (3, .int (zI (v3))), (4, .int (zI (v4)))] []) (r0 : Nat) (r1 : Nat) (v2 : Int) (v3 : Int) (v4 : Int) (t0 : Int) (hr0 : r0 < 7) (hr1 : r1 < 7) (σ : Hp) (h : wX6_turnInto_36 k K14 r0 r1 v2 v3 v4 t0 σ) : zV x σ 36 [(0, za x (29 + r0)), (1, za x (29 + r1)), (2, .int (zI (v2))), (3, .int (zI (v3))), (4, .int (zI (v4)))] [.int (zI (t0))] := by
  unfold wX6_turnInto_36 at h
  refine z_istore C [(5, .int (zI (t0))), (0, za x (29 + r0)), (1, za x (29 + r1)), (2, .int (zI (v2))), (3, .int (zI (v3))), (4, .int (zI (v4)))] dX6_turnInto_36 (by rw [hN]; decide) rfl ?_
  refine z_aload_n C 2 dX6_turnInto_38 rfl rfl ?_
  refine z_iload C 5 dX6_turnInto_39 rfl ?_
  refine z_callV (av := fun w => [.int (zI (v4))]) C [] cs_X3_lineAt (by have := hr1; omega) (zcell_row hr1) rfl (mX3_lineAt r1 v4 hr1 σ _ h) km_X6_119 dX6_turnInto_41 rfl rfl ⟨rfl, rfl⟩ ⟨by decide, by decide⟩ (Nat.le_of_ble_eq_true rfl) (fun rv σ1 hp => ?_)
  obtain ⟨a2, rfl, h⟩ := hp
  change zV x σ1 44 [(5, .int (zI (t0))), (0, za x (29 + r0)), (1, za x (29 + r1)), (2, .int (zI (v2))), (3, .int (zI (v3))), (4, .int (zI (v4)))] [.int (zI (a2))]
  refine z_istore C [(6, .int (zI (a2))), (5, .int (zI (t0))), (0, za x (29 + r0)), (1, za x (29 + r1)), (2, .int (zI (v2))), (3, .int (zI (v3))), (4, .int (zI (v4)))] dX6_turnInto_44 (by rw [hN]; decide) rfl ?_
  refine z_iconst C dX6_turnInto_46 ?_
  refine z_istore C [(7, .int (zI (0))), (6, .int (zI (a2))), (5, .int (zI (t0))), (0, za x (29 + r0)), (1, za x (29 + r1)), (2, .int (zI (v2))), (3, .int (zI (v3))), (4, .int (zI (v4)))] dX6_turnInto_47 (by rw [hN]; decide) rfl ?_
  refine z_sub C [3, 4, 5, 6, 7, 2, 1, 0] [(0, za x (29 + r0)), (1, za x (29 + r1)), (2, .int (zI (v2))), (3, .int (zI (v3))), (4, .int (zI (v4))), (5, .int (zI (t0))), (6, .int (zI (a2))), (7, .int (zI (0)))] rfl ?_
  obtain ⟨n3, h⟩ := h
  exact sX6_turnInto_49 C hN E H14 n3 r0 r1 v2 v3 v4 t0 a2 0 hr0 hr1 σ1 h
def wX6_turnInto_14 (k : Hp → Prop) : Nat → Nat → Nat → Int → Int → Int → Hp → Prop
  | 0, _, _, _, _, _, _ => False
  | n + 1, r0, r1, v2, v3, v4, σ => zrg v4 ∧ zrg v3 ∧ ((v3 ≤ v4 → k σ) ∧ (¬ (v3 ≤ v4) → zrg v2 ∧ ((v2 < 4 → wX6_turnInto_36 k (fun r0 r1 v2 v3 v4 σ => wX6_turnInto_14 k n r0 r1 v2 v3 v4 σ) r0 r1 v2 v3 v4 v4 σ) ∧ (¬ (v2 < 4) → wX6_turnInto_36 k (fun r0 r1 v2 v3 v4 σ => wX6_turnInto_14 k n r0 r1 v2 v3 v4 σ) r0 r1 v2 v3 v4 ((v3 - 1) - v4) σ))))
set_option maxRecDepth 100000 in
theorem sX6_turnInto_14 {x : Cx} (C : zOk x cX6_turnInto RX6 (none) (2) (45)) (hN : x.2.2.2.2.1 = 9) {k : Hp → Prop} (E : zEnd x (zPv k x.2.1)) : ∀ (n : Nat) (r0 : Nat) (r1 : Nat) (v2 : Int) (v3 : Int) (v4 : Int) (hr0 : r0 < 7) (hr1 : r1 < 7) (σ : Hp), wX6_turnInto_14 k n r0 r1 v2 v3 v4 σ → zV x σ 14 [(0, za x (29 + r0)), (1, za x (29 + r1)), (2, .int (zI (v2))), (3, .int (zI (v3))), (4, .int (zI (v4)))] [] := by
  intro n
  induction n with
  | zero => intro _ _ _ _ _ _ _ _ h; exact h.elim
  | succ n ih =>
    intro r0 r1 v2 v3 v4 hr0 hr1 σ h
    unfold wX6_turnInto_14 at h
    refine z_iload C 4 dX6_turnInto_14 rfl ?_
    refine z_iload_n C 3 dX6_turnInto_16 rfl rfl ?_
    obtain ⟨o1, h⟩ := h
    obtain ⟨o2, h⟩ := h
    refine z_icmp_ge C 93 dX6_turnInto_17 (by decide) o1 o2 (fun c3 => ?_) (fun c3 => ?_)
    · have h := h.1 c3
      exact z_vret C E dX6_turnInto_93 ⟨rfl, h⟩
    · have h := h.2 c3
      refine z_iload_n C 2 dX6_turnInto_20 rfl rfl ?_
      refine z_iconst C dX6_turnInto_21 ?_
      obtain ⟨o4, h⟩ := h
      refine z_icmp_lt C 34 dX6_turnInto_22 (by decide) o4 (zrg_d rfl) (fun c5 => ?_) (fun c5 => ?_)
      · have h := h.1 c5
        refine z_iload C 4 dX6_turnInto_34 rfl ?_
        exact sX6_turnInto_36 C hN E (by intro r0 r1 v2 v3 v4 hr0 hr1 σ h; exact ih r0 r1 v2 v3 v4 hr0 hr1 σ h) r0 r1 v2 v3 v4 v4 hr0 hr1 σ h
      · have h := h.2 c5
        refine z_iload_n C 3 dX6_turnInto_25 rfl rfl ?_
        refine z_iconst C dX6_turnInto_26 ?_
        refine z_isub C dX6_turnInto_27 ?_
        refine z_iload C 4 dX6_turnInto_28 rfl ?_
        refine z_isub C dX6_turnInto_30 ?_
        refine z_goto C 36 dX6_turnInto_31 (by decide) ?_
        exact sX6_turnInto_36 C hN E (by intro r0 r1 v2 v3 v4 hr0 hr1 σ h; exact ih r0 r1 v2 v3 v4 hr0 hr1 σ h) r0 r1 v2 v3 v4 ((v3 - 1) - v4) hr0 hr1 σ h
def wX6_turnInto (r0 : Nat) (r1 : Nat) (v2 : Int) (σ : Hp) (k : Hp → Prop) : Prop :=
  wX3_columns r1 σ (fun a2 σ1 => wX3_shape r0 a2 a2 σ1 (fun σ3 => (∃ N4, wX6_turnInto_14 k N4 r0 r1 v2 a2 0 σ3)))
set_option maxRecDepth 100000 in
theorem mX6_turnInto (r0 : Nat) (r1 : Nat) (v2 : Int) (hr0 : r0 < 7) (hr1 : r1 < 7) (σ : Hp) (k : Hp → Prop) (h : wX6_turnInto r0 r1 v2 σ k) (l : Launch) : zMt l yX6_turnInto cX6_turnInto 9 (none) { frames := 2, cells := 0, slots := 0, locals := 45 } (fun w => [.ref (w.2.1 (29 + r0)), .ref (w.2.1 (29 + r1)), .int (zI (v2))]) σ (zPv k) := by
  refine zMt_of (plainFor_of_name (by decide)) (fun w => Nat.le_of_ble_eq_true rfl) (fun x hl hN C E => ?_)
  change zV x σ 0 [(0, za x (29 + r0)), (1, za x (29 + r1)), (2, .int (zI (v2)))] []
  change zOk x cX6_turnInto RX6 (none) (2) (45) at C
  unfold wX6_turnInto at h
  refine z_aload_n C 1 dX6_turnInto_0 rfl rfl ?_
  refine z_callV (av := fun w => []) C [] cs_X3_columns (by have := hr1; omega) (zcell_row hr1) rfl (mX3_columns r1 hr1 σ _ h) km_X6_71 dX6_turnInto_1 rfl rfl ⟨rfl, rfl⟩ ⟨by decide, by decide⟩ (Nat.le_of_ble_eq_true rfl) (fun rv σ1 hp => ?_)
  obtain ⟨a2, rfl, h⟩ := hp
  change zV x σ1 4 [(0, za x (29 + r0)), (1, za x (29 + r1)), (2, .int (zI (v2)))] [.int (zI (a2))]
  refine z_istore_n C [(3, .int (zI (a2))), (0, za x (29 + r0)), (1, za x (29 + r1)), (2, .int (zI (v2)))] dX6_turnInto_4 rfl (by rw [hN]; decide) rfl ?_
  refine z_aload_n C 1 dX6_turnInto_5 rfl rfl ?_
  refine z_iload_n C 0 dX6_turnInto_6 rfl rfl ?_
  refine z_iload_n C 0 dX6_turnInto_7 rfl rfl ?_
  refine z_callV (av := fun w => [.int (zI (a2)), .int (zI (a2))]) C [] cs_X3_shape (by have := hr0; omega) (zcell_row hr0) rfl (mX3_shape r0 a2 a2 hr0 σ1 _ h) km_X6_75 dX6_turnInto_8 rfl rfl ⟨rfl, rfl⟩ ⟨by decide, by decide⟩ (Nat.le_of_ble_eq_true rfl) (fun rv σ3 hp => ?_)
  obtain ⟨rfl, h⟩ := hp
  change zV x σ3 11 [(3, .int (zI (a2))), (0, za x (29 + r0)), (1, za x (29 + r1)), (2, .int (zI (v2)))] []
  refine z_iconst C dX6_turnInto_11 ?_
  refine z_istore C [(4, .int (zI (0))), (3, .int (zI (a2))), (0, za x (29 + r0)), (1, za x (29 + r1)), (2, .int (zI (v2)))] dX6_turnInto_12 (by rw [hN]; decide) rfl ?_
  refine z_sub C [2, 3, 4, 1, 0] [(0, za x (29 + r0)), (1, za x (29 + r1)), (2, .int (zI (v2))), (3, .int (zI (a2))), (4, .int (zI (0)))] rfl ?_
  obtain ⟨n4, h⟩ := h
  exact sX6_turnInto_14 C hN E n4 r0 r1 v2 a2 0 hr0 hr1 σ3 h
def wX6_like_27 (k : Int → Hp → Prop) : Nat → Nat → Int → Int → Hp → Prop
  | 0, _, _, _, _ => False
  | n + 1, r2, v3, v4, σ => zrg v4 ∧ zrg (((8 : Nat) : Int)) ∧ ((((8 : Nat) : Int) ≤ v4 → k v3 σ) ∧ (¬ (((8 : Nat) : Int) ≤ v4) → wX6_turnInto 6 r2 v4 σ (fun σ4 => wX3_packed 6 σ4 (fun a6 σ5 => (0 ≤ v4 ∧ v4 < 8) ∧ wX6_isNewTurning v4 (zst σ5 16 v4.toNat a6) (fun a9 σ8 => zrg a9 ∧ ((a9 = 0 → wX6_like_27 k n r2 v3 (v4 + 1) σ8) ∧ (¬ (a9 = 0) → wX6_like_27 k n r2 (v3 + 1) (v4 + 1) σ8)))))))
set_option maxRecDepth 100000 in
theorem sX6_like_27 {x : Cx} (C : zOk x cX6_like RX6 (some .int) (3) (73)) (hN : x.2.2.2.2.1 = 5) {k : Int → Hp → Prop} (E : zEnd x (zPi k x.2.1)) : ∀ (n : Nat) (r2 : Nat) (v3 : Int) (v4 : Int) (hr2 : r2 < 7) (σ : Hp), wX6_like_27 k n r2 v3 v4 σ → zV x σ 27 [(0, za x (0)), (2, za x (29 + r2)), (3, .int (zI (v3))), (4, .int (zI (v4)))] [] := by
  intro n
  induction n with
  | zero => intro _ _ _ _ _ h; exact h.elim
  | succ n ih =>
    intro r2 v3 v4 hr2 σ h
    unfold wX6_like_27 at h
    refine z_iload C 3 dX6_like_27 rfl ?_
    refine z_aload_n C 0 dX6_like_29 rfl rfl ?_
    refine g_X6_7 C kf_X6_55 dX6_like_30 ?_
    refine z_alenL C ia_16 dX6_like_33 ?_
    obtain ⟨o1, h⟩ := h
    obtain ⟨o2, h⟩ := h
    refine z_icmp_ge C 79 dX6_like_34 (by decide) o1 o2 (fun c3 => ?_) (fun c3 => ?_)
    · have h := h.1 c3
      refine z_iload_n C 2 dX6_like_79 rfl rfl ?_
      exact z_iret C E dX6_like_80 ⟨_, rfl, h⟩
    · have h := h.2 c3
      refine z_aload_n C 0 dX6_like_37 rfl rfl ?_
      refine g_X6_1 C kf_X6_16 dX6_like_38 ?_
      refine z_aload_n C 1 dX6_like_41 rfl rfl ?_
      refine z_iload C 3 dX6_like_42 rfl ?_
      refine z_callS (av := fun w => [.ref (w.2.1 (29 + 6)), .ref (w.2.1 (29 + r2)), .int (zI (v4))]) C [] cs_X6_turnInto (mX6_turnInto 6 r2 v4 (by decide) hr2 σ _ h) km_X6_210 dX6_like_44 rfl rfl ⟨rfl, rfl⟩ ⟨by decide, by decide⟩ (Nat.le_of_ble_eq_true rfl) (fun rv σ4 hp => ?_)
      obtain ⟨rfl, h⟩ := hp
      change zV x σ4 47 [(0, za x (0)), (2, za x (29 + r2)), (3, .int (zI (v3))), (4, .int (zI (v4)))] []
      refine z_aload_n C 0 dX6_like_47 rfl rfl ?_
      refine g_X6_7 C kf_X6_55 dX6_like_48 ?_
      refine z_iload C 3 dX6_like_51 rfl ?_
      refine z_aload_n C 0 dX6_like_53 rfl rfl ?_
      refine g_X6_1 C kf_X6_16 dX6_like_54 ?_
      refine z_callV (av := fun w => []) C [.int (zI (v4)), za x (16)] cs_X3_packed (by decide) (zcell_row (by decide)) rfl (mX3_packed 6 (by decide) σ4 _ h) km_X6_125 dX6_like_57 rfl rfl ⟨rfl, rfl⟩ ⟨by decide, by decide⟩ (Nat.le_of_ble_eq_true rfl) (fun rv σ5 hp => ?_)
      obtain ⟨a6, rfl, h⟩ := hp
      change zV x σ5 60 [(0, za x (0)), (2, za x (29 + r2)), (3, .int (zI (v3))), (4, .int (zI (v4)))] [.long (zJ (a6)), .int (zI (v4)), za x (16)]
      obtain ⟨o7, h⟩ := h
      refine z_last C ia_16 dX6_like_60 o7.1 o7.2 ?_
      refine z_aload_n C 0 dX6_like_61 rfl rfl ?_
      refine z_iload C 3 dX6_like_62 rfl ?_
      refine z_callV (av := fun w => [.int (zI (v4))]) C [] cs_X6_isNewTurning (by decide) (fun _ _ => rfl) rfl (mX6_isNewTurning v4  (zst σ5 16 v4.toNat a6) _ h) km_X6_217 dX6_like_64 rfl rfl ⟨rfl, rfl⟩ ⟨by decide, by decide⟩ (Nat.le_of_ble_eq_true rfl) (fun rv σ8 hp => ?_)
      obtain ⟨a9, rfl, h⟩ := hp
      change zV x σ8 67 [(0, za x (0)), (2, za x (29 + r2)), (3, .int (zI (v3))), (4, .int (zI (v4)))] [.int (zI (a9))]
      obtain ⟨o10, h⟩ := h
      refine z_if_eq C 73 dX6_like_67 (by decide) o10 (fun c11 => ?_) (fun c11 => ?_)
      · have h := h.1 c11
        refine z_iinc C 3 [(4, .int (zI (v4 + 1))), (0, za x (0)), (2, za x (29 + r2)), (3, .int (zI (v3)))] dX6_like_73 rfl (by rw [hN]; decide) rfl ?_
        refine z_goto C 27 dX6_like_76 (by decide) ?_
        refine z_sub C [1, 2, 3, 0] [(0, za x (0)), (2, za x (29 + r2)), (3, .int (zI (v3))), (4, .int (zI (v4 + 1)))] rfl ?_
        exact ih r2 v3 (v4 + 1) hr2 σ8 h
      · have h := h.2 c11
        refine z_iinc C 2 [(3, .int (zI (v3 + 1))), (0, za x (0)), (2, za x (29 + r2)), (4, .int (zI (v4)))] dX6_like_70 rfl (by rw [hN]; decide) rfl ?_
        refine z_iinc C 3 [(4, .int (zI (v4 + 1))), (3, .int (zI (v3 + 1))), (0, za x (0)), (2, za x (29 + r2))] dX6_like_73 rfl (by rw [hN]; decide) rfl ?_
        refine z_goto C 27 dX6_like_76 (by decide) ?_
        refine z_sub C [2, 3, 1, 0] [(0, za x (0)), (2, za x (29 + r2)), (3, .int (zI (v3 + 1))), (4, .int (zI (v4 + 1)))] rfl ?_
        exact ih r2 (v3 + 1) (v4 + 1) hr2 σ8 h
def wX6_like (v1 : Int) (σ : Hp) (k : Int → Hp → Prop) : Prop :=
  wX6_rowAt v1 σ (fun w8 σ1 => (w8 = none → k ((-1)) σ1) ∧ ∀ q2, w8 = some q2 → wX3_isSquare q2 σ1 (fun a4 σ3 => zrg a4 ∧ ((a4 ≠ 0 → (∃ N7, wX6_like_27 k N7 q2 0 0 σ3)) ∧ (¬ (a4 ≠ 0) → k ((-2)) σ3))))
set_option maxRecDepth 100000 in
theorem mX6_like (v1 : Int) (σ : Hp) (k : Int → Hp → Prop) (h : wX6_like v1 σ k) (l : Launch) : zMt l yX6_like cX6_like 5 (some .int) { frames := 3, cells := 0, slots := 0, locals := 73 } (fun w => [.ref (w.2.1 (0)), .int (zI (v1))]) σ (zPi k) := by
  refine zMt_of (plainFor_of_name (by decide)) (fun w => Nat.le_of_ble_eq_true rfl) (fun x hl hN C E => ?_)
  change zV x σ 0 [(0, za x (0)), (1, .int (zI (v1)))] []
  change zOk x cX6_like RX6 (some .int) (3) (73) at C
  unfold wX6_like at h
  refine z_aload_n C 0 dX6_like_0 rfl rfl ?_
  refine z_iload_n C 1 dX6_like_1 rfl rfl ?_
  refine z_callV (av := fun w => [.int (zI (v1))]) C [] cs_X6_rowAt (by decide) (fun _ _ => rfl) rfl (mX6_rowAt v1  σ _ h) km_X6_59 dX6_like_2 rfl rfl ⟨rfl, rfl⟩ ⟨by decide, by decide⟩ (Nat.le_of_ble_eq_true rfl) (fun rv σ1 hp => ?_)
  rcases hp with ⟨rfl, h⟩ | ⟨q2, hq2, rfl, h⟩
  · have h := h.1 rfl
    change zV x σ1 5 [(0, za x (0)), (1, .int (zI (v1)))] [.null]
    refine z_astore_nN C [(2, .null), (0, za x (0)), (1, .int (zI (v1)))] dX6_like_5 rfl (by rw [hN]; decide) rfl ?_
    refine z_aload_nN C 0 dX6_like_6 rfl rfl ?_
    refine z_ifnonnullN C dX6_like_7 ?_
    refine z_iconst C dX6_like_10 ?_
    exact z_iret C E dX6_like_11 ⟨_, rfl, h⟩
  · have h := h.2 q2 rfl
    change zV x σ1 5 [(0, za x (0)), (1, .int (zI (v1)))] [za x (29 + q2)]
    refine z_astore_n C [(2, za x (29 + q2)), (0, za x (0)), (1, .int (zI (v1)))] dX6_like_5 rfl (by rw [hN]; decide) rfl ?_
    refine z_aload_n C 0 dX6_like_6 rfl rfl ?_
    refine z_ifnonnull C 12 dX6_like_7 (by decide) ?_
    refine z_aload_n C 0 dX6_like_12 rfl rfl ?_
    refine z_callV (av := fun w => []) C [] cs_X3_isSquare (by have := hq2; omega) (zcell_row hq2) rfl (mX3_isSquare q2 hq2 σ1 _ h) km_X6_206 dX6_like_13 rfl rfl ⟨rfl, rfl⟩ ⟨by decide, by decide⟩ (Nat.le_of_ble_eq_true rfl) (fun rv σ3 hp => ?_)
    obtain ⟨a4, rfl, h⟩ := hp
    change zV x σ3 16 [(2, za x (29 + q2)), (0, za x (0)), (1, .int (zI (v1)))] [.int (zI (a4))]
    obtain ⟨o5, h⟩ := h
    refine z_if_ne C 22 dX6_like_16 (by decide) o5 (fun c6 => ?_) (fun c6 => ?_)
    · have h := h.1 c6
      refine z_iconst C dX6_like_22 ?_
      refine z_istore_n C [(3, .int (zI (0))), (2, za x (29 + q2)), (0, za x (0)), (1, .int (zI (v1)))] dX6_like_23 rfl (by rw [hN]; decide) rfl ?_
      refine z_iconst C dX6_like_24 ?_
      refine z_istore C [(4, .int (zI (0))), (3, .int (zI (0))), (2, za x (29 + q2)), (0, za x (0)), (1, .int (zI (v1)))] dX6_like_25 (by rw [hN]; decide) rfl ?_
      refine z_sub C [3, 2, 1, 0] [(0, za x (0)), (2, za x (29 + q2)), (3, .int (zI (0))), (4, .int (zI (0)))] rfl ?_
      obtain ⟨n7, h⟩ := h
      exact sX6_like_27 C hN E n7 q2 0 0 hq2 σ3 h
    · have h := h.2 c6
      refine z_bipush C dX6_like_19 rfl ?_
      exact z_iret C E dX6_like_21 ⟨_, rfl, h⟩
def wX6_longest_23 (k : Int → Hp → Prop) : Nat → Int → Int → Int → Int → Hp → Prop
  | 0, _, _, _, _, _ => False
  | n + 1, v1, v2, v3, v4, σ => zrg v4 ∧ ((12 < v4 → k v3 σ) ∧ (¬ (12 < v4) → wX4_amongRows v4 v1 v2 σ (fun σ3 => wX4_reach 0 σ3 (fun a5 σ4 => zrg a5 ∧ ((a5 ≠ 0 → wX6_longest_23 k n v1 v2 v4 (v4 + 1) σ4) ∧ (¬ (a5 ≠ 0) → k v3 σ4))))))
set_option maxRecDepth 100000 in
theorem sX6_longest_23 {x : Cx} (C : zOk x cX6_longest RX6 (some .int) (19) (444)) (hN : x.2.2.2.2.1 = 5) {k : Int → Hp → Prop} (E : zEnd x (zPi k x.2.1)) : ∀ (n : Nat) (v1 : Int) (v2 : Int) (v3 : Int) (v4 : Int) (σ : Hp), wX6_longest_23 k n v1 v2 v3 v4 σ → zV x σ 23 [(0, za x (0)), (1, .int (zI (v1))), (2, .int (zI (v2))), (3, .int (zI (v3))), (4, .int (zI (v4)))] [] := by
  intro n
  induction n with
  | zero => intro _ _ _ _ _ h; exact h.elim
  | succ n ih =>
    intro v1 v2 v3 v4 σ h
    unfold wX6_longest_23 at h
    refine z_iload C 4 dX6_longest_23 rfl ?_
    refine z_bipush C dX6_longest_25 rfl ?_
    obtain ⟨o1, h⟩ := h
    refine z_icmp_gt C 64 dX6_longest_27 (by decide) o1 (zrg_d rfl) (fun c2 => ?_) (fun c2 => ?_)
    · have h := h.1 c2
      refine z_iload_n C 3 dX6_longest_64 rfl rfl ?_
      exact z_iret C E dX6_longest_65 ⟨_, rfl, h⟩
    · have h := h.2 c2
      refine z_aload_n C 0 dX6_longest_30 rfl rfl ?_
      refine g_X6_4 C kf_X6_37 dX6_longest_31 ?_
      refine z_iload C 4 dX6_longest_34 rfl ?_
      refine z_iload_n C 1 dX6_longest_36 rfl rfl ?_
      refine z_iload_n C 2 dX6_longest_37 rfl rfl ?_
      refine z_callV (av := fun w => [.int (zI (v4)), .int (zI (v1)), .int (zI (v2))]) C [] cs_X4_amongRows (by decide) (fun _ _ => rfl) rfl (mX4_amongRows v4 v1 v2  σ _ h) km_X6_183 dX6_longest_38 rfl rfl ⟨rfl, rfl⟩ ⟨by decide, by decide⟩ (Nat.le_of_ble_eq_true rfl) (fun rv σ3 hp => ?_)
      obtain ⟨rfl, h⟩ := hp
      change zV x σ3 41 [(0, za x (0)), (1, .int (zI (v1))), (2, .int (zI (v2))), (3, .int (zI (v3))), (4, .int (zI (v4)))] []
      refine z_aload_n C 0 dX6_longest_41 rfl rfl ?_
      refine g_X6_4 C kf_X6_37 dX6_longest_42 ?_
      refine z_iconst C dX6_longest_45 ?_
      refine z_callV (av := fun w => [.int (zI (0))]) C [] cs_X4_reach (by decide) (fun _ _ => rfl) rfl (mX4_reach 0  σ3 _ h) km_X6_187 dX6_longest_46 rfl rfl ⟨rfl, rfl⟩ ⟨by decide, by decide⟩ (Nat.le_of_ble_eq_true rfl) (fun rv σ4 hp => ?_)
      obtain ⟨a5, rfl, h⟩ := hp
      change zV x σ4 49 [(0, za x (0)), (1, .int (zI (v1))), (2, .int (zI (v2))), (3, .int (zI (v3))), (4, .int (zI (v4)))] [.int (zI (a5))]
      obtain ⟨o6, h⟩ := h
      refine z_if_ne C 55 dX6_longest_49 (by decide) o6 (fun c7 => ?_) (fun c7 => ?_)
      · have h := h.1 c7
        refine z_iload C 4 dX6_longest_55 rfl ?_
        refine z_istore_n C [(3, .int (zI (v4))), (0, za x (0)), (1, .int (zI (v1))), (2, .int (zI (v2))), (4, .int (zI (v4)))] dX6_longest_57 rfl (by rw [hN]; decide) rfl ?_
        refine z_iinc C 4 [(4, .int (zI (v4 + 1))), (3, .int (zI (v4))), (0, za x (0)), (1, .int (zI (v1))), (2, .int (zI (v2)))] dX6_longest_58 rfl (by rw [hN]; decide) rfl ?_
        refine z_goto C 23 dX6_longest_61 (by decide) ?_
        refine z_sub C [2, 3, 4, 1, 0] [(0, za x (0)), (1, .int (zI (v1))), (2, .int (zI (v2))), (3, .int (zI (v4))), (4, .int (zI (v4 + 1)))] rfl ?_
        exact ih v1 v2 v4 (v4 + 1)  σ4 h
      · have h := h.2 c7
        refine z_goto C 64 dX6_longest_52 (by decide) ?_
        refine z_iload_n C 3 dX6_longest_64 rfl rfl ?_
        exact z_iret C E dX6_longest_65 ⟨_, rfl, h⟩
def wX6_longest (v1 : Int) (v2 : Int) (σ : Hp) (k : Int → Hp → Prop) : Prop :=
  wX6_within v1 1 4 σ (fun a2 σ1 => zrg a2 ∧ ((a2 = 0 → k ((-1)) σ1) ∧ (¬ (a2 = 0) → wX6_isKind v2 σ1 (fun a6 σ5 => zrg a6 ∧ ((a6 ≠ 0 → (∃ N9, wX6_longest_23 k N9 v1 v2 0 1 σ5)) ∧ (¬ (a6 ≠ 0) → k ((-1)) σ5))))))
set_option maxRecDepth 100000 in
theorem mX6_longest (v1 : Int) (v2 : Int) (σ : Hp) (k : Int → Hp → Prop) (h : wX6_longest v1 v2 σ k) (l : Launch) : zMt l yX6_longest cX6_longest 5 (some .int) { frames := 19, cells := 0, slots := 0, locals := 444 } (fun w => [.ref (w.2.1 (0)), .int (zI (v1)), .int (zI (v2))]) σ (zPi k) := by
  refine zMt_of (plainFor_of_name (by decide)) (fun w => Nat.le_of_ble_eq_true rfl) (fun x hl hN C E => ?_)
  change zV x σ 0 [(0, za x (0)), (1, .int (zI (v1))), (2, .int (zI (v2)))] []
  change zOk x cX6_longest RX6 (some .int) (19) (444) at C
  unfold wX6_longest at h
  refine z_iload_n C 1 dX6_longest_0 rfl rfl ?_
  refine z_iconst C dX6_longest_1 ?_
  refine z_iconst C dX6_longest_2 ?_
  refine z_callS (av := fun w => [.int (zI (v1)), .int (zI (1)), .int (zI (4))]) C [] cs_X6_within (mX6_within v1 1 4  σ _ h) km_X6_63 dX6_longest_3 rfl rfl ⟨rfl, rfl⟩ ⟨by decide, by decide⟩ (Nat.le_of_ble_eq_true rfl) (fun rv σ1 hp => ?_)
  obtain ⟨a2, rfl, h⟩ := hp
  change zV x σ1 6 [(0, za x (0)), (1, .int (zI (v1))), (2, .int (zI (v2)))] [.int (zI (a2))]
  obtain ⟨o3, h⟩ := h
  refine z_if_eq C 16 dX6_longest_6 (by decide) o3 (fun c4 => ?_) (fun c4 => ?_)
  · have h := h.1 c4
    refine z_iconst C dX6_longest_16 ?_
    exact z_iret C E dX6_longest_17 ⟨_, rfl, h⟩
  · have h := h.2 c4
    refine z_iload_n C 2 dX6_longest_9 rfl rfl ?_
    refine z_callS (av := fun w => [.int (zI (v2))]) C [] cs_X6_isKind (mX6_isKind v2  σ1 _ h) km_X6_129 dX6_longest_10 rfl rfl ⟨rfl, rfl⟩ ⟨by decide, by decide⟩ (Nat.le_of_ble_eq_true rfl) (fun rv σ5 hp => ?_)
    obtain ⟨a6, rfl, h⟩ := hp
    change zV x σ5 13 [(0, za x (0)), (1, .int (zI (v1))), (2, .int (zI (v2)))] [.int (zI (a6))]
    obtain ⟨o7, h⟩ := h
    refine z_if_ne C 18 dX6_longest_13 (by decide) o7 (fun c8 => ?_) (fun c8 => ?_)
    · have h := h.1 c8
      refine z_iconst C dX6_longest_18 ?_
      refine z_istore_n C [(3, .int (zI (0))), (0, za x (0)), (1, .int (zI (v1))), (2, .int (zI (v2)))] dX6_longest_19 rfl (by rw [hN]; decide) rfl ?_
      refine z_iconst C dX6_longest_20 ?_
      refine z_istore C [(4, .int (zI (1))), (3, .int (zI (0))), (0, za x (0)), (1, .int (zI (v1))), (2, .int (zI (v2)))] dX6_longest_21 (by rw [hN]; decide) rfl ?_
      refine z_sub C [2, 3, 4, 1, 0] [(0, za x (0)), (1, .int (zI (v1))), (2, .int (zI (v2))), (3, .int (zI (0))), (4, .int (zI (1)))] rfl ?_
      obtain ⟨n9, h⟩ := h
      exact sX6_longest_23 C hN E n9 v1 v2 0 1  σ5 h
    · have h := h.2 c8
      refine z_iconst C dX6_longest_16 ?_
      exact z_iret C E dX6_longest_17 ⟨_, rfl, h⟩
def wX6_marks (v1 : Int) (σ : Hp) (k : Int → Hp → Prop) : Prop :=
  wX6_rowAt v1 σ (fun w5 σ1 => (w5 = none → k ((-1)) σ1) ∧ ∀ q2, w5 = some q2 → wX3_packed q2 σ1 (fun a4 σ3 => k a4 σ3))
set_option maxRecDepth 100000 in
theorem mX6_marks (v1 : Int) (σ : Hp) (k : Int → Hp → Prop) (h : wX6_marks v1 σ k) (l : Launch) : zMt l yX6_marks cX6_marks 3 (some .long) { frames := 3, cells := 0, slots := 0, locals := 66 } (fun w => [.ref (w.2.1 (0)), .int (zI (v1))]) σ (zPl k) := by
  refine zMt_of (plainFor_of_name (by decide)) (fun w => Nat.le_of_ble_eq_true rfl) (fun x hl hN C E => ?_)
  change zV x σ 0 [(0, za x (0)), (1, .int (zI (v1)))] []
  change zOk x cX6_marks RX6 (some .long) (3) (66) at C
  unfold wX6_marks at h
  refine z_aload_n C 0 dX6_marks_0 rfl rfl ?_
  refine z_iload_n C 1 dX6_marks_1 rfl rfl ?_
  refine z_callV (av := fun w => [.int (zI (v1))]) C [] cs_X6_rowAt (by decide) (fun _ _ => rfl) rfl (mX6_rowAt v1  σ _ h) km_X6_59 dX6_marks_2 rfl rfl ⟨rfl, rfl⟩ ⟨by decide, by decide⟩ (Nat.le_of_ble_eq_true rfl) (fun rv σ1 hp => ?_)
  rcases hp with ⟨rfl, h⟩ | ⟨q2, hq2, rfl, h⟩
  · have h := h.1 rfl
    change zV x σ1 5 [(0, za x (0)), (1, .int (zI (v1)))] [.null]
    refine z_astore_nN C [(2, .null), (0, za x (0)), (1, .int (zI (v1)))] dX6_marks_5 rfl (by rw [hN]; decide) rfl ?_
    refine z_aload_nN C 0 dX6_marks_6 rfl rfl ?_
    refine z_ifnonnullN C dX6_marks_7 ?_
    refine z_ldc2 (z := -1) C kl_X6_123 rfl dX6_marks_10 ?_
    refine z_goto C 20 dX6_marks_13 (by decide) ?_
    exact z_lret C E dX6_marks_20 ⟨_, rfl, h⟩
  · have h := h.2 q2 rfl
    change zV x σ1 5 [(0, za x (0)), (1, .int (zI (v1)))] [za x (29 + q2)]
    refine z_astore_n C [(2, za x (29 + q2)), (0, za x (0)), (1, .int (zI (v1)))] dX6_marks_5 rfl (by rw [hN]; decide) rfl ?_
    refine z_aload_n C 0 dX6_marks_6 rfl rfl ?_
    refine z_ifnonnull C 16 dX6_marks_7 (by decide) ?_
    refine z_aload_n C 0 dX6_marks_16 rfl rfl ?_
    refine z_callV (av := fun w => []) C [] cs_X3_packed (by have := hq2; omega) (zcell_row hq2) rfl (mX3_packed q2 hq2 σ1 _ h) km_X6_125 dX6_marks_17 rfl rfl ⟨rfl, rfl⟩ ⟨by decide, by decide⟩ (Nat.le_of_ble_eq_true rfl) (fun rv σ3 hp => ?_)
    obtain ⟨a4, rfl, h⟩ := hp
    change zV x σ3 20 [(2, za x (29 + q2)), (0, za x (0)), (1, .int (zI (v1)))] [.long (zJ (a4))]
    exact z_lret C E dX6_marks_20 ⟨_, rfl, h⟩
def wX6_most_54 (k : Int → Hp → Prop) (v3 : Int) (t0 : Int) (s1 : Nat) (s2 : Nat) (σ : Hp) : Prop :=
  wX1_lookAt s2 s1 t0 σ (fun σ1 => zrg v3 ∧ (v3 < 0 ∨ 2 < v3 → wX1_sumOfSquares  σ1 (fun a5 σ4 => k a5 σ4)) ∧ (v3 = 0 → wX1_bestMeeting  σ1 (fun a7 σ6 => k a7 σ6)) ∧ (v3 = 1 → wX1_bestDx  σ1 (fun a9 σ8 => k a9 σ8)) ∧ (v3 = 2 → wX1_bestDy  σ1 (fun a11 σ10 => k a11 σ10)))
set_option maxRecDepth 100000 in
theorem sX6_most_54 {x : Cx} (C : zOk x cX6_most RX6 (some .int) (5) (114)) (hN : x.2.2.2.2.1 = 6) {k : Int → Hp → Prop} (E : zEnd x (zPi k x.2.1)) (v3 : Int) (t0 : Int) (s1 : Nat) (s2 : Nat) (hs1 : s1 < 7) (hs2 : s2 < 7) (σ : Hp) (h : wX6_most_54 k v3 t0 s1 s2 σ) : zV x σ 54 [(0, za x (0)), (3, .int (zI (v3)))] [.int (zI (t0)), za x (29 + s1), za x (29 + s2), za x (4)] := by
  unfold wX6_most_54 at h
  refine z_callV (av := fun w => [.ref (w.2.1 (29 + s2)), .ref (w.2.1 (29 + s1)), .int (zI (t0))]) C [] cs_X1_lookAt (by decide) (fun _ _ => rfl) rfl (mX1_lookAt s2 s1 t0 hs2 hs1 σ _ h) km_X6_153 dX6_most_54 rfl rfl ⟨rfl, rfl⟩ ⟨by decide, by decide⟩ (Nat.le_of_ble_eq_true rfl) (fun rv σ1 hp => ?_)
  obtain ⟨rfl, h⟩ := hp
  change zV x σ1 57 [(0, za x (0)), (3, .int (zI (v3)))] []
  refine z_iload_n C 1 dX6_most_57 rfl rfl ?_
  obtain ⟨o2, h⟩ := h
  by_cases c3 : v3 < 0 ∨ 2 < v3
  · have h := h.1 c3
    refine z_tabOut C 108 dX6_most_58 o2 c3 (by decide) ?_
    refine z_aload_n C 0 dX6_most_108 rfl rfl ?_
    refine g_X6_3 C kf_X6_30 dX6_most_109 ?_
    refine z_callV (av := fun w => []) C [] cs_X1_sumOfSquares (by decide) (fun _ _ => rfl) rfl (mX1_sumOfSquares   σ1 _ h) km_X6_166 dX6_most_112 rfl rfl ⟨rfl, rfl⟩ ⟨by decide, by decide⟩ (Nat.le_of_ble_eq_true rfl) (fun rv σ4 hp => ?_)
    obtain ⟨a5, rfl, h⟩ := hp
    change zV x σ4 115 [(0, za x (0)), (3, .int (zI (v3)))] [.int (zI (a5))]
    exact z_iret C E dX6_most_115 ⟨_, rfl, h⟩
  · have h := h.2
    rcases (show v3 = 0 ∨ v3 = 1 ∨ v3 = 2 by omega) with c3 | c3 | c3
    · have h := h.1 c3
      refine z_tabIn C 84 dX6_most_58 o2 (by omega) (by omega) (by rw [c3]; rfl) (by decide) ?_
      refine z_aload_n C 0 dX6_most_84 rfl rfl ?_
      refine g_X6_3 C kf_X6_30 dX6_most_85 ?_
      refine z_callV (av := fun w => []) C [] cs_X1_bestMeeting (by decide) (fun _ _ => rfl) rfl (mX1_bestMeeting   σ1 _ h) km_X6_157 dX6_most_88 rfl rfl ⟨rfl, rfl⟩ ⟨by decide, by decide⟩ (Nat.le_of_ble_eq_true rfl) (fun rv σ6 hp => ?_)
      obtain ⟨a7, rfl, h⟩ := hp
      change zV x σ6 91 [(0, za x (0)), (3, .int (zI (v3)))] [.int (zI (a7))]
      exact z_iret C E dX6_most_91 ⟨_, rfl, h⟩
    · have h := h.2.1 c3
      refine z_tabIn C 92 dX6_most_58 o2 (by omega) (by omega) (by rw [c3]; rfl) (by decide) ?_
      refine z_aload_n C 0 dX6_most_92 rfl rfl ?_
      refine g_X6_3 C kf_X6_30 dX6_most_93 ?_
      refine z_callV (av := fun w => []) C [] cs_X1_bestDx (by decide) (fun _ _ => rfl) rfl (mX1_bestDx   σ1 _ h) km_X6_160 dX6_most_96 rfl rfl ⟨rfl, rfl⟩ ⟨by decide, by decide⟩ (Nat.le_of_ble_eq_true rfl) (fun rv σ8 hp => ?_)
      obtain ⟨a9, rfl, h⟩ := hp
      change zV x σ8 99 [(0, za x (0)), (3, .int (zI (v3)))] [.int (zI (a9))]
      exact z_iret C E dX6_most_99 ⟨_, rfl, h⟩
    · have h := h.2.2 c3
      refine z_tabIn C 100 dX6_most_58 o2 (by omega) (by omega) (by rw [c3]; rfl) (by decide) ?_
      refine z_aload_n C 0 dX6_most_100 rfl rfl ?_
      refine g_X6_3 C kf_X6_30 dX6_most_101 ?_
      refine z_callV (av := fun w => []) C [] cs_X1_bestDy (by decide) (fun _ _ => rfl) rfl (mX1_bestDy   σ1 _ h) km_X6_163 dX6_most_104 rfl rfl ⟨rfl, rfl⟩ ⟨by decide, by decide⟩ (Nat.le_of_ble_eq_true rfl) (fun rv σ10 hp => ?_)
      obtain ⟨a11, rfl, h⟩ := hp
      change zV x σ10 107 [(0, za x (0)), (3, .int (zI (v3)))] [.int (zI (a11))]
      exact z_iret C E dX6_most_107 ⟨_, rfl, h⟩
def wX6_most (v1 : Int) (v2 : Int) (v3 : Int) (σ : Hp) (k : Int → Hp → Prop) : Prop :=
  wX6_rowAt v1 σ (fun w16 σ1 => (w16 = none → wX6_rowAt v2 σ1 (fun w5 σ3 => (w5 = none → k ((-100)) σ3) ∧ ∀ q4, w5 = some q4 → k ((-100)) σ3)) ∧ ∀ q2, w16 = some q2 → wX6_rowAt v2 σ1 (fun w15 σ6 => (w15 = none → k ((-100)) σ6) ∧ ∀ q7, w15 = some q7 → wX6_within v3 0 3 σ6 (fun a9 σ8 => zrg a9 ∧ ((a9 ≠ 0 → zrg v1 ∧ zrg v2 ∧ ((v1 ≠ v2 → wX6_most_54 k v3 0 q7 q2 σ8) ∧ (¬ (v1 ≠ v2) → wX6_most_54 k v3 1 q7 q2 σ8))) ∧ (¬ (a9 ≠ 0) → k ((-100)) σ8)))))
set_option maxRecDepth 100000 in
theorem mX6_most (v1 : Int) (v2 : Int) (v3 : Int) (σ : Hp) (k : Int → Hp → Prop) (h : wX6_most v1 v2 v3 σ k) (l : Launch) : zMt l yX6_most cX6_most 6 (some .int) { frames := 5, cells := 0, slots := 0, locals := 114 } (fun w => [.ref (w.2.1 (0)), .int (zI (v1)), .int (zI (v2)), .int (zI (v3))]) σ (zPi k) := by
  refine zMt_of (plainFor_of_name (by decide)) (fun w => Nat.le_of_ble_eq_true rfl) (fun x hl hN C E => ?_)
  change zV x σ 0 [(0, za x (0)), (1, .int (zI (v1))), (2, .int (zI (v2))), (3, .int (zI (v3)))] []
  change zOk x cX6_most RX6 (some .int) (5) (114) at C
  unfold wX6_most at h
  refine z_aload_n C 0 dX6_most_0 rfl rfl ?_
  refine z_iload_n C 1 dX6_most_1 rfl rfl ?_
  refine z_callV (av := fun w => [.int (zI (v1))]) C [] cs_X6_rowAt (by decide) (fun _ _ => rfl) rfl (mX6_rowAt v1  σ _ h) km_X6_59 dX6_most_2 rfl rfl ⟨rfl, rfl⟩ ⟨by decide, by decide⟩ (Nat.le_of_ble_eq_true rfl) (fun rv σ1 hp => ?_)
  rcases hp with ⟨rfl, h⟩ | ⟨q2, hq2, rfl, h⟩
  · have h := h.1 rfl
    change zV x σ1 5 [(0, za x (0)), (1, .int (zI (v1))), (2, .int (zI (v2))), (3, .int (zI (v3)))] [.null]
    refine z_astoreN C [(4, .null), (0, za x (0)), (1, .int (zI (v1))), (2, .int (zI (v2))), (3, .int (zI (v3)))] dX6_most_5 (by rw [hN]; decide) rfl ?_
    refine z_aload_n C 1 dX6_most_7 rfl rfl ?_
    refine z_iload_n C 3 dX6_most_8 rfl rfl ?_
    refine z_callV (av := fun w => [.int (zI (v2))]) C [] cs_X6_rowAt (by decide) (fun _ _ => rfl) rfl (mX6_rowAt v2  σ1 _ h) km_X6_59 dX6_most_9 rfl rfl ⟨rfl, rfl⟩ ⟨by decide, by decide⟩ (Nat.le_of_ble_eq_true rfl) (fun rv σ3 hp => ?_)
    rcases hp with ⟨rfl, h⟩ | ⟨q4, hq4, rfl, h⟩
    · have h := h.1 rfl
      change zV x σ3 12 [(4, .null), (0, za x (0)), (1, .int (zI (v1))), (2, .int (zI (v2))), (3, .int (zI (v3)))] [.null]
      refine z_astoreN C [(5, .null), (4, .null), (0, za x (0)), (1, .int (zI (v1))), (2, .int (zI (v2))), (3, .int (zI (v3)))] dX6_most_12 (by rw [hN]; decide) rfl ?_
      refine z_aloadN C 1 dX6_most_14 rfl ?_
      refine z_ifnullN C 33 dX6_most_16 (by decide) ?_
      refine z_bipush C dX6_most_33 rfl ?_
      exact z_iret C E dX6_most_35 ⟨_, rfl, h⟩
    · have h := h.2 q4 rfl
      change zV x σ3 12 [(4, .null), (0, za x (0)), (1, .int (zI (v1))), (2, .int (zI (v2))), (3, .int (zI (v3)))] [za x (29 + q4)]
      refine z_astore C [(5, za x (29 + q4)), (4, .null), (0, za x (0)), (1, .int (zI (v1))), (2, .int (zI (v2))), (3, .int (zI (v3)))] dX6_most_12 (by rw [hN]; decide) rfl ?_
      refine z_aloadN C 1 dX6_most_14 rfl ?_
      refine z_ifnullN C 33 dX6_most_16 (by decide) ?_
      refine z_bipush C dX6_most_33 rfl ?_
      exact z_iret C E dX6_most_35 ⟨_, rfl, h⟩
  · have h := h.2 q2 rfl
    change zV x σ1 5 [(0, za x (0)), (1, .int (zI (v1))), (2, .int (zI (v2))), (3, .int (zI (v3)))] [za x (29 + q2)]
    refine z_astore C [(4, za x (29 + q2)), (0, za x (0)), (1, .int (zI (v1))), (2, .int (zI (v2))), (3, .int (zI (v3)))] dX6_most_5 (by rw [hN]; decide) rfl ?_
    refine z_aload_n C 1 dX6_most_7 rfl rfl ?_
    refine z_iload_n C 3 dX6_most_8 rfl rfl ?_
    refine z_callV (av := fun w => [.int (zI (v2))]) C [] cs_X6_rowAt (by decide) (fun _ _ => rfl) rfl (mX6_rowAt v2  σ1 _ h) km_X6_59 dX6_most_9 rfl rfl ⟨rfl, rfl⟩ ⟨by decide, by decide⟩ (Nat.le_of_ble_eq_true rfl) (fun rv σ6 hp => ?_)
    rcases hp with ⟨rfl, h⟩ | ⟨q7, hq7, rfl, h⟩
    · have h := h.1 rfl
      change zV x σ6 12 [(4, za x (29 + q2)), (0, za x (0)), (1, .int (zI (v1))), (2, .int (zI (v2))), (3, .int (zI (v3)))] [.null]
      refine z_astoreN C [(5, .null), (4, za x (29 + q2)), (0, za x (0)), (1, .int (zI (v1))), (2, .int (zI (v2))), (3, .int (zI (v3)))] dX6_most_12 (by rw [hN]; decide) rfl ?_
      refine z_aload C 1 dX6_most_14 rfl ?_
      refine z_ifnull C dX6_most_16 ?_
      refine z_aloadN C 0 dX6_most_19 rfl ?_
      refine z_ifnullN C 33 dX6_most_21 (by decide) ?_
      refine z_bipush C dX6_most_33 rfl ?_
      exact z_iret C E dX6_most_35 ⟨_, rfl, h⟩
    · have h := h.2 q7 rfl
      change zV x σ6 12 [(4, za x (29 + q2)), (0, za x (0)), (1, .int (zI (v1))), (2, .int (zI (v2))), (3, .int (zI (v3)))] [za x (29 + q7)]
      refine z_astore C [(5, za x (29 + q7)), (4, za x (29 + q2)), (0, za x (0)), (1, .int (zI (v1))), (2, .int (zI (v2))), (3, .int (zI (v3)))] dX6_most_12 (by rw [hN]; decide) rfl ?_
      refine z_aload C 1 dX6_most_14 rfl ?_
      refine z_ifnull C dX6_most_16 ?_
      refine z_aload C 0 dX6_most_19 rfl ?_
      refine z_ifnull C dX6_most_21 ?_
      refine z_iload_n C 5 dX6_most_24 rfl rfl ?_
      refine z_iconst C dX6_most_25 ?_
      refine z_iconst C dX6_most_26 ?_
      refine z_callS (av := fun w => [.int (zI (v3)), .int (zI (0)), .int (zI (3))]) C [] cs_X6_within (mX6_within v3 0 3  σ6 _ h) km_X6_63 dX6_most_27 rfl rfl ⟨rfl, rfl⟩ ⟨by decide, by decide⟩ (Nat.le_of_ble_eq_true rfl) (fun rv σ8 hp => ?_)
      obtain ⟨a9, rfl, h⟩ := hp
      change zV x σ8 30 [(5, za x (29 + q7)), (4, za x (29 + q2)), (0, za x (0)), (1, .int (zI (v1))), (2, .int (zI (v2))), (3, .int (zI (v3)))] [.int (zI (a9))]
      obtain ⟨o10, h⟩ := h
      refine z_if_ne C 36 dX6_most_30 (by decide) o10 (fun c11 => ?_) (fun c11 => ?_)
      · have h := h.1 c11
        refine z_aload_n C 2 dX6_most_36 rfl rfl ?_
        refine g_X6_3 C kf_X6_30 dX6_most_37 ?_
        refine z_aload C 1 dX6_most_40 rfl ?_
        refine z_aload C 0 dX6_most_42 rfl ?_
        refine z_iload_n C 3 dX6_most_44 rfl rfl ?_
        refine z_iload_n C 4 dX6_most_45 rfl rfl ?_
        obtain ⟨o12, h⟩ := h
        obtain ⟨o13, h⟩ := h
        refine z_icmp_ne C 53 dX6_most_46 (by decide) o12 o13 (fun c14 => ?_) (fun c14 => ?_)
        · have h := h.1 c14
          refine z_iconst C dX6_most_53 ?_
          refine z_sub C [2, 5] [(0, za x (0)), (3, .int (zI (v3)))] rfl ?_
          exact sX6_most_54 C hN E v3 0 q7 q2 hq7 hq2 σ8 h
        · have h := h.2 c14
          refine z_iconst C dX6_most_49 ?_
          refine z_goto C 54 dX6_most_50 (by decide) ?_
          refine z_sub C [2, 5] [(0, za x (0)), (3, .int (zI (v3)))] rfl ?_
          exact sX6_most_54 C hN E v3 1 q7 q2 hq7 hq2 σ8 h
      · have h := h.2 c11
        refine z_bipush C dX6_most_33 rfl ?_
        exact z_iret C E dX6_most_35 ⟨_, rfl, h⟩
def wX6_nearly (v1 : Int) (v2 : Int) (σ : Hp) (k : Int → Hp → Prop) : Prop :=
  wX6_within v1 1 6 σ (fun a2 σ1 => zrg a2 ∧ ((a2 = 0 → k ((-1)) σ1) ∧ (¬ (a2 = 0) → zrg v2 ∧ ((0 ≤ v2 → wX2_withQuarrels v1 v2 σ1 (fun a8 σ7 => k a8 σ7)) ∧ (¬ (0 ≤ v2) → k ((-1)) σ1)))))
set_option maxRecDepth 100000 in
theorem mX6_nearly (v1 : Int) (v2 : Int) (σ : Hp) (k : Int → Hp → Prop) (h : wX6_nearly v1 v2 σ k) (l : Launch) : zMt l yX6_nearly cX6_nearly 3 (some .int) { frames := 11, cells := 0, slots := 0, locals := 281 } (fun w => [.ref (w.2.1 (0)), .int (zI (v1)), .int (zI (v2))]) σ (zPi k) := by
  refine zMt_of (plainFor_of_name (by decide)) (fun w => Nat.le_of_ble_eq_true rfl) (fun x hl hN C E => ?_)
  change zV x σ 0 [(0, za x (0)), (1, .int (zI (v1))), (2, .int (zI (v2)))] []
  change zOk x cX6_nearly RX6 (some .int) (11) (281) at C
  unfold wX6_nearly at h
  refine z_iload_n C 1 dX6_nearly_0 rfl rfl ?_
  refine z_iconst C dX6_nearly_1 ?_
  refine z_bipush C dX6_nearly_2 rfl ?_
  refine z_callS (av := fun w => [.int (zI (v1)), .int (zI (1)), .int (zI (6))]) C [] cs_X6_within (mX6_within v1 1 6  σ _ h) km_X6_63 dX6_nearly_4 rfl rfl ⟨rfl, rfl⟩ ⟨by decide, by decide⟩ (Nat.le_of_ble_eq_true rfl) (fun rv σ1 hp => ?_)
  obtain ⟨a2, rfl, h⟩ := hp
  change zV x σ1 7 [(0, za x (0)), (1, .int (zI (v1))), (2, .int (zI (v2)))] [.int (zI (a2))]
  obtain ⟨o3, h⟩ := h
  refine z_if_eq C 14 dX6_nearly_7 (by decide) o3 (fun c4 => ?_) (fun c4 => ?_)
  · have h := h.1 c4
    refine z_iconst C dX6_nearly_14 ?_
    exact z_iret C E dX6_nearly_15 ⟨_, rfl, h⟩
  · have h := h.2 c4
    refine z_iload_n C 2 dX6_nearly_10 rfl rfl ?_
    obtain ⟨o5, h⟩ := h
    refine z_if_ge C 16 dX6_nearly_11 (by decide) o5 (fun c6 => ?_) (fun c6 => ?_)
    · have h := h.1 c6
      refine z_aload_n C 0 dX6_nearly_16 rfl rfl ?_
      refine g_X6_5 C kf_X6_44 dX6_nearly_17 ?_
      refine z_iload_n C 1 dX6_nearly_20 rfl rfl ?_
      refine z_iload_n C 2 dX6_nearly_21 rfl rfl ?_
      refine z_callV (av := fun w => [.int (zI (v1)), .int (zI (v2))]) C [] cs_X2_withQuarrels (by decide) (fun _ _ => rfl) rfl (mX2_withQuarrels v1 v2  σ1 _ h) km_X6_180 dX6_nearly_22 rfl rfl ⟨rfl, rfl⟩ ⟨by decide, by decide⟩ (Nat.le_of_ble_eq_true rfl) (fun rv σ7 hp => ?_)
      obtain ⟨a8, rfl, h⟩ := hp
      change zV x σ7 25 [(0, za x (0)), (1, .int (zI (v1))), (2, .int (zI (v2)))] [.int (zI (a8))]
      exact z_iret C E dX6_nearly_25 ⟨_, rfl, h⟩
    · have h := h.2 c6
      refine z_iconst C dX6_nearly_14 ?_
      exact z_iret C E dX6_nearly_15 ⟨_, rfl, h⟩
def wX6_onlyPartner_41 (k : Int → Hp → Prop) (K9 : Int → Int → Int → Int → Int → Int → Hp → Prop) (v0 : Int) (v1 : Int) (v2 : Int) (v3 : Int) (v4 : Int) (v5 : Int) (σ : Hp) : Prop :=
  wX6_rest (v4 * v1) v2 σ (fun a2 σ1 => K9 v0 v1 v2 v3 a2 (v5 + 1) σ1)
set_option maxRecDepth 100000 in
theorem sX6_onlyPartner_41 {x : Cx} (C : zOk x cX6_onlyPartner RX6 (some .int) (2) (43)) (hN : x.2.2.2.2.1 = 6) {k : Int → Hp → Prop} (E : zEnd x (zPi k x.2.1)) {K9 : Int → Int → Int → Int → Int → Int → Hp → Prop} (H9 : ∀ (v0 : Int) (v1 : Int) (v2 : Int) (v3 : Int) (v4 : Int) (v5 : Int) (σ : Hp), K9 v0 v1 v2 v3 v4 v5 σ → zV x σ 9 [(0, .int (zI (v0))), (1, .int (zI (v1))), (2, .int (zI (v2))), (3, .int (zI (v3))), (4, .int (zI (v4))), (5, .int (zI (v5)))] []) (v0 : Int) (v1 : Int) (v2 : Int) (v3 : Int) (v4 : Int) (v5 : Int) (σ : Hp) (h : wX6_onlyPartner_41 k K9 v0 v1 v2 v3 v4 v5 σ) : zV x σ 41 [(0, .int (zI (v0))), (1, .int (zI (v1))), (2, .int (zI (v2))), (3, .int (zI (v3))), (4, .int (zI (v4))), (5, .int (zI (v5)))] [] := by
  unfold wX6_onlyPartner_41 at h
  refine z_iload C 4 dX6_onlyPartner_41 rfl ?_
  refine z_iload_n C 1 dX6_onlyPartner_43 rfl rfl ?_
  refine z_imul C dX6_onlyPartner_44 ?_
  refine z_iload_n C 2 dX6_onlyPartner_45 rfl rfl ?_
  refine z_callS (av := fun w => [.int (zI (v4 * v1)), .int (zI (v2))]) C [] cs_X6_rest (mX6_rest (v4 * v1) v2  σ _ h) km_X6_196 dX6_onlyPartner_46 rfl rfl ⟨rfl, rfl⟩ ⟨by decide, by decide⟩ (Nat.le_of_ble_eq_true rfl) (fun rv σ1 hp => ?_)
  obtain ⟨a2, rfl, h⟩ := hp
  change zV x σ1 49 [(0, .int (zI (v0))), (1, .int (zI (v1))), (2, .int (zI (v2))), (3, .int (zI (v3))), (4, .int (zI (v4))), (5, .int (zI (v5)))] [.int (zI (a2))]
  refine z_istore C [(4, .int (zI (a2))), (0, .int (zI (v0))), (1, .int (zI (v1))), (2, .int (zI (v2))), (3, .int (zI (v3))), (5, .int (zI (v5)))] dX6_onlyPartner_49 (by rw [hN]; decide) rfl ?_
  refine z_iinc C 5 [(5, .int (zI (v5 + 1))), (4, .int (zI (a2))), (0, .int (zI (v0))), (1, .int (zI (v1))), (2, .int (zI (v2))), (3, .int (zI (v3)))] dX6_onlyPartner_51 rfl (by rw [hN]; decide) rfl ?_
  refine z_goto C 9 dX6_onlyPartner_54 (by decide) ?_
  refine z_sub C [2, 3, 4, 5, 1, 0] [(0, .int (zI (v0))), (1, .int (zI (v1))), (2, .int (zI (v2))), (3, .int (zI (v3))), (4, .int (zI (a2))), (5, .int (zI (v5 + 1)))] rfl ?_
  exact H9 v0 v1 v2 v3 a2 (v5 + 1)  σ1 h
def wX6_onlyPartner_9 (k : Int → Hp → Prop) : Nat → Int → Int → Int → Int → Int → Int → Hp → Prop
  | 0, _, _, _, _, _, _, _ => False
  | n + 1, v0, v1, v2, v3, v4, v5, σ => zrg v5 ∧ zrg (v2 - 2) ∧ ((v2 - 2 ≤ v5 → k v3 σ) ∧ (¬ (v2 - 2 ≤ v5) → wX6_rest (v0 + v4) v2 σ (fun a5 σ4 => zrg a5 ∧ ((a5 ≠ 1 → wX6_onlyPartner_41 k (fun v0 v1 v2 v3 v4 v5 σ => wX6_onlyPartner_9 k n v0 v1 v2 v3 v4 v5 σ) v0 v1 v2 v3 v4 v5 σ4) ∧ (¬ (a5 ≠ 1) → zrg v3 ∧ ((v3 = 15 → wX6_onlyPartner_41 k (fun v0 v1 v2 v3 v4 v5 σ => wX6_onlyPartner_9 k n v0 v1 v2 v3 v4 v5 σ) v0 v1 v2 v5 v4 v5 σ4) ∧ (¬ (v3 = 15) → k 15 σ4)))))))
set_option maxRecDepth 100000 in
theorem sX6_onlyPartner_9 {x : Cx} (C : zOk x cX6_onlyPartner RX6 (some .int) (2) (43)) (hN : x.2.2.2.2.1 = 6) {k : Int → Hp → Prop} (E : zEnd x (zPi k x.2.1)) : ∀ (n : Nat) (v0 : Int) (v1 : Int) (v2 : Int) (v3 : Int) (v4 : Int) (v5 : Int) (σ : Hp), wX6_onlyPartner_9 k n v0 v1 v2 v3 v4 v5 σ → zV x σ 9 [(0, .int (zI (v0))), (1, .int (zI (v1))), (2, .int (zI (v2))), (3, .int (zI (v3))), (4, .int (zI (v4))), (5, .int (zI (v5)))] [] := by
  intro n
  induction n with
  | zero => intro _ _ _ _ _ _ _ h; exact h.elim
  | succ n ih =>
    intro v0 v1 v2 v3 v4 v5 σ h
    unfold wX6_onlyPartner_9 at h
    refine z_iload C 5 dX6_onlyPartner_9 rfl ?_
    refine z_iload_n C 2 dX6_onlyPartner_11 rfl rfl ?_
    refine z_iconst C dX6_onlyPartner_12 ?_
    refine z_isub C dX6_onlyPartner_13 ?_
    obtain ⟨o1, h⟩ := h
    obtain ⟨o2, h⟩ := h
    refine z_icmp_ge C 57 dX6_onlyPartner_14 (by decide) o1 o2 (fun c3 => ?_) (fun c3 => ?_)
    · have h := h.1 c3
      refine z_iload_n C 3 dX6_onlyPartner_57 rfl rfl ?_
      exact z_iret C E dX6_onlyPartner_58 ⟨_, rfl, h⟩
    · have h := h.2 c3
      refine z_iload_n C 0 dX6_onlyPartner_17 rfl rfl ?_
      refine z_iload C 4 dX6_onlyPartner_18 rfl ?_
      refine z_iadd C dX6_onlyPartner_20 ?_
      refine z_iload_n C 2 dX6_onlyPartner_21 rfl rfl ?_
      refine z_callS (av := fun w => [.int (zI (v0 + v4)), .int (zI (v2))]) C [] cs_X6_rest (mX6_rest (v0 + v4) v2  σ _ h) km_X6_196 dX6_onlyPartner_22 rfl rfl ⟨rfl, rfl⟩ ⟨by decide, by decide⟩ (Nat.le_of_ble_eq_true rfl) (fun rv σ4 hp => ?_)
      obtain ⟨a5, rfl, h⟩ := hp
      change zV x σ4 25 [(0, .int (zI (v0))), (1, .int (zI (v1))), (2, .int (zI (v2))), (3, .int (zI (v3))), (4, .int (zI (v4))), (5, .int (zI (v5)))] [.int (zI (a5))]
      refine z_iconst C dX6_onlyPartner_25 ?_
      obtain ⟨o6, h⟩ := h
      refine z_icmp_ne C 41 dX6_onlyPartner_26 (by decide) o6 (zrg_d rfl) (fun c7 => ?_) (fun c7 => ?_)
      · have h := h.1 c7
        exact sX6_onlyPartner_41 C hN E (by intro v0 v1 v2 v3 v4 v5 σ h; exact ih v0 v1 v2 v3 v4 v5  σ h) v0 v1 v2 v3 v4 v5  σ4 h
      · have h := h.2 c7
        refine z_iload_n C 3 dX6_onlyPartner_29 rfl rfl ?_
        refine z_bipush C dX6_onlyPartner_30 rfl ?_
        obtain ⟨o8, h⟩ := h
        refine z_icmp_eq C 38 dX6_onlyPartner_32 (by decide) o8 (zrg_d rfl) (fun c9 => ?_) (fun c9 => ?_)
        · have h := h.1 c9
          refine z_iload C 5 dX6_onlyPartner_38 rfl ?_
          refine z_istore_n C [(3, .int (zI (v5))), (0, .int (zI (v0))), (1, .int (zI (v1))), (2, .int (zI (v2))), (4, .int (zI (v4))), (5, .int (zI (v5)))] dX6_onlyPartner_40 rfl (by rw [hN]; decide) rfl ?_
          refine z_sub C [1, 2, 3, 0, 4, 5] [(0, .int (zI (v0))), (1, .int (zI (v1))), (2, .int (zI (v2))), (3, .int (zI (v5))), (4, .int (zI (v4))), (5, .int (zI (v5)))] rfl ?_
          exact sX6_onlyPartner_41 C hN E (by intro v0 v1 v2 v3 v4 v5 σ h; exact ih v0 v1 v2 v3 v4 v5  σ h) v0 v1 v2 v5 v4 v5  σ4 h
        · have h := h.2 c9
          refine z_bipush C dX6_onlyPartner_35 rfl ?_
          exact z_iret C E dX6_onlyPartner_37 ⟨_, rfl, h⟩
def wX6_onlyPartner (v0 : Int) (v1 : Int) (v2 : Int) (σ : Hp) (k : Int → Hp → Prop) : Prop :=
  (∃ N1, wX6_onlyPartner_9 k N1 v0 v1 v2 15 v1 0 σ)
set_option maxRecDepth 100000 in
theorem mX6_onlyPartner (v0 : Int) (v1 : Int) (v2 : Int) (σ : Hp) (k : Int → Hp → Prop) (h : wX6_onlyPartner v0 v1 v2 σ k) (l : Launch) : zMt l yX6_onlyPartner cX6_onlyPartner 6 (some .int) { frames := 2, cells := 0, slots := 0, locals := 43 } (fun w => [.int (zI (v0)), .int (zI (v1)), .int (zI (v2))]) σ (zPi k) := by
  refine zMt_of (plainFor_of_name (by decide)) (fun w => Nat.le_of_ble_eq_true rfl) (fun x hl hN C E => ?_)
  change zV x σ 0 [(0, .int (zI (v0))), (1, .int (zI (v1))), (2, .int (zI (v2)))] []
  change zOk x cX6_onlyPartner RX6 (some .int) (2) (43) at C
  unfold wX6_onlyPartner at h
  refine z_bipush C dX6_onlyPartner_0 rfl ?_
  refine z_istore_n C [(3, .int (zI (15))), (0, .int (zI (v0))), (1, .int (zI (v1))), (2, .int (zI (v2)))] dX6_onlyPartner_2 rfl (by rw [hN]; decide) rfl ?_
  refine z_iload_n C 2 dX6_onlyPartner_3 rfl rfl ?_
  refine z_istore C [(4, .int (zI (v1))), (3, .int (zI (15))), (0, .int (zI (v0))), (1, .int (zI (v1))), (2, .int (zI (v2)))] dX6_onlyPartner_4 (by rw [hN]; decide) rfl ?_
  refine z_iconst C dX6_onlyPartner_6 ?_
  refine z_istore C [(5, .int (zI (0))), (4, .int (zI (v1))), (3, .int (zI (15))), (0, .int (zI (v0))), (1, .int (zI (v1))), (2, .int (zI (v2)))] dX6_onlyPartner_7 (by rw [hN]; decide) rfl ?_
  refine z_sub C [3, 4, 5, 2, 1, 0] [(0, .int (zI (v0))), (1, .int (zI (v1))), (2, .int (zI (v2))), (3, .int (zI (15))), (4, .int (zI (v1))), (5, .int (zI (0)))] rfl ?_
  obtain ⟨n1, h⟩ := h
  exact sX6_onlyPartner_9 C hN E n1 v0 v1 v2 15 v1 0  σ h
def wX6_powerBy_5 (k : Int → Hp → Prop) : Nat → Int → Int → Int → Int → Int → Hp → Prop
  | 0, _, _, _, _, _, _ => False
  | n + 1, v0, v1, v2, v3, v4, σ => zrg v4 ∧ zrg v1 ∧ ((v1 ≤ v4 → k v3 σ) ∧ (¬ (v1 ≤ v4) → wX6_rest (v3 * v0) v2 σ (fun a5 σ4 => wX6_powerBy_5 k n v0 v1 v2 a5 (v4 + 1) σ4)))
set_option maxRecDepth 100000 in
theorem sX6_powerBy_5 {x : Cx} (C : zOk x cX6_powerBy RX6 (some .int) (2) (43)) (hN : x.2.2.2.2.1 = 5) {k : Int → Hp → Prop} (E : zEnd x (zPi k x.2.1)) : ∀ (n : Nat) (v0 : Int) (v1 : Int) (v2 : Int) (v3 : Int) (v4 : Int) (σ : Hp), wX6_powerBy_5 k n v0 v1 v2 v3 v4 σ → zV x σ 5 [(0, .int (zI (v0))), (1, .int (zI (v1))), (2, .int (zI (v2))), (3, .int (zI (v3))), (4, .int (zI (v4)))] [] := by
  intro n
  induction n with
  | zero => intro _ _ _ _ _ _ h; exact h.elim
  | succ n ih =>
    intro v0 v1 v2 v3 v4 σ h
    unfold wX6_powerBy_5 at h
    refine z_iload C 4 dX6_powerBy_5 rfl ?_
    refine z_iload_n C 1 dX6_powerBy_7 rfl rfl ?_
    obtain ⟨o1, h⟩ := h
    obtain ⟨o2, h⟩ := h
    refine z_icmp_ge C 25 dX6_powerBy_8 (by decide) o1 o2 (fun c3 => ?_) (fun c3 => ?_)
    · have h := h.1 c3
      refine z_iload_n C 3 dX6_powerBy_25 rfl rfl ?_
      exact z_iret C E dX6_powerBy_26 ⟨_, rfl, h⟩
    · have h := h.2 c3
      refine z_iload_n C 3 dX6_powerBy_11 rfl rfl ?_
      refine z_iload_n C 0 dX6_powerBy_12 rfl rfl ?_
      refine z_imul C dX6_powerBy_13 ?_
      refine z_iload_n C 2 dX6_powerBy_14 rfl rfl ?_
      refine z_callS (av := fun w => [.int (zI (v3 * v0)), .int (zI (v2))]) C [] cs_X6_rest (mX6_rest (v3 * v0) v2  σ _ h) km_X6_196 dX6_powerBy_15 rfl rfl ⟨rfl, rfl⟩ ⟨by decide, by decide⟩ (Nat.le_of_ble_eq_true rfl) (fun rv σ4 hp => ?_)
      obtain ⟨a5, rfl, h⟩ := hp
      change zV x σ4 18 [(0, .int (zI (v0))), (1, .int (zI (v1))), (2, .int (zI (v2))), (3, .int (zI (v3))), (4, .int (zI (v4)))] [.int (zI (a5))]
      refine z_istore_n C [(3, .int (zI (a5))), (0, .int (zI (v0))), (1, .int (zI (v1))), (2, .int (zI (v2))), (4, .int (zI (v4)))] dX6_powerBy_18 rfl (by rw [hN]; decide) rfl ?_
      refine z_iinc C 4 [(4, .int (zI (v4 + 1))), (3, .int (zI (a5))), (0, .int (zI (v0))), (1, .int (zI (v1))), (2, .int (zI (v2)))] dX6_powerBy_19 rfl (by rw [hN]; decide) rfl ?_
      refine z_goto C 5 dX6_powerBy_22 (by decide) ?_
      refine z_sub C [2, 3, 4, 1, 0] [(0, .int (zI (v0))), (1, .int (zI (v1))), (2, .int (zI (v2))), (3, .int (zI (a5))), (4, .int (zI (v4 + 1)))] rfl ?_
      exact ih v0 v1 v2 a5 (v4 + 1)  σ4 h
def wX6_powerBy (v0 : Int) (v1 : Int) (v2 : Int) (σ : Hp) (k : Int → Hp → Prop) : Prop :=
  (∃ N1, wX6_powerBy_5 k N1 v0 v1 v2 1 0 σ)
set_option maxRecDepth 100000 in
theorem mX6_powerBy (v0 : Int) (v1 : Int) (v2 : Int) (σ : Hp) (k : Int → Hp → Prop) (h : wX6_powerBy v0 v1 v2 σ k) (l : Launch) : zMt l yX6_powerBy cX6_powerBy 5 (some .int) { frames := 2, cells := 0, slots := 0, locals := 43 } (fun w => [.int (zI (v0)), .int (zI (v1)), .int (zI (v2))]) σ (zPi k) := by
  refine zMt_of (plainFor_of_name (by decide)) (fun w => Nat.le_of_ble_eq_true rfl) (fun x hl hN C E => ?_)
  change zV x σ 0 [(0, .int (zI (v0))), (1, .int (zI (v1))), (2, .int (zI (v2)))] []
  change zOk x cX6_powerBy RX6 (some .int) (2) (43) at C
  unfold wX6_powerBy at h
  refine z_iconst C dX6_powerBy_0 ?_
  refine z_istore_n C [(3, .int (zI (1))), (0, .int (zI (v0))), (1, .int (zI (v1))), (2, .int (zI (v2)))] dX6_powerBy_1 rfl (by rw [hN]; decide) rfl ?_
  refine z_iconst C dX6_powerBy_2 ?_
  refine z_istore C [(4, .int (zI (0))), (3, .int (zI (1))), (0, .int (zI (v0))), (1, .int (zI (v1))), (2, .int (zI (v2)))] dX6_powerBy_3 (by rw [hN]; decide) rfl ?_
  refine z_sub C [2, 3, 4, 1, 0] [(0, .int (zI (v0))), (1, .int (zI (v1))), (2, .int (zI (v2))), (3, .int (zI (1))), (4, .int (zI (0)))] rfl ?_
  obtain ⟨n1, h⟩ := h
  exact sX6_powerBy_5 C hN E n1 v0 v1 v2 1 0  σ h
def wX6_powers_71 (k : Int → Hp → Prop) : Nat → Int → Int → Nat → Int → Int → Int → Hp → Prop
  | 0, _, _, _, _, _, _, _ => False
  | n + 1, v1, v2, r5, v6, v7, v8, σ => zrg v8 ∧ zrg v6 ∧ ((v6 ≤ v8 → wX6_keepSquare r5 σ (fun a5 σ4 => k a5 σ4)) ∧ (¬ (v6 ≤ v8) → wX3_put 6 v8 (v7 - 1) σ (fun σ6 => wX6_rest (v7 * v2) v1 σ6 (fun a8 σ7 => wX6_powers_71 k n v1 v2 r5 v6 a8 (v8 + 1) σ7))))
set_option maxRecDepth 100000 in
theorem sX6_powers_71 {x : Cx} (C : zOk x cX6_powers RX6 (some .int) (4) (88)) (hN : x.2.2.2.2.1 = 9) {k : Int → Hp → Prop} (E : zEnd x (zPi k x.2.1)) : ∀ (n : Nat) (v1 : Int) (v2 : Int) (r5 : Nat) (v6 : Int) (v7 : Int) (v8 : Int) (hr5 : r5 < 7) (σ : Hp), wX6_powers_71 k n v1 v2 r5 v6 v7 v8 σ → zV x σ 71 [(0, za x (0)), (1, .int (zI (v1))), (2, .int (zI (v2))), (5, za x (29 + r5)), (6, .int (zI (v6))), (7, .int (zI (v7))), (8, .int (zI (v8)))] [] := by
  intro n
  induction n with
  | zero => intro _ _ _ _ _ _ _ _ h; exact h.elim
  | succ n ih =>
    intro v1 v2 r5 v6 v7 v8 hr5 σ h
    unfold wX6_powers_71 at h
    refine z_iload C 6 dX6_powers_71 rfl ?_
    refine z_iload C 4 dX6_powers_73 rfl ?_
    obtain ⟨o1, h⟩ := h
    obtain ⟨o2, h⟩ := h
    refine z_icmp_ge C 107 dX6_powers_75 (by decide) o1 o2 (fun c3 => ?_) (fun c3 => ?_)
    · have h := h.1 c3
      refine z_aload_n C 0 dX6_powers_107 rfl rfl ?_
      refine z_aload C 3 dX6_powers_108 rfl ?_
      refine z_callV (av := fun w => [.ref (w.2.1 (29 + r5))]) C [] cs_X6_keepSquare (by decide) (fun _ _ => rfl) rfl (mX6_keepSquare r5 hr5 σ _ h) km_X6_199 dX6_powers_110 rfl rfl ⟨rfl, rfl⟩ ⟨by decide, by decide⟩ (Nat.le_of_ble_eq_true rfl) (fun rv σ4 hp => ?_)
      obtain ⟨a5, rfl, h⟩ := hp
      change zV x σ4 113 [(0, za x (0)), (1, .int (zI (v1))), (2, .int (zI (v2))), (5, za x (29 + r5)), (6, .int (zI (v6))), (7, .int (zI (v7))), (8, .int (zI (v8)))] [.int (zI (a5))]
      exact z_iret C E dX6_powers_113 ⟨_, rfl, h⟩
    · have h := h.2 c3
      refine z_aload_n C 0 dX6_powers_78 rfl rfl ?_
      refine g_X6_1 C kf_X6_16 dX6_powers_79 ?_
      refine z_iload C 6 dX6_powers_82 rfl ?_
      refine z_iload C 5 dX6_powers_84 rfl ?_
      refine z_iconst C dX6_powers_86 ?_
      refine z_isub C dX6_powers_87 ?_
      refine z_callV (av := fun w => [.int (zI (v8)), .int (zI (v7 - 1))]) C [] cs_X3_put (by decide) (zcell_row (by decide)) rfl (mX3_put 6 v8 (v7 - 1) (by decide) σ _ h) km_X6_83 dX6_powers_88 rfl rfl ⟨rfl, rfl⟩ ⟨by decide, by decide⟩ (Nat.le_of_ble_eq_true rfl) (fun rv σ6 hp => ?_)
      obtain ⟨rfl, h⟩ := hp
      change zV x σ6 91 [(0, za x (0)), (1, .int (zI (v1))), (2, .int (zI (v2))), (5, za x (29 + r5)), (6, .int (zI (v6))), (7, .int (zI (v7))), (8, .int (zI (v8)))] []
      refine z_iload C 5 dX6_powers_91 rfl ?_
      refine z_iload_n C 2 dX6_powers_93 rfl rfl ?_
      refine z_imul C dX6_powers_94 ?_
      refine z_iload_n C 1 dX6_powers_95 rfl rfl ?_
      refine z_callS (av := fun w => [.int (zI (v7 * v2)), .int (zI (v1))]) C [] cs_X6_rest (mX6_rest (v7 * v2) v1  σ6 _ h) km_X6_196 dX6_powers_96 rfl rfl ⟨rfl, rfl⟩ ⟨by decide, by decide⟩ (Nat.le_of_ble_eq_true rfl) (fun rv σ7 hp => ?_)
      obtain ⟨a8, rfl, h⟩ := hp
      change zV x σ7 99 [(0, za x (0)), (1, .int (zI (v1))), (2, .int (zI (v2))), (5, za x (29 + r5)), (6, .int (zI (v6))), (7, .int (zI (v7))), (8, .int (zI (v8)))] [.int (zI (a8))]
      refine z_istore C [(7, .int (zI (a8))), (0, za x (0)), (1, .int (zI (v1))), (2, .int (zI (v2))), (5, za x (29 + r5)), (6, .int (zI (v6))), (8, .int (zI (v8)))] dX6_powers_99 (by rw [hN]; decide) rfl ?_
      refine z_iinc C 6 [(8, .int (zI (v8 + 1))), (7, .int (zI (a8))), (0, za x (0)), (1, .int (zI (v1))), (2, .int (zI (v2))), (5, za x (29 + r5)), (6, .int (zI (v6)))] dX6_powers_101 rfl (by rw [hN]; decide) rfl ?_
      refine z_goto C 71 dX6_powers_104 (by decide) ?_
      refine z_sub C [2, 3, 4, 5, 6, 1, 0] [(0, za x (0)), (1, .int (zI (v1))), (2, .int (zI (v2))), (5, za x (29 + r5)), (6, .int (zI (v6))), (7, .int (zI (a8))), (8, .int (zI (v8 + 1)))] rfl ?_
      exact ih v1 v2 r5 v6 a8 (v8 + 1) hr5 σ7 h
def wX6_powers (v1 : Int) (v2 : Int) (v3 : Int) (v4 : Int) (σ : Hp) (k : Int → Hp → Prop) : Prop :=
  wX6_rowAt v4 σ (fun w31 σ1 => (w31 = none → wX6_isToldPrime v1 σ1 (fun a4 σ3 => zrg a4 ∧ ((a4 = 0 → k ((-1)) σ3) ∧ (¬ (a4 = 0) → wX6_within v2 2 (v1 - 1) σ3 (fun a8 σ7 => zrg a8 ∧ ((a8 = 0 → k ((-1)) σ7) ∧ (¬ (a8 = 0) → wX6_within v3 0 (v1 - 2) σ7 (fun a12 σ11 => zrg a12 ∧ ((a12 = 0 → k ((-1)) σ11) ∧ (¬ (a12 = 0) → k ((-1)) σ11)))))))))) ∧ ∀ q2, w31 = some q2 → wX6_isToldPrime v1 σ1 (fun a16 σ15 => zrg a16 ∧ ((a16 = 0 → k ((-1)) σ15) ∧ (¬ (a16 = 0) → wX6_within v2 2 (v1 - 1) σ15 (fun a20 σ19 => zrg a20 ∧ ((a20 = 0 → k ((-1)) σ19) ∧ (¬ (a20 = 0) → wX6_within v3 0 (v1 - 2) σ19 (fun a24 σ23 => zrg a24 ∧ ((a24 = 0 → k ((-1)) σ23) ∧ (¬ (a24 = 0) → wX3_shape 6 (v1 - 1) (v1 - 1) σ23 (fun σ27 => wX6_powerBy v2 v3 v1 σ27 (fun a29 σ28 => (∃ N30, wX6_powers_71 k N30 v1 v2 q2 (v1 - 1) a29 0 σ28)))))))))))))
set_option maxRecDepth 100000 in
theorem mX6_powers (v1 : Int) (v2 : Int) (v3 : Int) (v4 : Int) (σ : Hp) (k : Int → Hp → Prop) (h : wX6_powers v1 v2 v3 v4 σ k) (l : Launch) : zMt l yX6_powers cX6_powers 9 (some .int) { frames := 4, cells := 0, slots := 0, locals := 88 } (fun w => [.ref (w.2.1 (0)), .int (zI (v1)), .int (zI (v2)), .int (zI (v3)), .int (zI (v4))]) σ (zPi k) := by
  refine zMt_of (plainFor_of_name (by decide)) (fun w => Nat.le_of_ble_eq_true rfl) (fun x hl hN C E => ?_)
  change zV x σ 0 [(0, za x (0)), (1, .int (zI (v1))), (2, .int (zI (v2))), (3, .int (zI (v3))), (4, .int (zI (v4)))] []
  change zOk x cX6_powers RX6 (some .int) (4) (88) at C
  unfold wX6_powers at h
  refine z_aload_n C 0 dX6_powers_0 rfl rfl ?_
  refine z_iload C 4 dX6_powers_1 rfl ?_
  refine z_callV (av := fun w => [.int (zI (v4))]) C [] cs_X6_rowAt (by decide) (fun _ _ => rfl) rfl (mX6_rowAt v4  σ _ h) km_X6_59 dX6_powers_3 rfl rfl ⟨rfl, rfl⟩ ⟨by decide, by decide⟩ (Nat.le_of_ble_eq_true rfl) (fun rv σ1 hp => ?_)
  rcases hp with ⟨rfl, h⟩ | ⟨q2, hq2, rfl, h⟩
  · have h := h.1 rfl
    change zV x σ1 6 [(0, za x (0)), (1, .int (zI (v1))), (2, .int (zI (v2))), (3, .int (zI (v3))), (4, .int (zI (v4)))] [.null]
    refine z_astoreN C [(5, .null), (0, za x (0)), (1, .int (zI (v1))), (2, .int (zI (v2))), (3, .int (zI (v3))), (4, .int (zI (v4)))] dX6_powers_6 (by rw [hN]; decide) rfl ?_
    refine z_iload_n C 2 dX6_powers_8 rfl rfl ?_
    refine z_callS (av := fun w => [.int (zI (v1))]) C [] cs_X6_isToldPrime (mX6_isToldPrime v1  σ1 _ h) km_X6_190 dX6_powers_9 rfl rfl ⟨rfl, rfl⟩ ⟨by decide, by decide⟩ (Nat.le_of_ble_eq_true rfl) (fun rv σ3 hp => ?_)
    obtain ⟨a4, rfl, h⟩ := hp
    change zV x σ3 12 [(5, .null), (0, za x (0)), (1, .int (zI (v1))), (2, .int (zI (v2))), (3, .int (zI (v3))), (4, .int (zI (v4)))] [.int (zI (a4))]
    obtain ⟨o5, h⟩ := h
    refine z_if_eq C 42 dX6_powers_12 (by decide) o5 (fun c6 => ?_) (fun c6 => ?_)
    · have h := h.1 c6
      refine z_iconst C dX6_powers_42 ?_
      exact z_iret C E dX6_powers_43 ⟨_, rfl, h⟩
    · have h := h.2 c6
      refine z_iload_n C 3 dX6_powers_15 rfl rfl ?_
      refine z_iconst C dX6_powers_16 ?_
      refine z_iload_n C 2 dX6_powers_17 rfl rfl ?_
      refine z_iconst C dX6_powers_18 ?_
      refine z_isub C dX6_powers_19 ?_
      refine z_callS (av := fun w => [.int (zI (v2)), .int (zI (2)), .int (zI (v1 - 1))]) C [] cs_X6_within (mX6_within v2 2 (v1 - 1)  σ3 _ h) km_X6_63 dX6_powers_20 rfl rfl ⟨rfl, rfl⟩ ⟨by decide, by decide⟩ (Nat.le_of_ble_eq_true rfl) (fun rv σ7 hp => ?_)
      obtain ⟨a8, rfl, h⟩ := hp
      change zV x σ7 23 [(5, .null), (0, za x (0)), (1, .int (zI (v1))), (2, .int (zI (v2))), (3, .int (zI (v3))), (4, .int (zI (v4)))] [.int (zI (a8))]
      obtain ⟨o9, h⟩ := h
      refine z_if_eq C 42 dX6_powers_23 (by decide) o9 (fun c10 => ?_) (fun c10 => ?_)
      · have h := h.1 c10
        refine z_iconst C dX6_powers_42 ?_
        exact z_iret C E dX6_powers_43 ⟨_, rfl, h⟩
      · have h := h.2 c10
        refine z_iload_n C 4 dX6_powers_26 rfl rfl ?_
        refine z_iconst C dX6_powers_27 ?_
        refine z_iload_n C 2 dX6_powers_28 rfl rfl ?_
        refine z_iconst C dX6_powers_29 ?_
        refine z_isub C dX6_powers_30 ?_
        refine z_callS (av := fun w => [.int (zI (v3)), .int (zI (0)), .int (zI (v1 - 2))]) C [] cs_X6_within (mX6_within v3 0 (v1 - 2)  σ7 _ h) km_X6_63 dX6_powers_31 rfl rfl ⟨rfl, rfl⟩ ⟨by decide, by decide⟩ (Nat.le_of_ble_eq_true rfl) (fun rv σ11 hp => ?_)
        obtain ⟨a12, rfl, h⟩ := hp
        change zV x σ11 34 [(5, .null), (0, za x (0)), (1, .int (zI (v1))), (2, .int (zI (v2))), (3, .int (zI (v3))), (4, .int (zI (v4)))] [.int (zI (a12))]
        obtain ⟨o13, h⟩ := h
        refine z_if_eq C 42 dX6_powers_34 (by decide) o13 (fun c14 => ?_) (fun c14 => ?_)
        · have h := h.1 c14
          refine z_iconst C dX6_powers_42 ?_
          exact z_iret C E dX6_powers_43 ⟨_, rfl, h⟩
        · have h := h.2 c14
          refine z_aloadN C 0 dX6_powers_37 rfl ?_
          refine z_ifnonnullN C dX6_powers_39 ?_
          refine z_iconst C dX6_powers_42 ?_
          exact z_iret C E dX6_powers_43 ⟨_, rfl, h⟩
  · have h := h.2 q2 rfl
    change zV x σ1 6 [(0, za x (0)), (1, .int (zI (v1))), (2, .int (zI (v2))), (3, .int (zI (v3))), (4, .int (zI (v4)))] [za x (29 + q2)]
    refine z_astore C [(5, za x (29 + q2)), (0, za x (0)), (1, .int (zI (v1))), (2, .int (zI (v2))), (3, .int (zI (v3))), (4, .int (zI (v4)))] dX6_powers_6 (by rw [hN]; decide) rfl ?_
    refine z_iload_n C 2 dX6_powers_8 rfl rfl ?_
    refine z_callS (av := fun w => [.int (zI (v1))]) C [] cs_X6_isToldPrime (mX6_isToldPrime v1  σ1 _ h) km_X6_190 dX6_powers_9 rfl rfl ⟨rfl, rfl⟩ ⟨by decide, by decide⟩ (Nat.le_of_ble_eq_true rfl) (fun rv σ15 hp => ?_)
    obtain ⟨a16, rfl, h⟩ := hp
    change zV x σ15 12 [(5, za x (29 + q2)), (0, za x (0)), (1, .int (zI (v1))), (2, .int (zI (v2))), (3, .int (zI (v3))), (4, .int (zI (v4)))] [.int (zI (a16))]
    obtain ⟨o17, h⟩ := h
    refine z_if_eq C 42 dX6_powers_12 (by decide) o17 (fun c18 => ?_) (fun c18 => ?_)
    · have h := h.1 c18
      refine z_iconst C dX6_powers_42 ?_
      exact z_iret C E dX6_powers_43 ⟨_, rfl, h⟩
    · have h := h.2 c18
      refine z_iload_n C 3 dX6_powers_15 rfl rfl ?_
      refine z_iconst C dX6_powers_16 ?_
      refine z_iload_n C 2 dX6_powers_17 rfl rfl ?_
      refine z_iconst C dX6_powers_18 ?_
      refine z_isub C dX6_powers_19 ?_
      refine z_callS (av := fun w => [.int (zI (v2)), .int (zI (2)), .int (zI (v1 - 1))]) C [] cs_X6_within (mX6_within v2 2 (v1 - 1)  σ15 _ h) km_X6_63 dX6_powers_20 rfl rfl ⟨rfl, rfl⟩ ⟨by decide, by decide⟩ (Nat.le_of_ble_eq_true rfl) (fun rv σ19 hp => ?_)
      obtain ⟨a20, rfl, h⟩ := hp
      change zV x σ19 23 [(5, za x (29 + q2)), (0, za x (0)), (1, .int (zI (v1))), (2, .int (zI (v2))), (3, .int (zI (v3))), (4, .int (zI (v4)))] [.int (zI (a20))]
      obtain ⟨o21, h⟩ := h
      refine z_if_eq C 42 dX6_powers_23 (by decide) o21 (fun c22 => ?_) (fun c22 => ?_)
      · have h := h.1 c22
        refine z_iconst C dX6_powers_42 ?_
        exact z_iret C E dX6_powers_43 ⟨_, rfl, h⟩
      · have h := h.2 c22
        refine z_iload_n C 4 dX6_powers_26 rfl rfl ?_
        refine z_iconst C dX6_powers_27 ?_
        refine z_iload_n C 2 dX6_powers_28 rfl rfl ?_
        refine z_iconst C dX6_powers_29 ?_
        refine z_isub C dX6_powers_30 ?_
        refine z_callS (av := fun w => [.int (zI (v3)), .int (zI (0)), .int (zI (v1 - 2))]) C [] cs_X6_within (mX6_within v3 0 (v1 - 2)  σ19 _ h) km_X6_63 dX6_powers_31 rfl rfl ⟨rfl, rfl⟩ ⟨by decide, by decide⟩ (Nat.le_of_ble_eq_true rfl) (fun rv σ23 hp => ?_)
        obtain ⟨a24, rfl, h⟩ := hp
        change zV x σ23 34 [(5, za x (29 + q2)), (0, za x (0)), (1, .int (zI (v1))), (2, .int (zI (v2))), (3, .int (zI (v3))), (4, .int (zI (v4)))] [.int (zI (a24))]
        obtain ⟨o25, h⟩ := h
        refine z_if_eq C 42 dX6_powers_34 (by decide) o25 (fun c26 => ?_) (fun c26 => ?_)
        · have h := h.1 c26
          refine z_iconst C dX6_powers_42 ?_
          exact z_iret C E dX6_powers_43 ⟨_, rfl, h⟩
        · have h := h.2 c26
          refine z_aload C 0 dX6_powers_37 rfl ?_
          refine z_ifnonnull C 44 dX6_powers_39 (by decide) ?_
          refine z_iload_n C 2 dX6_powers_44 rfl rfl ?_
          refine z_iconst C dX6_powers_45 ?_
          refine z_isub C dX6_powers_46 ?_
          refine z_istore C [(6, .int (zI (v1 - 1))), (5, za x (29 + q2)), (0, za x (0)), (1, .int (zI (v1))), (2, .int (zI (v2))), (3, .int (zI (v3))), (4, .int (zI (v4)))] dX6_powers_47 (by rw [hN]; decide) rfl ?_
          refine z_aload_n C 2 dX6_powers_49 rfl rfl ?_
          refine g_X6_1 C kf_X6_16 dX6_powers_50 ?_
          refine z_iload C 0 dX6_powers_53 rfl ?_
          refine z_iload C 0 dX6_powers_55 rfl ?_
          refine z_callV (av := fun w => [.int (zI (v1 - 1)), .int (zI (v1 - 1))]) C [] cs_X3_shape (by decide) (zcell_row (by decide)) rfl (mX3_shape 6 (v1 - 1) (v1 - 1) (by decide) σ23 _ h) km_X6_75 dX6_powers_57 rfl rfl ⟨rfl, rfl⟩ ⟨by decide, by decide⟩ (Nat.le_of_ble_eq_true rfl) (fun rv σ27 hp => ?_)
          obtain ⟨rfl, h⟩ := hp
          change zV x σ27 60 [(6, .int (zI (v1 - 1))), (5, za x (29 + q2)), (0, za x (0)), (1, .int (zI (v1))), (2, .int (zI (v2))), (3, .int (zI (v3))), (4, .int (zI (v4)))] []
          refine z_iload_n C 4 dX6_powers_60 rfl rfl ?_
          refine z_iload_n C 5 dX6_powers_61 rfl rfl ?_
          refine z_iload_n C 3 dX6_powers_62 rfl rfl ?_
          refine z_callS (av := fun w => [.int (zI (v2)), .int (zI (v3)), .int (zI (v1))]) C [] cs_X6_powerBy (mX6_powerBy v2 v3 v1  σ27 _ h) km_X6_193 dX6_powers_63 rfl rfl ⟨rfl, rfl⟩ ⟨by decide, by decide⟩ (Nat.le_of_ble_eq_true rfl) (fun rv σ28 hp => ?_)
          obtain ⟨a29, rfl, h⟩ := hp
          change zV x σ28 66 [(6, .int (zI (v1 - 1))), (5, za x (29 + q2)), (0, za x (0)), (1, .int (zI (v1))), (2, .int (zI (v2))), (3, .int (zI (v3))), (4, .int (zI (v4)))] [.int (zI (a29))]
          refine z_istore C [(7, .int (zI (a29))), (6, .int (zI (v1 - 1))), (5, za x (29 + q2)), (0, za x (0)), (1, .int (zI (v1))), (2, .int (zI (v2))), (3, .int (zI (v3))), (4, .int (zI (v4)))] dX6_powers_66 (by rw [hN]; decide) rfl ?_
          refine z_iconst C dX6_powers_68 ?_
          refine z_istore C [(8, .int (zI (0))), (7, .int (zI (a29))), (6, .int (zI (v1 - 1))), (5, za x (29 + q2)), (0, za x (0)), (1, .int (zI (v1))), (2, .int (zI (v2))), (3, .int (zI (v3))), (4, .int (zI (v4)))] dX6_powers_69 (by rw [hN]; decide) rfl ?_
          refine z_sub C [4, 5, 6, 3, 2, 1, 0] [(0, za x (0)), (1, .int (zI (v1))), (2, .int (zI (v2))), (5, za x (29 + q2)), (6, .int (zI (v1 - 1))), (7, .int (zI (a29))), (8, .int (zI (0)))] rfl ?_
          obtain ⟨n30, h⟩ := h
          exact sX6_powers_71 C hN E n30 v1 v2 q2 (v1 - 1) a29 0 hq2 σ28 h
def wX6_quarrelCount_31 (k : Int → Hp → Prop) (K19 : Nat → Int → Int → Int → Int → Int → Hp → Prop) : Nat → Nat → Int → Int → Int → Int → Int → Int → Hp → Prop
  | 0, _, _, _, _, _, _, _, _ => False
  | n + 1, r0, v1, v2, v3, v4, v5, v6, σ => zrg v6 ∧ zrg v5 ∧ ((v5 ≤ v6 → K19 r0 v1 v2 v3 v4 (v5 + 1) σ) ∧ (¬ (v5 ≤ v6) → wX6_quarrel r0 v1 v6 v5 v4 σ (fun a5 σ4 => zrg a5 ∧ ((a5 = 0 → wX6_quarrelCount_31 k K19 n r0 v1 v2 v3 v4 v5 (v6 + 1) σ4) ∧ (¬ (a5 = 0) → wX6_quarrelCount_31 k K19 n r0 v1 v2 (v3 + 1) v4 v5 (v6 + 1) σ4)))))
set_option maxRecDepth 100000 in
theorem sX6_quarrelCount_31 {x : Cx} (C : zOk x cX6_quarrelCount RX6 (some .int) (4) (91)) (hN : x.2.2.2.2.1 = 7) {k : Int → Hp → Prop} (E : zEnd x (zPi k x.2.1)) {K19 : Nat → Int → Int → Int → Int → Int → Hp → Prop} (H19 : ∀ (r0 : Nat) (v1 : Int) (v2 : Int) (v3 : Int) (v4 : Int) (v5 : Int) (hr0 : r0 < 7) (σ : Hp), K19 r0 v1 v2 v3 v4 v5 σ → zV x σ 19 [(0, za x (29 + r0)), (1, .int (zI (v1))), (2, .int (zI (v2))), (3, .int (zI (v3))), (4, .int (zI (v4))), (5, .int (zI (v5)))] []) : ∀ (n : Nat) (r0 : Nat) (v1 : Int) (v2 : Int) (v3 : Int) (v4 : Int) (v5 : Int) (v6 : Int) (hr0 : r0 < 7) (σ : Hp), wX6_quarrelCount_31 k K19 n r0 v1 v2 v3 v4 v5 v6 σ → zV x σ 31 [(0, za x (29 + r0)), (1, .int (zI (v1))), (2, .int (zI (v2))), (3, .int (zI (v3))), (4, .int (zI (v4))), (5, .int (zI (v5))), (6, .int (zI (v6)))] [] := by
  intro n
  induction n with
  | zero => intro _ _ _ _ _ _ _ _ _ h; exact h.elim
  | succ n ih =>
    intro r0 v1 v2 v3 v4 v5 v6 hr0 σ h
    unfold wX6_quarrelCount_31 at h
    refine z_iload C 6 dX6_quarrelCount_31 rfl ?_
    refine z_iload C 5 dX6_quarrelCount_33 rfl ?_
    obtain ⟨o1, h⟩ := h
    obtain ⟨o2, h⟩ := h
    refine z_icmp_ge C 61 dX6_quarrelCount_35 (by decide) o1 o2 (fun c3 => ?_) (fun c3 => ?_)
    · have h := h.1 c3
      refine z_iinc C 5 [(5, .int (zI (v5 + 1))), (0, za x (29 + r0)), (1, .int (zI (v1))), (2, .int (zI (v2))), (3, .int (zI (v3))), (4, .int (zI (v4))), (6, .int (zI (v6)))] dX6_quarrelCount_61 rfl (by rw [hN]; decide) rfl ?_
      refine z_goto C 19 dX6_quarrelCount_64 (by decide) ?_
      refine z_sub C [1, 2, 3, 4, 5, 0] [(0, za x (29 + r0)), (1, .int (zI (v1))), (2, .int (zI (v2))), (3, .int (zI (v3))), (4, .int (zI (v4))), (5, .int (zI (v5 + 1)))] rfl ?_
      exact H19 r0 v1 v2 v3 v4 (v5 + 1) hr0 σ h
    · have h := h.2 c3
      refine z_aload_n C 0 dX6_quarrelCount_38 rfl rfl ?_
      refine z_iload_n C 1 dX6_quarrelCount_39 rfl rfl ?_
      refine z_iload C 6 dX6_quarrelCount_40 rfl ?_
      refine z_iload C 5 dX6_quarrelCount_42 rfl ?_
      refine z_iload C 4 dX6_quarrelCount_44 rfl ?_
      refine z_callS (av := fun w => [.ref (w.2.1 (29 + r0)), .int (zI (v1)), .int (zI (v6)), .int (zI (v5)), .int (zI (v4))]) C [] cs_X6_quarrel (mX6_quarrel r0 v1 v6 v5 v4 hr0 σ _ h) km_X6_271 dX6_quarrelCount_46 rfl rfl ⟨rfl, rfl⟩ ⟨by decide, by decide⟩ (Nat.le_of_ble_eq_true rfl) (fun rv σ4 hp => ?_)
      obtain ⟨a5, rfl, h⟩ := hp
      change zV x σ4 49 [(0, za x (29 + r0)), (1, .int (zI (v1))), (2, .int (zI (v2))), (3, .int (zI (v3))), (4, .int (zI (v4))), (5, .int (zI (v5))), (6, .int (zI (v6)))] [.int (zI (a5))]
      obtain ⟨o6, h⟩ := h
      refine z_if_eq C 55 dX6_quarrelCount_49 (by decide) o6 (fun c7 => ?_) (fun c7 => ?_)
      · have h := h.1 c7
        refine z_iinc C 6 [(6, .int (zI (v6 + 1))), (0, za x (29 + r0)), (1, .int (zI (v1))), (2, .int (zI (v2))), (3, .int (zI (v3))), (4, .int (zI (v4))), (5, .int (zI (v5)))] dX6_quarrelCount_55 rfl (by rw [hN]; decide) rfl ?_
        refine z_goto C 31 dX6_quarrelCount_58 (by decide) ?_
        refine z_sub C [1, 2, 3, 4, 5, 6, 0] [(0, za x (29 + r0)), (1, .int (zI (v1))), (2, .int (zI (v2))), (3, .int (zI (v3))), (4, .int (zI (v4))), (5, .int (zI (v5))), (6, .int (zI (v6 + 1)))] rfl ?_
        exact ih r0 v1 v2 v3 v4 v5 (v6 + 1) hr0 σ4 h
      · have h := h.2 c7
        refine z_iinc C 3 [(3, .int (zI (v3 + 1))), (0, za x (29 + r0)), (1, .int (zI (v1))), (2, .int (zI (v2))), (4, .int (zI (v4))), (5, .int (zI (v5))), (6, .int (zI (v6)))] dX6_quarrelCount_52 rfl (by rw [hN]; decide) rfl ?_
        refine z_iinc C 6 [(6, .int (zI (v6 + 1))), (3, .int (zI (v3 + 1))), (0, za x (29 + r0)), (1, .int (zI (v1))), (2, .int (zI (v2))), (4, .int (zI (v4))), (5, .int (zI (v5)))] dX6_quarrelCount_55 rfl (by rw [hN]; decide) rfl ?_
        refine z_goto C 31 dX6_quarrelCount_58 (by decide) ?_
        refine z_sub C [2, 3, 4, 1, 5, 6, 0] [(0, za x (29 + r0)), (1, .int (zI (v1))), (2, .int (zI (v2))), (3, .int (zI (v3 + 1))), (4, .int (zI (v4))), (5, .int (zI (v5))), (6, .int (zI (v6 + 1)))] rfl ?_
        exact ih r0 v1 v2 (v3 + 1) v4 v5 (v6 + 1) hr0 σ4 h
def wX6_quarrelCount_19 (k : Int → Hp → Prop) (K10 : Nat → Int → Int → Int → Int → Hp → Prop) : Nat → Nat → Int → Int → Int → Int → Int → Hp → Prop
  | 0, _, _, _, _, _, _, _ => False
  | n + 1, r0, v1, v2, v3, v4, v5, σ => zrg (v5 + v4) ∧ zrg v2 ∧ ((v2 ≤ v5 + v4 → K10 r0 v1 v2 v3 (v4 + 1) σ) ∧ (¬ (v2 ≤ v5 + v4) → (∃ N4, wX6_quarrelCount_31 k (fun r0 v1 v2 v3 v4 v5 σ => wX6_quarrelCount_19 k K10 n r0 v1 v2 v3 v4 v5 σ) N4 r0 v1 v2 v3 v4 v5 0 σ)))
set_option maxRecDepth 100000 in
theorem sX6_quarrelCount_19 {x : Cx} (C : zOk x cX6_quarrelCount RX6 (some .int) (4) (91)) (hN : x.2.2.2.2.1 = 7) {k : Int → Hp → Prop} (E : zEnd x (zPi k x.2.1)) {K10 : Nat → Int → Int → Int → Int → Hp → Prop} (H10 : ∀ (r0 : Nat) (v1 : Int) (v2 : Int) (v3 : Int) (v4 : Int) (hr0 : r0 < 7) (σ : Hp), K10 r0 v1 v2 v3 v4 σ → zV x σ 10 [(0, za x (29 + r0)), (1, .int (zI (v1))), (2, .int (zI (v2))), (3, .int (zI (v3))), (4, .int (zI (v4)))] []) : ∀ (n : Nat) (r0 : Nat) (v1 : Int) (v2 : Int) (v3 : Int) (v4 : Int) (v5 : Int) (hr0 : r0 < 7) (σ : Hp), wX6_quarrelCount_19 k K10 n r0 v1 v2 v3 v4 v5 σ → zV x σ 19 [(0, za x (29 + r0)), (1, .int (zI (v1))), (2, .int (zI (v2))), (3, .int (zI (v3))), (4, .int (zI (v4))), (5, .int (zI (v5)))] [] := by
  intro n
  induction n with
  | zero => intro _ _ _ _ _ _ _ _ h; exact h.elim
  | succ n ih =>
    intro r0 v1 v2 v3 v4 v5 hr0 σ h
    unfold wX6_quarrelCount_19 at h
    refine z_iload C 5 dX6_quarrelCount_19 rfl ?_
    refine z_iload C 4 dX6_quarrelCount_21 rfl ?_
    refine z_iadd C dX6_quarrelCount_23 ?_
    refine z_iload_n C 2 dX6_quarrelCount_24 rfl rfl ?_
    obtain ⟨o1, h⟩ := h
    obtain ⟨o2, h⟩ := h
    refine z_icmp_ge C 67 dX6_quarrelCount_25 (by decide) o1 o2 (fun c3 => ?_) (fun c3 => ?_)
    · have h := h.1 c3
      refine z_iinc C 4 [(4, .int (zI (v4 + 1))), (0, za x (29 + r0)), (1, .int (zI (v1))), (2, .int (zI (v2))), (3, .int (zI (v3))), (5, .int (zI (v5)))] dX6_quarrelCount_67 rfl (by rw [hN]; decide) rfl ?_
      refine z_goto C 10 dX6_quarrelCount_70 (by decide) ?_
      refine z_sub C [1, 2, 3, 4, 0] [(0, za x (29 + r0)), (1, .int (zI (v1))), (2, .int (zI (v2))), (3, .int (zI (v3))), (4, .int (zI (v4 + 1)))] rfl ?_
      exact H10 r0 v1 v2 v3 (v4 + 1) hr0 σ h
    · have h := h.2 c3
      refine z_iconst C dX6_quarrelCount_28 ?_
      refine z_istore C [(6, .int (zI (0))), (0, za x (29 + r0)), (1, .int (zI (v1))), (2, .int (zI (v2))), (3, .int (zI (v3))), (4, .int (zI (v4))), (5, .int (zI (v5)))] dX6_quarrelCount_29 (by rw [hN]; decide) rfl ?_
      refine z_sub C [1, 2, 3, 4, 5, 6, 0] [(0, za x (29 + r0)), (1, .int (zI (v1))), (2, .int (zI (v2))), (3, .int (zI (v3))), (4, .int (zI (v4))), (5, .int (zI (v5))), (6, .int (zI (0)))] rfl ?_
      obtain ⟨n4, h⟩ := h
      exact sX6_quarrelCount_31 C hN E (by intro r0 v1 v2 v3 v4 v5 hr0 σ h; exact ih r0 v1 v2 v3 v4 v5 hr0 σ h) n4 r0 v1 v2 v3 v4 v5 0 hr0 σ h
def wX6_quarrelCount_10 (k : Int → Hp → Prop) : Nat → Nat → Int → Int → Int → Int → Hp → Prop
  | 0, _, _, _, _, _, _ => False
  | n + 1, r0, v1, v2, v3, v4, σ => zrg v4 ∧ zrg v2 ∧ ((v2 ≤ v4 → k v3 σ) ∧ (¬ (v2 ≤ v4) → (∃ N4, wX6_quarrelCount_19 k (fun r0 v1 v2 v3 v4 σ => wX6_quarrelCount_10 k n r0 v1 v2 v3 v4 σ) N4 r0 v1 v2 v3 v4 1 σ)))
set_option maxRecDepth 100000 in
theorem sX6_quarrelCount_10 {x : Cx} (C : zOk x cX6_quarrelCount RX6 (some .int) (4) (91)) (hN : x.2.2.2.2.1 = 7) {k : Int → Hp → Prop} (E : zEnd x (zPi k x.2.1)) : ∀ (n : Nat) (r0 : Nat) (v1 : Int) (v2 : Int) (v3 : Int) (v4 : Int) (hr0 : r0 < 7) (σ : Hp), wX6_quarrelCount_10 k n r0 v1 v2 v3 v4 σ → zV x σ 10 [(0, za x (29 + r0)), (1, .int (zI (v1))), (2, .int (zI (v2))), (3, .int (zI (v3))), (4, .int (zI (v4)))] [] := by
  intro n
  induction n with
  | zero => intro _ _ _ _ _ _ _ h; exact h.elim
  | succ n ih =>
    intro r0 v1 v2 v3 v4 hr0 σ h
    unfold wX6_quarrelCount_10 at h
    refine z_iload C 4 dX6_quarrelCount_10 rfl ?_
    refine z_iload_n C 2 dX6_quarrelCount_12 rfl rfl ?_
    obtain ⟨o1, h⟩ := h
    obtain ⟨o2, h⟩ := h
    refine z_icmp_ge C 73 dX6_quarrelCount_13 (by decide) o1 o2 (fun c3 => ?_) (fun c3 => ?_)
    · have h := h.1 c3
      refine z_iload_n C 3 dX6_quarrelCount_73 rfl rfl ?_
      exact z_iret C E dX6_quarrelCount_74 ⟨_, rfl, h⟩
    · have h := h.2 c3
      refine z_iconst C dX6_quarrelCount_16 ?_
      refine z_istore C [(5, .int (zI (1))), (0, za x (29 + r0)), (1, .int (zI (v1))), (2, .int (zI (v2))), (3, .int (zI (v3))), (4, .int (zI (v4)))] dX6_quarrelCount_17 (by rw [hN]; decide) rfl ?_
      refine z_sub C [1, 2, 3, 4, 5, 0] [(0, za x (29 + r0)), (1, .int (zI (v1))), (2, .int (zI (v2))), (3, .int (zI (v3))), (4, .int (zI (v4))), (5, .int (zI (1)))] rfl ?_
      obtain ⟨n4, h⟩ := h
      exact sX6_quarrelCount_19 C hN E (by intro r0 v1 v2 v3 v4 hr0 σ h; exact ih r0 v1 v2 v3 v4 hr0 σ h) n4 r0 v1 v2 v3 v4 1 hr0 σ h
def wX6_quarrelCount (r0 : Nat) (v1 : Int) (σ : Hp) (k : Int → Hp → Prop) : Prop :=
  wX3_columns r0 σ (fun a2 σ1 => (∃ N3, wX6_quarrelCount_10 k N3 r0 v1 a2 0 1 σ1))
set_option maxRecDepth 100000 in
theorem mX6_quarrelCount (r0 : Nat) (v1 : Int) (hr0 : r0 < 7) (σ : Hp) (k : Int → Hp → Prop) (h : wX6_quarrelCount r0 v1 σ k) (l : Launch) : zMt l yX6_quarrelCount cX6_quarrelCount 7 (some .int) { frames := 4, cells := 0, slots := 0, locals := 91 } (fun w => [.ref (w.2.1 (29 + r0)), .int (zI (v1))]) σ (zPi k) := by
  refine zMt_of (plainFor_of_name (by decide)) (fun w => Nat.le_of_ble_eq_true rfl) (fun x hl hN C E => ?_)
  change zV x σ 0 [(0, za x (29 + r0)), (1, .int (zI (v1)))] []
  change zOk x cX6_quarrelCount RX6 (some .int) (4) (91) at C
  unfold wX6_quarrelCount at h
  refine z_aload_n C 0 dX6_quarrelCount_0 rfl rfl ?_
  refine z_callV (av := fun w => []) C [] cs_X3_columns (by have := hr0; omega) (zcell_row hr0) rfl (mX3_columns r0 hr0 σ _ h) km_X6_71 dX6_quarrelCount_1 rfl rfl ⟨rfl, rfl⟩ ⟨by decide, by decide⟩ (Nat.le_of_ble_eq_true rfl) (fun rv σ1 hp => ?_)
  obtain ⟨a2, rfl, h⟩ := hp
  change zV x σ1 4 [(0, za x (29 + r0)), (1, .int (zI (v1)))] [.int (zI (a2))]
  refine z_istore_n C [(2, .int (zI (a2))), (0, za x (29 + r0)), (1, .int (zI (v1)))] dX6_quarrelCount_4 rfl (by rw [hN]; decide) rfl ?_
  refine z_iconst C dX6_quarrelCount_5 ?_
  refine z_istore_n C [(3, .int (zI (0))), (2, .int (zI (a2))), (0, za x (29 + r0)), (1, .int (zI (v1)))] dX6_quarrelCount_6 rfl (by rw [hN]; decide) rfl ?_
  refine z_iconst C dX6_quarrelCount_7 ?_
  refine z_istore C [(4, .int (zI (1))), (3, .int (zI (0))), (2, .int (zI (a2))), (0, za x (29 + r0)), (1, .int (zI (v1)))] dX6_quarrelCount_8 (by rw [hN]; decide) rfl ?_
  refine z_sub C [3, 4, 2, 1, 0] [(0, za x (29 + r0)), (1, .int (zI (v1))), (2, .int (zI (a2))), (3, .int (zI (0))), (4, .int (zI (1)))] rfl ?_
  obtain ⟨n3, h⟩ := h
  exact sX6_quarrelCount_10 C hN E n3 r0 v1 a2 0 1 hr0 σ1 h
def wX6_quarrels (v1 : Int) (v2 : Int) (v3 : Int) (σ : Hp) (k : Int → Hp → Prop) : Prop :=
  wX6_rowAt v1 σ (fun w20 σ1 => (w20 = none → k ((-1)) σ1) ∧ ∀ q2, w20 = some q2 → wX6_isKind v2 σ1 (fun a4 σ3 => zrg a4 ∧ ((a4 = 0 → k ((-1)) σ3) ∧ (¬ (a4 = 0) → wX6_within v3 0 2 σ3 (fun a8 σ7 => zrg a8 ∧ ((a8 ≠ 0 → zrg v3 ∧ ((v3 ≠ 0 → wX6_quarrelCount q2 v2 σ7 (fun a14 σ13 => ((v3 ≠ 1 → zrg a14 ∧ ((a14 ≠ 0 → k 0 σ13) ∧ (¬ (a14 ≠ 0) → k 1 σ13))) ∧ (¬ (v3 ≠ 1) → k a14 σ13)))) ∧ (¬ (v3 ≠ 0) → wX6_firstQuarrel q2 v2 σ7 (fun a19 σ18 => k a19 σ18)))) ∧ (¬ (a8 ≠ 0) → k ((-1)) σ7)))))))
set_option maxRecDepth 100000 in
theorem mX6_quarrels (v1 : Int) (v2 : Int) (v3 : Int) (σ : Hp) (k : Int → Hp → Prop) (h : wX6_quarrels v1 v2 v3 σ k) (l : Launch) : zMt l yX6_quarrels cX6_quarrels 6 (some .int) { frames := 5, cells := 0, slots := 0, locals := 117 } (fun w => [.ref (w.2.1 (0)), .int (zI (v1)), .int (zI (v2)), .int (zI (v3))]) σ (zPi k) := by
  refine zMt_of (plainFor_of_name (by decide)) (fun w => Nat.le_of_ble_eq_true rfl) (fun x hl hN C E => ?_)
  change zV x σ 0 [(0, za x (0)), (1, .int (zI (v1))), (2, .int (zI (v2))), (3, .int (zI (v3)))] []
  change zOk x cX6_quarrels RX6 (some .int) (5) (117) at C
  unfold wX6_quarrels at h
  refine z_aload_n C 0 dX6_quarrels_0 rfl rfl ?_
  refine z_iload_n C 1 dX6_quarrels_1 rfl rfl ?_
  refine z_callV (av := fun w => [.int (zI (v1))]) C [] cs_X6_rowAt (by decide) (fun _ _ => rfl) rfl (mX6_rowAt v1  σ _ h) km_X6_59 dX6_quarrels_2 rfl rfl ⟨rfl, rfl⟩ ⟨by decide, by decide⟩ (Nat.le_of_ble_eq_true rfl) (fun rv σ1 hp => ?_)
  rcases hp with ⟨rfl, h⟩ | ⟨q2, hq2, rfl, h⟩
  · have h := h.1 rfl
    change zV x σ1 5 [(0, za x (0)), (1, .int (zI (v1))), (2, .int (zI (v2))), (3, .int (zI (v3)))] [.null]
    refine z_astoreN C [(4, .null), (0, za x (0)), (1, .int (zI (v1))), (2, .int (zI (v2))), (3, .int (zI (v3)))] dX6_quarrels_5 (by rw [hN]; decide) rfl ?_
    refine z_aloadN C 0 dX6_quarrels_7 rfl ?_
    refine z_ifnullN C 28 dX6_quarrels_9 (by decide) ?_
    refine z_iconst C dX6_quarrels_28 ?_
    exact z_iret C E dX6_quarrels_29 ⟨_, rfl, h⟩
  · have h := h.2 q2 rfl
    change zV x σ1 5 [(0, za x (0)), (1, .int (zI (v1))), (2, .int (zI (v2))), (3, .int (zI (v3)))] [za x (29 + q2)]
    refine z_astore C [(4, za x (29 + q2)), (0, za x (0)), (1, .int (zI (v1))), (2, .int (zI (v2))), (3, .int (zI (v3)))] dX6_quarrels_5 (by rw [hN]; decide) rfl ?_
    refine z_aload C 0 dX6_quarrels_7 rfl ?_
    refine z_ifnull C dX6_quarrels_9 ?_
    refine z_iload_n C 3 dX6_quarrels_12 rfl rfl ?_
    refine z_callS (av := fun w => [.int (zI (v2))]) C [] cs_X6_isKind (mX6_isKind v2  σ1 _ h) km_X6_129 dX6_quarrels_13 rfl rfl ⟨rfl, rfl⟩ ⟨by decide, by decide⟩ (Nat.le_of_ble_eq_true rfl) (fun rv σ3 hp => ?_)
    obtain ⟨a4, rfl, h⟩ := hp
    change zV x σ3 16 [(4, za x (29 + q2)), (0, za x (0)), (1, .int (zI (v1))), (2, .int (zI (v2))), (3, .int (zI (v3)))] [.int (zI (a4))]
    obtain ⟨o5, h⟩ := h
    refine z_if_eq C 28 dX6_quarrels_16 (by decide) o5 (fun c6 => ?_) (fun c6 => ?_)
    · have h := h.1 c6
      refine z_iconst C dX6_quarrels_28 ?_
      exact z_iret C E dX6_quarrels_29 ⟨_, rfl, h⟩
    · have h := h.2 c6
      refine z_iload_n C 4 dX6_quarrels_19 rfl rfl ?_
      refine z_iconst C dX6_quarrels_20 ?_
      refine z_iconst C dX6_quarrels_21 ?_
      refine z_callS (av := fun w => [.int (zI (v3)), .int (zI (0)), .int (zI (2))]) C [] cs_X6_within (mX6_within v3 0 2  σ3 _ h) km_X6_63 dX6_quarrels_22 rfl rfl ⟨rfl, rfl⟩ ⟨by decide, by decide⟩ (Nat.le_of_ble_eq_true rfl) (fun rv σ7 hp => ?_)
      obtain ⟨a8, rfl, h⟩ := hp
      change zV x σ7 25 [(4, za x (29 + q2)), (0, za x (0)), (1, .int (zI (v1))), (2, .int (zI (v2))), (3, .int (zI (v3)))] [.int (zI (a8))]
      obtain ⟨o9, h⟩ := h
      refine z_if_ne C 30 dX6_quarrels_25 (by decide) o9 (fun c10 => ?_) (fun c10 => ?_)
      · have h := h.1 c10
        refine z_iload_n C 4 dX6_quarrels_30 rfl rfl ?_
        obtain ⟨o11, h⟩ := h
        refine z_if_ne C 41 dX6_quarrels_31 (by decide) o11 (fun c12 => ?_) (fun c12 => ?_)
        · have h := h.1 c12
          refine z_aload C 0 dX6_quarrels_41 rfl ?_
          refine z_iload_n C 3 dX6_quarrels_43 rfl rfl ?_
          refine z_callS (av := fun w => [.ref (w.2.1 (29 + q2)), .int (zI (v2))]) C [] cs_X6_quarrelCount (mX6_quarrelCount q2 v2 hq2 σ7 _ h) km_X6_140 dX6_quarrels_44 rfl rfl ⟨rfl, rfl⟩ ⟨by decide, by decide⟩ (Nat.le_of_ble_eq_true rfl) (fun rv σ13 hp => ?_)
          obtain ⟨a14, rfl, h⟩ := hp
          change zV x σ13 47 [(4, za x (29 + q2)), (0, za x (0)), (1, .int (zI (v1))), (2, .int (zI (v2))), (3, .int (zI (v3)))] [.int (zI (a14))]
          refine z_istore C [(5, .int (zI (a14))), (4, za x (29 + q2)), (0, za x (0)), (1, .int (zI (v1))), (2, .int (zI (v2))), (3, .int (zI (v3)))] dX6_quarrels_47 (by rw [hN]; decide) rfl ?_
          refine z_iload_n C 5 dX6_quarrels_49 rfl rfl ?_
          refine z_iconst C dX6_quarrels_50 ?_
          refine z_icmp_ne C 57 dX6_quarrels_51 (by decide) o11 (zrg_d rfl) (fun c15 => ?_) (fun c15 => ?_)
          · have h := h.1 c15
            refine z_iload C 0 dX6_quarrels_57 rfl ?_
            obtain ⟨o16, h⟩ := h
            refine z_if_ne C 66 dX6_quarrels_59 (by decide) o16 (fun c17 => ?_) (fun c17 => ?_)
            · have h := h.1 c17
              refine z_iconst C dX6_quarrels_66 ?_
              exact z_iret C E dX6_quarrels_67 ⟨_, rfl, h⟩
            · have h := h.2 c17
              refine z_iconst C dX6_quarrels_62 ?_
              refine z_goto C 67 dX6_quarrels_63 (by decide) ?_
              exact z_iret C E dX6_quarrels_67 ⟨_, rfl, h⟩
          · have h := h.2 c15
            refine z_iload C 0 dX6_quarrels_54 rfl ?_
            exact z_iret C E dX6_quarrels_56 ⟨_, rfl, h⟩
        · have h := h.2 c12
          refine z_aload C 0 dX6_quarrels_34 rfl ?_
          refine z_iload_n C 3 dX6_quarrels_36 rfl rfl ?_
          refine z_callS (av := fun w => [.ref (w.2.1 (29 + q2)), .int (zI (v2))]) C [] cs_X6_firstQuarrel (mX6_firstQuarrel q2 v2 hq2 σ7 _ h) km_X6_136 dX6_quarrels_37 rfl rfl ⟨rfl, rfl⟩ ⟨by decide, by decide⟩ (Nat.le_of_ble_eq_true rfl) (fun rv σ18 hp => ?_)
          obtain ⟨a19, rfl, h⟩ := hp
          change zV x σ18 40 [(4, za x (29 + q2)), (0, za x (0)), (1, .int (zI (v1))), (2, .int (zI (v2))), (3, .int (zI (v3)))] [.int (zI (a19))]
          exact z_iret C E dX6_quarrels_40 ⟨_, rfl, h⟩
      · have h := h.2 c10
        refine z_iconst C dX6_quarrels_28 ?_
        exact z_iret C E dX6_quarrels_29 ⟨_, rfl, h⟩
def wX6_row_61 (k : Int → Hp → Prop) : Nat → Int → Int → Nat → Int → Int → Hp → Prop
  | 0, _, _, _, _, _, _ => False
  | n + 1, v2, v4, r6, v7, v8, σ => zrg v8 ∧ zrg v2 ∧ ((v2 ≤ v8 → k v7 σ) ∧ (¬ (v2 ≤ v8) → wX6_nibble v4 ((v2 - 1) - v8) σ (fun a5 σ4 => wX3_put r6 v8 a5 σ4 (fun σ6 => wX6_row_61 k n v2 v4 r6 v7 (v8 + 1) σ6))))
set_option maxRecDepth 100000 in
theorem sX6_row_61 {x : Cx} (C : zOk x cX6_row RX6 (some .int) (2) (47)) (hN : x.2.2.2.2.1 = 9) {k : Int → Hp → Prop} (E : zEnd x (zPi k x.2.1)) : ∀ (n : Nat) (v2 : Int) (v4 : Int) (r6 : Nat) (v7 : Int) (v8 : Int) (hr6 : r6 < 7) (σ : Hp), wX6_row_61 k n v2 v4 r6 v7 v8 σ → zV x σ 61 [(2, .int (zI (v2))), (4, .long (zJ (v4))), (6, za x (29 + r6)), (7, .int (zI (v7))), (8, .int (zI (v8)))] [] := by
  intro n
  induction n with
  | zero => intro _ _ _ _ _ _ _ h; exact h.elim
  | succ n ih =>
    intro v2 v4 r6 v7 v8 hr6 σ h
    unfold wX6_row_61 at h
    refine z_iload C 4 dX6_row_61 rfl ?_
    refine z_iload_n C 0 dX6_row_63 rfl rfl ?_
    obtain ⟨o1, h⟩ := h
    obtain ⟨o2, h⟩ := h
    refine z_icmp_ge C 91 dX6_row_64 (by decide) o1 o2 (fun c3 => ?_) (fun c3 => ?_)
    · have h := h.1 c3
      refine z_iload C 3 dX6_row_91 rfl ?_
      exact z_iret C E dX6_row_93 ⟨_, rfl, h⟩
    · have h := h.2 c3
      refine z_aload C 2 dX6_row_67 rfl ?_
      refine z_iload C 4 dX6_row_69 rfl ?_
      refine z_lload C 1 dX6_row_71 rfl ?_
      refine z_iload_n C 0 dX6_row_73 rfl rfl ?_
      refine z_iconst C dX6_row_74 ?_
      refine z_isub C dX6_row_75 ?_
      refine z_iload C 4 dX6_row_76 rfl ?_
      refine z_isub C dX6_row_78 ?_
      refine z_callS (av := fun w => [.long (zJ (v4)), .int (zI ((v2 - 1) - v8))]) C [.int (zI (v8)), za x (29 + r6)] cs_X6_nibble (mX6_nibble v4 ((v2 - 1) - v8)  σ _ h) km_X6_79 dX6_row_79 rfl rfl ⟨rfl, rfl⟩ ⟨by decide, by decide⟩ (Nat.le_of_ble_eq_true rfl) (fun rv σ4 hp => ?_)
      obtain ⟨a5, rfl, h⟩ := hp
      change zV x σ4 82 [(2, .int (zI (v2))), (4, .long (zJ (v4))), (6, za x (29 + r6)), (7, .int (zI (v7))), (8, .int (zI (v8)))] [.int (zI (a5)), .int (zI (v8)), za x (29 + r6)]
      refine z_callV (av := fun w => [.int (zI (v8)), .int (zI (a5))]) C [] cs_X3_put (by have := hr6; omega) (zcell_row hr6) rfl (mX3_put r6 v8 a5 hr6 σ4 _ h) km_X6_83 dX6_row_82 rfl rfl ⟨rfl, rfl⟩ ⟨by decide, by decide⟩ (Nat.le_of_ble_eq_true rfl) (fun rv σ6 hp => ?_)
      obtain ⟨rfl, h⟩ := hp
      change zV x σ6 85 [(2, .int (zI (v2))), (4, .long (zJ (v4))), (6, za x (29 + r6)), (7, .int (zI (v7))), (8, .int (zI (v8)))] []
      refine z_iinc C 4 [(8, .int (zI (v8 + 1))), (2, .int (zI (v2))), (4, .long (zJ (v4))), (6, za x (29 + r6)), (7, .int (zI (v7)))] dX6_row_85 rfl (by rw [hN]; decide) rfl ?_
      refine z_goto C 61 dX6_row_88 (by decide) ?_
      refine z_sub C [1, 2, 3, 4, 0] [(2, .int (zI (v2))), (4, .long (zJ (v4))), (6, za x (29 + r6)), (7, .int (zI (v7))), (8, .int (zI (v8 + 1)))] rfl ?_
      exact ih v2 v4 r6 v7 (v8 + 1) hr6 σ6 h
def wX6_row (v1 : Int) (v2 : Int) (v3 : Int) (v4 : Int) (σ : Hp) (k : Int → Hp → Prop) : Prop :=
  wX6_rowAt v1 σ (fun w19 σ1 => (w19 = none → k ((-1)) σ1) ∧ ∀ q2, w19 = some q2 → wX6_within v2 1 12 σ1 (fun a4 σ3 => zrg a4 ∧ ((a4 = 0 → k ((-1)) σ3) ∧ (¬ (a4 = 0) → wX6_within v3 1 12 σ3 (fun a8 σ7 => zrg a8 ∧ ((a8 = 0 → k ((-1)) σ7) ∧ (¬ (a8 = 0) → wX6_fits v2 v3 v4 σ7 (fun a12 σ11 => zrg a12 ∧ ((a12 ≠ 0 → wX3_columns q2 σ11 (fun a16 σ15 => wX3_shape q2 v2 v3 σ15 (fun σ17 => (∃ N18, wX6_row_61 k N18 v2 v4 q2 a16 0 σ17)))) ∧ (¬ (a12 ≠ 0) → k ((-1)) σ11))))))))))
set_option maxRecDepth 100000 in
theorem mX6_row (v1 : Int) (v2 : Int) (v3 : Int) (v4 : Int) (σ : Hp) (k : Int → Hp → Prop) (h : wX6_row v1 v2 v3 v4 σ k) (l : Launch) : zMt l yX6_row cX6_row 9 (some .int) { frames := 2, cells := 0, slots := 0, locals := 47 } (fun w => [.ref (w.2.1 (0)), .int (zI (v1)), .int (zI (v2)), .int (zI (v3)), .long (zJ (v4))]) σ (zPi k) := by
  refine zMt_of (plainFor_of_name (by decide)) (fun w => Nat.le_of_ble_eq_true rfl) (fun x hl hN C E => ?_)
  change zV x σ 0 [(0, za x (0)), (1, .int (zI (v1))), (2, .int (zI (v2))), (3, .int (zI (v3))), (4, .long (zJ (v4)))] []
  change zOk x cX6_row RX6 (some .int) (2) (47) at C
  unfold wX6_row at h
  refine z_aload_n C 0 dX6_row_0 rfl rfl ?_
  refine z_iload_n C 1 dX6_row_1 rfl rfl ?_
  refine z_callV (av := fun w => [.int (zI (v1))]) C [] cs_X6_rowAt (by decide) (fun _ _ => rfl) rfl (mX6_rowAt v1  σ _ h) km_X6_59 dX6_row_2 rfl rfl ⟨rfl, rfl⟩ ⟨by decide, by decide⟩ (Nat.le_of_ble_eq_true rfl) (fun rv σ1 hp => ?_)
  rcases hp with ⟨rfl, h⟩ | ⟨q2, hq2, rfl, h⟩
  · have h := h.1 rfl
    change zV x σ1 5 [(0, za x (0)), (1, .int (zI (v1))), (2, .int (zI (v2))), (3, .int (zI (v3))), (4, .long (zJ (v4)))] [.null]
    refine z_astoreN C [(6, .null), (0, za x (0)), (1, .int (zI (v1))), (2, .int (zI (v2))), (3, .int (zI (v3))), (4, .long (zJ (v4)))] dX6_row_5 (by rw [hN]; decide) rfl ?_
    refine z_aloadN C 0 dX6_row_7 rfl ?_
    refine z_ifnullN C 42 dX6_row_9 (by decide) ?_
    refine z_iconst C dX6_row_42 ?_
    exact z_iret C E dX6_row_43 ⟨_, rfl, h⟩
  · have h := h.2 q2 rfl
    change zV x σ1 5 [(0, za x (0)), (1, .int (zI (v1))), (2, .int (zI (v2))), (3, .int (zI (v3))), (4, .long (zJ (v4)))] [za x (29 + q2)]
    refine z_astore C [(6, za x (29 + q2)), (0, za x (0)), (1, .int (zI (v1))), (2, .int (zI (v2))), (3, .int (zI (v3))), (4, .long (zJ (v4)))] dX6_row_5 (by rw [hN]; decide) rfl ?_
    refine z_aload C 0 dX6_row_7 rfl ?_
    refine z_ifnull C dX6_row_9 ?_
    refine z_iload_n C 3 dX6_row_12 rfl rfl ?_
    refine z_iconst C dX6_row_13 ?_
    refine z_bipush C dX6_row_14 rfl ?_
    refine z_callS (av := fun w => [.int (zI (v2)), .int (zI (1)), .int (zI (12))]) C [] cs_X6_within (mX6_within v2 1 12  σ1 _ h) km_X6_63 dX6_row_16 rfl rfl ⟨rfl, rfl⟩ ⟨by decide, by decide⟩ (Nat.le_of_ble_eq_true rfl) (fun rv σ3 hp => ?_)
    obtain ⟨a4, rfl, h⟩ := hp
    change zV x σ3 19 [(6, za x (29 + q2)), (0, za x (0)), (1, .int (zI (v1))), (2, .int (zI (v2))), (3, .int (zI (v3))), (4, .long (zJ (v4)))] [.int (zI (a4))]
    obtain ⟨o5, h⟩ := h
    refine z_if_eq C 42 dX6_row_19 (by decide) o5 (fun c6 => ?_) (fun c6 => ?_)
    · have h := h.1 c6
      refine z_iconst C dX6_row_42 ?_
      exact z_iret C E dX6_row_43 ⟨_, rfl, h⟩
    · have h := h.2 c6
      refine z_iload_n C 4 dX6_row_22 rfl rfl ?_
      refine z_iconst C dX6_row_23 ?_
      refine z_bipush C dX6_row_24 rfl ?_
      refine z_callS (av := fun w => [.int (zI (v3)), .int (zI (1)), .int (zI (12))]) C [] cs_X6_within (mX6_within v3 1 12  σ3 _ h) km_X6_63 dX6_row_26 rfl rfl ⟨rfl, rfl⟩ ⟨by decide, by decide⟩ (Nat.le_of_ble_eq_true rfl) (fun rv σ7 hp => ?_)
      obtain ⟨a8, rfl, h⟩ := hp
      change zV x σ7 29 [(6, za x (29 + q2)), (0, za x (0)), (1, .int (zI (v1))), (2, .int (zI (v2))), (3, .int (zI (v3))), (4, .long (zJ (v4)))] [.int (zI (a8))]
      obtain ⟨o9, h⟩ := h
      refine z_if_eq C 42 dX6_row_29 (by decide) o9 (fun c10 => ?_) (fun c10 => ?_)
      · have h := h.1 c10
        refine z_iconst C dX6_row_42 ?_
        exact z_iret C E dX6_row_43 ⟨_, rfl, h⟩
      · have h := h.2 c10
        refine z_iload_n C 3 dX6_row_32 rfl rfl ?_
        refine z_iload_n C 4 dX6_row_33 rfl rfl ?_
        refine z_lload C 5 dX6_row_34 rfl ?_
        refine z_callS (av := fun w => [.int (zI (v2)), .int (zI (v3)), .long (zJ (v4))]) C [] cs_X6_fits (mX6_fits v2 v3 v4  σ7 _ h) km_X6_67 dX6_row_36 rfl rfl ⟨rfl, rfl⟩ ⟨by decide, by decide⟩ (Nat.le_of_ble_eq_true rfl) (fun rv σ11 hp => ?_)
        obtain ⟨a12, rfl, h⟩ := hp
        change zV x σ11 39 [(6, za x (29 + q2)), (0, za x (0)), (1, .int (zI (v1))), (2, .int (zI (v2))), (3, .int (zI (v3))), (4, .long (zJ (v4)))] [.int (zI (a12))]
        obtain ⟨o13, h⟩ := h
        refine z_if_ne C 44 dX6_row_39 (by decide) o13 (fun c14 => ?_) (fun c14 => ?_)
        · have h := h.1 c14
          refine z_aload C 0 dX6_row_44 rfl ?_
          refine z_callV (av := fun w => []) C [] cs_X3_columns (by have := hq2; omega) (zcell_row hq2) rfl (mX3_columns q2 hq2 σ11 _ h) km_X6_71 dX6_row_46 rfl rfl ⟨rfl, rfl⟩ ⟨by decide, by decide⟩ (Nat.le_of_ble_eq_true rfl) (fun rv σ15 hp => ?_)
          obtain ⟨a16, rfl, h⟩ := hp
          change zV x σ15 49 [(6, za x (29 + q2)), (0, za x (0)), (1, .int (zI (v1))), (2, .int (zI (v2))), (3, .int (zI (v3))), (4, .long (zJ (v4)))] [.int (zI (a16))]
          refine z_istore C [(7, .int (zI (a16))), (6, za x (29 + q2)), (0, za x (0)), (1, .int (zI (v1))), (2, .int (zI (v2))), (3, .int (zI (v3))), (4, .long (zJ (v4)))] dX6_row_49 (by rw [hN]; decide) rfl ?_
          refine z_aload C 1 dX6_row_51 rfl ?_
          refine z_iload_n C 4 dX6_row_53 rfl rfl ?_
          refine z_iload_n C 5 dX6_row_54 rfl rfl ?_
          refine z_callV (av := fun w => [.int (zI (v2)), .int (zI (v3))]) C [] cs_X3_shape (by have := hq2; omega) (zcell_row hq2) rfl (mX3_shape q2 v2 v3 hq2 σ15 _ h) km_X6_75 dX6_row_55 rfl rfl ⟨rfl, rfl⟩ ⟨by decide, by decide⟩ (Nat.le_of_ble_eq_true rfl) (fun rv σ17 hp => ?_)
          obtain ⟨rfl, h⟩ := hp
          change zV x σ17 58 [(7, .int (zI (a16))), (6, za x (29 + q2)), (0, za x (0)), (1, .int (zI (v1))), (2, .int (zI (v2))), (3, .int (zI (v3))), (4, .long (zJ (v4)))] []
          refine z_iconst C dX6_row_58 ?_
          refine z_istore C [(8, .int (zI (0))), (7, .int (zI (a16))), (6, za x (29 + q2)), (0, za x (0)), (1, .int (zI (v1))), (2, .int (zI (v2))), (3, .int (zI (v3))), (4, .long (zJ (v4)))] dX6_row_59 (by rw [hN]; decide) rfl ?_
          refine z_sub C [5, 7, 2, 1, 0] [(2, .int (zI (v2))), (4, .long (zJ (v4))), (6, za x (29 + q2)), (7, .int (zI (a16))), (8, .int (zI (0)))] rfl ?_
          obtain ⟨n18, h⟩ := h
          exact sX6_row_61 C hN E n18 v2 v4 q2 a16 0 hq2 σ17 h
        · have h := h.2 c14
          refine z_iconst C dX6_row_42 ?_
          exact z_iret C E dX6_row_43 ⟨_, rfl, h⟩
def wX6_rows (v1 : Int) (v2 : Int) (v3 : Int) (v4 : Int) (v5 : Int) (σ : Hp) (k : Int → Hp → Prop) : Prop :=
  wX6_within v1 1 8 σ (fun a2 σ1 => zrg a2 ∧ ((a2 = 0 → k ((-1)) σ1) ∧ (¬ (a2 = 0) → wX6_within v2 1 6 σ1 (fun a6 σ5 => zrg a6 ∧ ((a6 = 0 → k ((-1)) σ5) ∧ (¬ (a6 = 0) → wX6_isKind v3 σ5 (fun a10 σ9 => zrg a10 ∧ ((a10 ≠ 0 → zrg v4 ∧ ((v4 < (-1) → k ((-1)) σ9) ∧ (¬ (v4 < (-1)) → wX6_rowAt v5 σ9 (fun w20 σ15 => (w20 = none → k ((-1)) σ15) ∧ ∀ q16, w20 = some q16 → wX4_amongRows v1 v2 v3 σ15 (fun σ17 => wX6_countOrMake v4 v5 σ17 (fun a19 σ18 => k a19 σ18)))))) ∧ (¬ (a10 ≠ 0) → k ((-1)) σ9)))))))))
set_option maxRecDepth 100000 in
theorem mX6_rows (v1 : Int) (v2 : Int) (v3 : Int) (v4 : Int) (v5 : Int) (σ : Hp) (k : Int → Hp → Prop) (h : wX6_rows v1 v2 v3 v4 v5 σ k) (l : Launch) : zMt l yX6_rows cX6_rows 6 (some .int) { frames := 20, cells := 0, slots := 0, locals := 467 } (fun w => [.ref (w.2.1 (0)), .int (zI (v1)), .int (zI (v2)), .int (zI (v3)), .int (zI (v4)), .int (zI (v5))]) σ (zPi k) := by
  refine zMt_of (plainFor_of_name (by decide)) (fun w => Nat.le_of_ble_eq_true rfl) (fun x hl hN C E => ?_)
  change zV x σ 0 [(0, za x (0)), (1, .int (zI (v1))), (2, .int (zI (v2))), (3, .int (zI (v3))), (4, .int (zI (v4))), (5, .int (zI (v5)))] []
  change zOk x cX6_rows RX6 (some .int) (20) (467) at C
  unfold wX6_rows at h
  refine z_iload_n C 1 dX6_rows_0 rfl rfl ?_
  refine z_iconst C dX6_rows_1 ?_
  refine z_bipush C dX6_rows_2 rfl ?_
  refine z_callS (av := fun w => [.int (zI (v1)), .int (zI (1)), .int (zI (8))]) C [] cs_X6_within (mX6_within v1 1 8  σ _ h) km_X6_63 dX6_rows_4 rfl rfl ⟨rfl, rfl⟩ ⟨by decide, by decide⟩ (Nat.le_of_ble_eq_true rfl) (fun rv σ1 hp => ?_)
  obtain ⟨a2, rfl, h⟩ := hp
  change zV x σ1 7 [(0, za x (0)), (1, .int (zI (v1))), (2, .int (zI (v2))), (3, .int (zI (v3))), (4, .int (zI (v4))), (5, .int (zI (v5)))] [.int (zI (a2))]
  obtain ⟨o3, h⟩ := h
  refine z_if_eq C 27 dX6_rows_7 (by decide) o3 (fun c4 => ?_) (fun c4 => ?_)
  · have h := h.1 c4
    refine z_iconst C dX6_rows_27 ?_
    exact z_iret C E dX6_rows_28 ⟨_, rfl, h⟩
  · have h := h.2 c4
    refine z_iload_n C 2 dX6_rows_10 rfl rfl ?_
    refine z_iconst C dX6_rows_11 ?_
    refine z_bipush C dX6_rows_12 rfl ?_
    refine z_callS (av := fun w => [.int (zI (v2)), .int (zI (1)), .int (zI (6))]) C [] cs_X6_within (mX6_within v2 1 6  σ1 _ h) km_X6_63 dX6_rows_14 rfl rfl ⟨rfl, rfl⟩ ⟨by decide, by decide⟩ (Nat.le_of_ble_eq_true rfl) (fun rv σ5 hp => ?_)
    obtain ⟨a6, rfl, h⟩ := hp
    change zV x σ5 17 [(0, za x (0)), (1, .int (zI (v1))), (2, .int (zI (v2))), (3, .int (zI (v3))), (4, .int (zI (v4))), (5, .int (zI (v5)))] [.int (zI (a6))]
    obtain ⟨o7, h⟩ := h
    refine z_if_eq C 27 dX6_rows_17 (by decide) o7 (fun c8 => ?_) (fun c8 => ?_)
    · have h := h.1 c8
      refine z_iconst C dX6_rows_27 ?_
      exact z_iret C E dX6_rows_28 ⟨_, rfl, h⟩
    · have h := h.2 c8
      refine z_iload_n C 3 dX6_rows_20 rfl rfl ?_
      refine z_callS (av := fun w => [.int (zI (v3))]) C [] cs_X6_isKind (mX6_isKind v3  σ5 _ h) km_X6_129 dX6_rows_21 rfl rfl ⟨rfl, rfl⟩ ⟨by decide, by decide⟩ (Nat.le_of_ble_eq_true rfl) (fun rv σ9 hp => ?_)
      obtain ⟨a10, rfl, h⟩ := hp
      change zV x σ9 24 [(0, za x (0)), (1, .int (zI (v1))), (2, .int (zI (v2))), (3, .int (zI (v3))), (4, .int (zI (v4))), (5, .int (zI (v5)))] [.int (zI (a10))]
      obtain ⟨o11, h⟩ := h
      refine z_if_ne C 29 dX6_rows_24 (by decide) o11 (fun c12 => ?_) (fun c12 => ?_)
      · have h := h.1 c12
        refine z_iload C 4 dX6_rows_29 rfl ?_
        refine z_iconst C dX6_rows_31 ?_
        obtain ⟨o13, h⟩ := h
        refine z_icmp_lt C 44 dX6_rows_32 (by decide) o13 (zrg_d rfl) (fun c14 => ?_) (fun c14 => ?_)
        · have h := h.1 c14
          refine z_iconst C dX6_rows_44 ?_
          exact z_iret C E dX6_rows_45 ⟨_, rfl, h⟩
        · have h := h.2 c14
          refine z_aload_n C 0 dX6_rows_35 rfl rfl ?_
          refine z_iload C 5 dX6_rows_36 rfl ?_
          refine z_callV (av := fun w => [.int (zI (v5))]) C [] cs_X6_rowAt (by decide) (fun _ _ => rfl) rfl (mX6_rowAt v5  σ9 _ h) km_X6_59 dX6_rows_38 rfl rfl ⟨rfl, rfl⟩ ⟨by decide, by decide⟩ (Nat.le_of_ble_eq_true rfl) (fun rv σ15 hp => ?_)
          rcases hp with ⟨rfl, h⟩ | ⟨q16, hq16, rfl, h⟩
          · have h := h.1 rfl
            change zV x σ15 41 [(0, za x (0)), (1, .int (zI (v1))), (2, .int (zI (v2))), (3, .int (zI (v3))), (4, .int (zI (v4))), (5, .int (zI (v5)))] [.null]
            refine z_ifnonnullN C dX6_rows_41 ?_
            refine z_iconst C dX6_rows_44 ?_
            exact z_iret C E dX6_rows_45 ⟨_, rfl, h⟩
          · have h := h.2 q16 rfl
            change zV x σ15 41 [(0, za x (0)), (1, .int (zI (v1))), (2, .int (zI (v2))), (3, .int (zI (v3))), (4, .int (zI (v4))), (5, .int (zI (v5)))] [za x (29 + q16)]
            refine z_ifnonnull C 46 dX6_rows_41 (by decide) ?_
            refine z_aload_n C 0 dX6_rows_46 rfl rfl ?_
            refine g_X6_4 C kf_X6_37 dX6_rows_47 ?_
            refine z_iload_n C 1 dX6_rows_50 rfl rfl ?_
            refine z_iload_n C 2 dX6_rows_51 rfl rfl ?_
            refine z_iload_n C 3 dX6_rows_52 rfl rfl ?_
            refine z_callV (av := fun w => [.int (zI (v1)), .int (zI (v2)), .int (zI (v3))]) C [] cs_X4_amongRows (by decide) (fun _ _ => rfl) rfl (mX4_amongRows v1 v2 v3  σ15 _ h) km_X6_183 dX6_rows_53 rfl rfl ⟨rfl, rfl⟩ ⟨by decide, by decide⟩ (Nat.le_of_ble_eq_true rfl) (fun rv σ17 hp => ?_)
            obtain ⟨rfl, h⟩ := hp
            change zV x σ17 56 [(0, za x (0)), (1, .int (zI (v1))), (2, .int (zI (v2))), (3, .int (zI (v3))), (4, .int (zI (v4))), (5, .int (zI (v5)))] []
            refine z_aload_n C 0 dX6_rows_56 rfl rfl ?_
            refine z_iload C 4 dX6_rows_57 rfl ?_
            refine z_iload C 5 dX6_rows_59 rfl ?_
            refine z_callV (av := fun w => [.int (zI (v4)), .int (zI (v5))]) C [] cs_X6_countOrMake (by decide) (fun _ _ => rfl) rfl (mX6_countOrMake v4 v5  σ17 _ h) km_X6_172 dX6_rows_61 rfl rfl ⟨rfl, rfl⟩ ⟨by decide, by decide⟩ (Nat.le_of_ble_eq_true rfl) (fun rv σ18 hp => ?_)
            obtain ⟨a19, rfl, h⟩ := hp
            change zV x σ18 64 [(0, za x (0)), (1, .int (zI (v1))), (2, .int (zI (v2))), (3, .int (zI (v3))), (4, .int (zI (v4))), (5, .int (zI (v5)))] [.int (zI (a19))]
            exact z_iret C E dX6_rows_64 ⟨_, rfl, h⟩
      · have h := h.2 c12
        refine z_iconst C dX6_rows_27 ?_
        exact z_iret C E dX6_rows_28 ⟨_, rfl, h⟩
def wX6_squares (v1 : Int) (v2 : Int) (v3 : Int) (σ : Hp) (k : Int → Hp → Prop) : Prop :=
  wX6_within v1 1 8 σ (fun a2 σ1 => zrg a2 ∧ ((a2 = 0 → k ((-1)) σ1) ∧ (¬ (a2 = 0) → zrg v2 ∧ ((v2 < (-1) → k ((-1)) σ1) ∧ (¬ (v2 < (-1)) → wX6_rowAt v3 σ1 (fun w12 σ7 => (w12 = none → k ((-1)) σ7) ∧ ∀ q8, w12 = some q8 → wX4_amongSquares v1 σ7 (fun σ9 => wX6_countOrMake v2 v3 σ9 (fun a11 σ10 => k a11 σ10))))))))
set_option maxRecDepth 100000 in
theorem mX6_squares (v1 : Int) (v2 : Int) (v3 : Int) (σ : Hp) (k : Int → Hp → Prop) (h : wX6_squares v1 v2 v3 σ k) (l : Launch) : zMt l yX6_squares cX6_squares 4 (some .int) { frames := 20, cells := 0, slots := 0, locals := 467 } (fun w => [.ref (w.2.1 (0)), .int (zI (v1)), .int (zI (v2)), .int (zI (v3))]) σ (zPi k) := by
  refine zMt_of (plainFor_of_name (by decide)) (fun w => Nat.le_of_ble_eq_true rfl) (fun x hl hN C E => ?_)
  change zV x σ 0 [(0, za x (0)), (1, .int (zI (v1))), (2, .int (zI (v2))), (3, .int (zI (v3)))] []
  change zOk x cX6_squares RX6 (some .int) (20) (467) at C
  unfold wX6_squares at h
  refine z_iload_n C 1 dX6_squares_0 rfl rfl ?_
  refine z_iconst C dX6_squares_1 ?_
  refine z_bipush C dX6_squares_2 rfl ?_
  refine z_callS (av := fun w => [.int (zI (v1)), .int (zI (1)), .int (zI (8))]) C [] cs_X6_within (mX6_within v1 1 8  σ _ h) km_X6_63 dX6_squares_4 rfl rfl ⟨rfl, rfl⟩ ⟨by decide, by decide⟩ (Nat.le_of_ble_eq_true rfl) (fun rv σ1 hp => ?_)
  obtain ⟨a2, rfl, h⟩ := hp
  change zV x σ1 7 [(0, za x (0)), (1, .int (zI (v1))), (2, .int (zI (v2))), (3, .int (zI (v3)))] [.int (zI (a2))]
  obtain ⟨o3, h⟩ := h
  refine z_if_eq C 23 dX6_squares_7 (by decide) o3 (fun c4 => ?_) (fun c4 => ?_)
  · have h := h.1 c4
    refine z_iconst C dX6_squares_23 ?_
    exact z_iret C E dX6_squares_24 ⟨_, rfl, h⟩
  · have h := h.2 c4
    refine z_iload_n C 2 dX6_squares_10 rfl rfl ?_
    refine z_iconst C dX6_squares_11 ?_
    obtain ⟨o5, h⟩ := h
    refine z_icmp_lt C 23 dX6_squares_12 (by decide) o5 (zrg_d rfl) (fun c6 => ?_) (fun c6 => ?_)
    · have h := h.1 c6
      refine z_iconst C dX6_squares_23 ?_
      exact z_iret C E dX6_squares_24 ⟨_, rfl, h⟩
    · have h := h.2 c6
      refine z_aload_n C 0 dX6_squares_15 rfl rfl ?_
      refine z_iload_n C 3 dX6_squares_16 rfl rfl ?_
      refine z_callV (av := fun w => [.int (zI (v3))]) C [] cs_X6_rowAt (by decide) (fun _ _ => rfl) rfl (mX6_rowAt v3  σ1 _ h) km_X6_59 dX6_squares_17 rfl rfl ⟨rfl, rfl⟩ ⟨by decide, by decide⟩ (Nat.le_of_ble_eq_true rfl) (fun rv σ7 hp => ?_)
      rcases hp with ⟨rfl, h⟩ | ⟨q8, hq8, rfl, h⟩
      · have h := h.1 rfl
        change zV x σ7 20 [(0, za x (0)), (1, .int (zI (v1))), (2, .int (zI (v2))), (3, .int (zI (v3)))] [.null]
        refine z_ifnonnullN C dX6_squares_20 ?_
        refine z_iconst C dX6_squares_23 ?_
        exact z_iret C E dX6_squares_24 ⟨_, rfl, h⟩
      · have h := h.2 q8 rfl
        change zV x σ7 20 [(0, za x (0)), (1, .int (zI (v1))), (2, .int (zI (v2))), (3, .int (zI (v3)))] [za x (29 + q8)]
        refine z_ifnonnull C 25 dX6_squares_20 (by decide) ?_
        refine z_aload_n C 0 dX6_squares_25 rfl rfl ?_
        refine g_X6_4 C kf_X6_37 dX6_squares_26 ?_
        refine z_iload_n C 1 dX6_squares_29 rfl rfl ?_
        refine z_callV (av := fun w => [.int (zI (v1))]) C [] cs_X4_amongSquares (by decide) (fun _ _ => rfl) rfl (mX4_amongSquares v1  σ7 _ h) km_X6_169 dX6_squares_30 rfl rfl ⟨rfl, rfl⟩ ⟨by decide, by decide⟩ (Nat.le_of_ble_eq_true rfl) (fun rv σ9 hp => ?_)
        obtain ⟨rfl, h⟩ := hp
        change zV x σ9 33 [(0, za x (0)), (1, .int (zI (v1))), (2, .int (zI (v2))), (3, .int (zI (v3)))] []
        refine z_aload_n C 0 dX6_squares_33 rfl rfl ?_
        refine z_iload_n C 2 dX6_squares_34 rfl rfl ?_
        refine z_iload_n C 3 dX6_squares_35 rfl rfl ?_
        refine z_callV (av := fun w => [.int (zI (v2)), .int (zI (v3))]) C [] cs_X6_countOrMake (by decide) (fun _ _ => rfl) rfl (mX6_countOrMake v2 v3  σ9 _ h) km_X6_172 dX6_squares_36 rfl rfl ⟨rfl, rfl⟩ ⟨by decide, by decide⟩ (Nat.le_of_ble_eq_true rfl) (fun rv σ10 hp => ?_)
        obtain ⟨a11, rfl, h⟩ := hp
        change zV x σ10 39 [(0, za x (0)), (1, .int (zI (v1))), (2, .int (zI (v2))), (3, .int (zI (v3)))] [.int (zI (a11))]
        exact z_iret C E dX6_squares_39 ⟨_, rfl, h⟩
def wX6_still (σ : Hp) (k : Int → Hp → Prop) : Prop :=
  wX0_size  σ (fun a2 σ1 => wX0_clear  σ1 (fun σ3 => k a2 σ3))
set_option maxRecDepth 100000 in
theorem mX6_still (σ : Hp) (k : Int → Hp → Prop) (h : wX6_still  σ k) (l : Launch) : zMt l yX6_still cX6_still 2 (some .int) { frames := 1, cells := 0, slots := 0, locals := 20 } (fun w => [.ref (w.2.1 (0))]) σ (zPi k) := by
  refine zMt_of (plainFor_of_name (by decide)) (fun w => Nat.le_of_ble_eq_true rfl) (fun x hl hN C E => ?_)
  change zV x σ 0 [(0, za x (0))] []
  change zOk x cX6_still RX6 (some .int) (1) (20) at C
  unfold wX6_still at h
  refine z_aload_n C 0 dX6_still_0 rfl rfl ?_
  refine g_X6_6 C kf_X6_51 dX6_still_1 ?_
  refine z_callV (av := fun w => []) C [] cs_X0_size (by decide) (fun _ _ => rfl) rfl (mX0_size   σ _ h) km_X6_236 dX6_still_4 rfl rfl ⟨rfl, rfl⟩ ⟨by decide, by decide⟩ (Nat.le_of_ble_eq_true rfl) (fun rv σ1 hp => ?_)
  obtain ⟨a2, rfl, h⟩ := hp
  change zV x σ1 7 [(0, za x (0))] [.int (zI (a2))]
  refine z_istore_n C [(1, .int (zI (a2))), (0, za x (0))] dX6_still_7 rfl (by rw [hN]; decide) rfl ?_
  refine z_aload_n C 1 dX6_still_8 rfl rfl ?_
  refine g_X6_6 C kf_X6_51 dX6_still_9 ?_
  refine z_callV (av := fun w => []) C [] cs_X0_clear (by decide) (fun _ _ => rfl) rfl (mX0_clear   σ1 _ h) km_X6_239 dX6_still_12 rfl rfl ⟨rfl, rfl⟩ ⟨by decide, by decide⟩ (Nat.le_of_ble_eq_true rfl) (fun rv σ3 hp => ?_)
  obtain ⟨rfl, h⟩ := hp
  change zV x σ3 15 [(1, .int (zI (a2))), (0, za x (0))] []
  refine z_iload_n C 0 dX6_still_15 rfl rfl ?_
  exact z_iret C E dX6_still_16 ⟨_, rfl, h⟩
def wX6_sums_71 (k : Int → Hp → Prop) : Nat → Int → Int → Int → Nat → Int → Int → Int → Hp → Prop
  | 0, _, _, _, _, _, _, _, _ => False
  | n + 1, v1, v2, v3, r5, v6, v7, v8, σ => zrg v8 ∧ zrg v6 ∧ ((v6 ≤ v8 → wX6_keepSquare r5 σ (fun a5 σ4 => k a5 σ4)) ∧ (¬ (v6 ≤ v8) → wX6_onlyPartner v7 v3 v1 σ (fun a7 σ6 => wX3_put 6 v8 a7 σ6 (fun σ8 => wX6_rest (v7 * v2) v1 σ8 (fun a10 σ9 => wX6_sums_71 k n v1 v2 v3 r5 v6 a10 (v8 + 1) σ9)))))
set_option maxRecDepth 100000 in
theorem sX6_sums_71 {x : Cx} (C : zOk x cX6_sums RX6 (some .int) (4) (88)) (hN : x.2.2.2.2.1 = 9) {k : Int → Hp → Prop} (E : zEnd x (zPi k x.2.1)) : ∀ (n : Nat) (v1 : Int) (v2 : Int) (v3 : Int) (r5 : Nat) (v6 : Int) (v7 : Int) (v8 : Int) (hr5 : r5 < 7) (σ : Hp), wX6_sums_71 k n v1 v2 v3 r5 v6 v7 v8 σ → zV x σ 71 [(0, za x (0)), (1, .int (zI (v1))), (2, .int (zI (v2))), (3, .int (zI (v3))), (5, za x (29 + r5)), (6, .int (zI (v6))), (7, .int (zI (v7))), (8, .int (zI (v8)))] [] := by
  intro n
  induction n with
  | zero => intro _ _ _ _ _ _ _ _ _ h; exact h.elim
  | succ n ih =>
    intro v1 v2 v3 r5 v6 v7 v8 hr5 σ h
    unfold wX6_sums_71 at h
    refine z_iload C 7 dX6_sums_71 rfl ?_
    refine z_iload C 5 dX6_sums_73 rfl ?_
    obtain ⟨o1, h⟩ := h
    obtain ⟨o2, h⟩ := h
    refine z_icmp_ge C 110 dX6_sums_75 (by decide) o1 o2 (fun c3 => ?_) (fun c3 => ?_)
    · have h := h.1 c3
      refine z_aload_n C 0 dX6_sums_110 rfl rfl ?_
      refine z_aload C 4 dX6_sums_111 rfl ?_
      refine z_callV (av := fun w => [.ref (w.2.1 (29 + r5))]) C [] cs_X6_keepSquare (by decide) (fun _ _ => rfl) rfl (mX6_keepSquare r5 hr5 σ _ h) km_X6_199 dX6_sums_113 rfl rfl ⟨rfl, rfl⟩ ⟨by decide, by decide⟩ (Nat.le_of_ble_eq_true rfl) (fun rv σ4 hp => ?_)
      obtain ⟨a5, rfl, h⟩ := hp
      change zV x σ4 116 [(0, za x (0)), (1, .int (zI (v1))), (2, .int (zI (v2))), (3, .int (zI (v3))), (5, za x (29 + r5)), (6, .int (zI (v6))), (7, .int (zI (v7))), (8, .int (zI (v8)))] [.int (zI (a5))]
      exact z_iret C E dX6_sums_116 ⟨_, rfl, h⟩
    · have h := h.2 c3
      refine z_aload_n C 0 dX6_sums_78 rfl rfl ?_
      refine g_X6_1 C kf_X6_16 dX6_sums_79 ?_
      refine z_iload C 7 dX6_sums_82 rfl ?_
      refine z_iload C 6 dX6_sums_84 rfl ?_
      refine z_iload_n C 3 dX6_sums_86 rfl rfl ?_
      refine z_iload_n C 1 dX6_sums_87 rfl rfl ?_
      refine z_callS (av := fun w => [.int (zI (v7)), .int (zI (v3)), .int (zI (v1))]) C [.int (zI (v8)), za x (29 + 6)] cs_X6_onlyPartner (mX6_onlyPartner v7 v3 v1  σ _ h) km_X6_203 dX6_sums_88 rfl rfl ⟨rfl, rfl⟩ ⟨by decide, by decide⟩ (Nat.le_of_ble_eq_true rfl) (fun rv σ6 hp => ?_)
      obtain ⟨a7, rfl, h⟩ := hp
      change zV x σ6 91 [(0, za x (0)), (1, .int (zI (v1))), (2, .int (zI (v2))), (3, .int (zI (v3))), (5, za x (29 + r5)), (6, .int (zI (v6))), (7, .int (zI (v7))), (8, .int (zI (v8)))] [.int (zI (a7)), .int (zI (v8)), za x (29 + 6)]
      refine z_callV (av := fun w => [.int (zI (v8)), .int (zI (a7))]) C [] cs_X3_put (by decide) (zcell_row (by decide)) rfl (mX3_put 6 v8 a7 (by decide) σ6 _ h) km_X6_83 dX6_sums_91 rfl rfl ⟨rfl, rfl⟩ ⟨by decide, by decide⟩ (Nat.le_of_ble_eq_true rfl) (fun rv σ8 hp => ?_)
      obtain ⟨rfl, h⟩ := hp
      change zV x σ8 94 [(0, za x (0)), (1, .int (zI (v1))), (2, .int (zI (v2))), (3, .int (zI (v3))), (5, za x (29 + r5)), (6, .int (zI (v6))), (7, .int (zI (v7))), (8, .int (zI (v8)))] []
      refine z_iload C 6 dX6_sums_94 rfl ?_
      refine z_iload_n C 2 dX6_sums_96 rfl rfl ?_
      refine z_imul C dX6_sums_97 ?_
      refine z_iload_n C 1 dX6_sums_98 rfl rfl ?_
      refine z_callS (av := fun w => [.int (zI (v7 * v2)), .int (zI (v1))]) C [] cs_X6_rest (mX6_rest (v7 * v2) v1  σ8 _ h) km_X6_196 dX6_sums_99 rfl rfl ⟨rfl, rfl⟩ ⟨by decide, by decide⟩ (Nat.le_of_ble_eq_true rfl) (fun rv σ9 hp => ?_)
      obtain ⟨a10, rfl, h⟩ := hp
      change zV x σ9 102 [(0, za x (0)), (1, .int (zI (v1))), (2, .int (zI (v2))), (3, .int (zI (v3))), (5, za x (29 + r5)), (6, .int (zI (v6))), (7, .int (zI (v7))), (8, .int (zI (v8)))] [.int (zI (a10))]
      refine z_istore C [(7, .int (zI (a10))), (0, za x (0)), (1, .int (zI (v1))), (2, .int (zI (v2))), (3, .int (zI (v3))), (5, za x (29 + r5)), (6, .int (zI (v6))), (8, .int (zI (v8)))] dX6_sums_102 (by rw [hN]; decide) rfl ?_
      refine z_iinc C 7 [(8, .int (zI (v8 + 1))), (7, .int (zI (a10))), (0, za x (0)), (1, .int (zI (v1))), (2, .int (zI (v2))), (3, .int (zI (v3))), (5, za x (29 + r5)), (6, .int (zI (v6)))] dX6_sums_104 rfl (by rw [hN]; decide) rfl ?_
      refine z_goto C 71 dX6_sums_107 (by decide) ?_
      refine z_sub C [2, 3, 4, 5, 6, 7, 1, 0] [(0, za x (0)), (1, .int (zI (v1))), (2, .int (zI (v2))), (3, .int (zI (v3))), (5, za x (29 + r5)), (6, .int (zI (v6))), (7, .int (zI (a10))), (8, .int (zI (v8 + 1)))] rfl ?_
      exact ih v1 v2 v3 r5 v6 a10 (v8 + 1) hr5 σ9 h
def wX6_sums (v1 : Int) (v2 : Int) (v3 : Int) (v4 : Int) (σ : Hp) (k : Int → Hp → Prop) : Prop :=
  wX6_rowAt v4 σ (fun w33 σ1 => (w33 = none → wX6_isToldPrime v1 σ1 (fun a4 σ3 => zrg a4 ∧ ((a4 = 0 → k ((-1)) σ3) ∧ (¬ (a4 = 0) → zrg v1 ∧ ((v1 < 5 → k ((-1)) σ3) ∧ (¬ (v1 < 5) → wX6_within v2 2 (v1 - 1) σ3 (fun a10 σ9 => zrg a10 ∧ ((a10 = 0 → k ((-1)) σ9) ∧ (¬ (a10 = 0) → wX6_within v3 2 (v1 - 1) σ9 (fun a14 σ13 => zrg a14 ∧ ((a14 = 0 → k ((-1)) σ13) ∧ (¬ (a14 = 0) → k ((-1)) σ13)))))))))))) ∧ ∀ q2, w33 = some q2 → wX6_isToldPrime v1 σ1 (fun a18 σ17 => zrg a18 ∧ ((a18 = 0 → k ((-1)) σ17) ∧ (¬ (a18 = 0) → zrg v1 ∧ ((v1 < 5 → k ((-1)) σ17) ∧ (¬ (v1 < 5) → wX6_within v2 2 (v1 - 1) σ17 (fun a24 σ23 => zrg a24 ∧ ((a24 = 0 → k ((-1)) σ23) ∧ (¬ (a24 = 0) → wX6_within v3 2 (v1 - 1) σ23 (fun a28 σ27 => zrg a28 ∧ ((a28 = 0 → k ((-1)) σ27) ∧ (¬ (a28 = 0) → wX3_shape 6 (v1 - 2) (v1 - 2) σ27 (fun σ31 => (∃ N32, wX6_sums_71 k N32 v1 v2 v3 q2 (v1 - 2) v2 0 σ31))))))))))))))
set_option maxRecDepth 100000 in
theorem mX6_sums (v1 : Int) (v2 : Int) (v3 : Int) (v4 : Int) (σ : Hp) (k : Int → Hp → Prop) (h : wX6_sums v1 v2 v3 v4 σ k) (l : Launch) : zMt l yX6_sums cX6_sums 9 (some .int) { frames := 4, cells := 0, slots := 0, locals := 88 } (fun w => [.ref (w.2.1 (0)), .int (zI (v1)), .int (zI (v2)), .int (zI (v3)), .int (zI (v4))]) σ (zPi k) := by
  refine zMt_of (plainFor_of_name (by decide)) (fun w => Nat.le_of_ble_eq_true rfl) (fun x hl hN C E => ?_)
  change zV x σ 0 [(0, za x (0)), (1, .int (zI (v1))), (2, .int (zI (v2))), (3, .int (zI (v3))), (4, .int (zI (v4)))] []
  change zOk x cX6_sums RX6 (some .int) (4) (88) at C
  unfold wX6_sums at h
  refine z_aload_n C 0 dX6_sums_0 rfl rfl ?_
  refine z_iload C 4 dX6_sums_1 rfl ?_
  refine z_callV (av := fun w => [.int (zI (v4))]) C [] cs_X6_rowAt (by decide) (fun _ _ => rfl) rfl (mX6_rowAt v4  σ _ h) km_X6_59 dX6_sums_3 rfl rfl ⟨rfl, rfl⟩ ⟨by decide, by decide⟩ (Nat.le_of_ble_eq_true rfl) (fun rv σ1 hp => ?_)
  rcases hp with ⟨rfl, h⟩ | ⟨q2, hq2, rfl, h⟩
  · have h := h.1 rfl
    change zV x σ1 6 [(0, za x (0)), (1, .int (zI (v1))), (2, .int (zI (v2))), (3, .int (zI (v3))), (4, .int (zI (v4)))] [.null]
    refine z_astoreN C [(5, .null), (0, za x (0)), (1, .int (zI (v1))), (2, .int (zI (v2))), (3, .int (zI (v3))), (4, .int (zI (v4)))] dX6_sums_6 (by rw [hN]; decide) rfl ?_
    refine z_iload_n C 2 dX6_sums_8 rfl rfl ?_
    refine z_callS (av := fun w => [.int (zI (v1))]) C [] cs_X6_isToldPrime (mX6_isToldPrime v1  σ1 _ h) km_X6_190 dX6_sums_9 rfl rfl ⟨rfl, rfl⟩ ⟨by decide, by decide⟩ (Nat.le_of_ble_eq_true rfl) (fun rv σ3 hp => ?_)
    obtain ⟨a4, rfl, h⟩ := hp
    change zV x σ3 12 [(5, .null), (0, za x (0)), (1, .int (zI (v1))), (2, .int (zI (v2))), (3, .int (zI (v3))), (4, .int (zI (v4)))] [.int (zI (a4))]
    obtain ⟨o5, h⟩ := h
    refine z_if_eq C 47 dX6_sums_12 (by decide) o5 (fun c6 => ?_) (fun c6 => ?_)
    · have h := h.1 c6
      refine z_iconst C dX6_sums_47 ?_
      exact z_iret C E dX6_sums_48 ⟨_, rfl, h⟩
    · have h := h.2 c6
      refine z_iload_n C 2 dX6_sums_15 rfl rfl ?_
      refine z_iconst C dX6_sums_16 ?_
      obtain ⟨o7, h⟩ := h
      refine z_icmp_lt C 47 dX6_sums_17 (by decide) o7 (zrg_d rfl) (fun c8 => ?_) (fun c8 => ?_)
      · have h := h.1 c8
        refine z_iconst C dX6_sums_47 ?_
        exact z_iret C E dX6_sums_48 ⟨_, rfl, h⟩
      · have h := h.2 c8
        refine z_iload_n C 3 dX6_sums_20 rfl rfl ?_
        refine z_iconst C dX6_sums_21 ?_
        refine z_iload_n C 2 dX6_sums_22 rfl rfl ?_
        refine z_iconst C dX6_sums_23 ?_
        refine z_isub C dX6_sums_24 ?_
        refine z_callS (av := fun w => [.int (zI (v2)), .int (zI (2)), .int (zI (v1 - 1))]) C [] cs_X6_within (mX6_within v2 2 (v1 - 1)  σ3 _ h) km_X6_63 dX6_sums_25 rfl rfl ⟨rfl, rfl⟩ ⟨by decide, by decide⟩ (Nat.le_of_ble_eq_true rfl) (fun rv σ9 hp => ?_)
        obtain ⟨a10, rfl, h⟩ := hp
        change zV x σ9 28 [(5, .null), (0, za x (0)), (1, .int (zI (v1))), (2, .int (zI (v2))), (3, .int (zI (v3))), (4, .int (zI (v4)))] [.int (zI (a10))]
        obtain ⟨o11, h⟩ := h
        refine z_if_eq C 47 dX6_sums_28 (by decide) o11 (fun c12 => ?_) (fun c12 => ?_)
        · have h := h.1 c12
          refine z_iconst C dX6_sums_47 ?_
          exact z_iret C E dX6_sums_48 ⟨_, rfl, h⟩
        · have h := h.2 c12
          refine z_iload_n C 4 dX6_sums_31 rfl rfl ?_
          refine z_iconst C dX6_sums_32 ?_
          refine z_iload_n C 2 dX6_sums_33 rfl rfl ?_
          refine z_iconst C dX6_sums_34 ?_
          refine z_isub C dX6_sums_35 ?_
          refine z_callS (av := fun w => [.int (zI (v3)), .int (zI (2)), .int (zI (v1 - 1))]) C [] cs_X6_within (mX6_within v3 2 (v1 - 1)  σ9 _ h) km_X6_63 dX6_sums_36 rfl rfl ⟨rfl, rfl⟩ ⟨by decide, by decide⟩ (Nat.le_of_ble_eq_true rfl) (fun rv σ13 hp => ?_)
          obtain ⟨a14, rfl, h⟩ := hp
          change zV x σ13 39 [(5, .null), (0, za x (0)), (1, .int (zI (v1))), (2, .int (zI (v2))), (3, .int (zI (v3))), (4, .int (zI (v4)))] [.int (zI (a14))]
          obtain ⟨o15, h⟩ := h
          refine z_if_eq C 47 dX6_sums_39 (by decide) o15 (fun c16 => ?_) (fun c16 => ?_)
          · have h := h.1 c16
            refine z_iconst C dX6_sums_47 ?_
            exact z_iret C E dX6_sums_48 ⟨_, rfl, h⟩
          · have h := h.2 c16
            refine z_aloadN C 0 dX6_sums_42 rfl ?_
            refine z_ifnonnullN C dX6_sums_44 ?_
            refine z_iconst C dX6_sums_47 ?_
            exact z_iret C E dX6_sums_48 ⟨_, rfl, h⟩
  · have h := h.2 q2 rfl
    change zV x σ1 6 [(0, za x (0)), (1, .int (zI (v1))), (2, .int (zI (v2))), (3, .int (zI (v3))), (4, .int (zI (v4)))] [za x (29 + q2)]
    refine z_astore C [(5, za x (29 + q2)), (0, za x (0)), (1, .int (zI (v1))), (2, .int (zI (v2))), (3, .int (zI (v3))), (4, .int (zI (v4)))] dX6_sums_6 (by rw [hN]; decide) rfl ?_
    refine z_iload_n C 2 dX6_sums_8 rfl rfl ?_
    refine z_callS (av := fun w => [.int (zI (v1))]) C [] cs_X6_isToldPrime (mX6_isToldPrime v1  σ1 _ h) km_X6_190 dX6_sums_9 rfl rfl ⟨rfl, rfl⟩ ⟨by decide, by decide⟩ (Nat.le_of_ble_eq_true rfl) (fun rv σ17 hp => ?_)
    obtain ⟨a18, rfl, h⟩ := hp
    change zV x σ17 12 [(5, za x (29 + q2)), (0, za x (0)), (1, .int (zI (v1))), (2, .int (zI (v2))), (3, .int (zI (v3))), (4, .int (zI (v4)))] [.int (zI (a18))]
    obtain ⟨o19, h⟩ := h
    refine z_if_eq C 47 dX6_sums_12 (by decide) o19 (fun c20 => ?_) (fun c20 => ?_)
    · have h := h.1 c20
      refine z_iconst C dX6_sums_47 ?_
      exact z_iret C E dX6_sums_48 ⟨_, rfl, h⟩
    · have h := h.2 c20
      refine z_iload_n C 2 dX6_sums_15 rfl rfl ?_
      refine z_iconst C dX6_sums_16 ?_
      obtain ⟨o21, h⟩ := h
      refine z_icmp_lt C 47 dX6_sums_17 (by decide) o21 (zrg_d rfl) (fun c22 => ?_) (fun c22 => ?_)
      · have h := h.1 c22
        refine z_iconst C dX6_sums_47 ?_
        exact z_iret C E dX6_sums_48 ⟨_, rfl, h⟩
      · have h := h.2 c22
        refine z_iload_n C 3 dX6_sums_20 rfl rfl ?_
        refine z_iconst C dX6_sums_21 ?_
        refine z_iload_n C 2 dX6_sums_22 rfl rfl ?_
        refine z_iconst C dX6_sums_23 ?_
        refine z_isub C dX6_sums_24 ?_
        refine z_callS (av := fun w => [.int (zI (v2)), .int (zI (2)), .int (zI (v1 - 1))]) C [] cs_X6_within (mX6_within v2 2 (v1 - 1)  σ17 _ h) km_X6_63 dX6_sums_25 rfl rfl ⟨rfl, rfl⟩ ⟨by decide, by decide⟩ (Nat.le_of_ble_eq_true rfl) (fun rv σ23 hp => ?_)
        obtain ⟨a24, rfl, h⟩ := hp
        change zV x σ23 28 [(5, za x (29 + q2)), (0, za x (0)), (1, .int (zI (v1))), (2, .int (zI (v2))), (3, .int (zI (v3))), (4, .int (zI (v4)))] [.int (zI (a24))]
        obtain ⟨o25, h⟩ := h
        refine z_if_eq C 47 dX6_sums_28 (by decide) o25 (fun c26 => ?_) (fun c26 => ?_)
        · have h := h.1 c26
          refine z_iconst C dX6_sums_47 ?_
          exact z_iret C E dX6_sums_48 ⟨_, rfl, h⟩
        · have h := h.2 c26
          refine z_iload_n C 4 dX6_sums_31 rfl rfl ?_
          refine z_iconst C dX6_sums_32 ?_
          refine z_iload_n C 2 dX6_sums_33 rfl rfl ?_
          refine z_iconst C dX6_sums_34 ?_
          refine z_isub C dX6_sums_35 ?_
          refine z_callS (av := fun w => [.int (zI (v3)), .int (zI (2)), .int (zI (v1 - 1))]) C [] cs_X6_within (mX6_within v3 2 (v1 - 1)  σ23 _ h) km_X6_63 dX6_sums_36 rfl rfl ⟨rfl, rfl⟩ ⟨by decide, by decide⟩ (Nat.le_of_ble_eq_true rfl) (fun rv σ27 hp => ?_)
          obtain ⟨a28, rfl, h⟩ := hp
          change zV x σ27 39 [(5, za x (29 + q2)), (0, za x (0)), (1, .int (zI (v1))), (2, .int (zI (v2))), (3, .int (zI (v3))), (4, .int (zI (v4)))] [.int (zI (a28))]
          obtain ⟨o29, h⟩ := h
          refine z_if_eq C 47 dX6_sums_39 (by decide) o29 (fun c30 => ?_) (fun c30 => ?_)
          · have h := h.1 c30
            refine z_iconst C dX6_sums_47 ?_
            exact z_iret C E dX6_sums_48 ⟨_, rfl, h⟩
          · have h := h.2 c30
            refine z_aload C 0 dX6_sums_42 rfl ?_
            refine z_ifnonnull C 49 dX6_sums_44 (by decide) ?_
            refine z_iload_n C 2 dX6_sums_49 rfl rfl ?_
            refine z_iconst C dX6_sums_50 ?_
            refine z_isub C dX6_sums_51 ?_
            refine z_istore C [(6, .int (zI (v1 - 2))), (5, za x (29 + q2)), (0, za x (0)), (1, .int (zI (v1))), (2, .int (zI (v2))), (3, .int (zI (v3))), (4, .int (zI (v4)))] dX6_sums_52 (by rw [hN]; decide) rfl ?_
            refine z_aload_n C 2 dX6_sums_54 rfl rfl ?_
            refine g_X6_1 C kf_X6_16 dX6_sums_55 ?_
            refine z_iload C 0 dX6_sums_58 rfl ?_
            refine z_iload C 0 dX6_sums_60 rfl ?_
            refine z_callV (av := fun w => [.int (zI (v1 - 2)), .int (zI (v1 - 2))]) C [] cs_X3_shape (by decide) (zcell_row (by decide)) rfl (mX3_shape 6 (v1 - 2) (v1 - 2) (by decide) σ27 _ h) km_X6_75 dX6_sums_62 rfl rfl ⟨rfl, rfl⟩ ⟨by decide, by decide⟩ (Nat.le_of_ble_eq_true rfl) (fun rv σ31 hp => ?_)
            obtain ⟨rfl, h⟩ := hp
            change zV x σ31 65 [(6, .int (zI (v1 - 2))), (5, za x (29 + q2)), (0, za x (0)), (1, .int (zI (v1))), (2, .int (zI (v2))), (3, .int (zI (v3))), (4, .int (zI (v4)))] []
            refine z_iload_n C 4 dX6_sums_65 rfl rfl ?_
            refine z_istore C [(7, .int (zI (v2))), (6, .int (zI (v1 - 2))), (5, za x (29 + q2)), (0, za x (0)), (1, .int (zI (v1))), (2, .int (zI (v2))), (3, .int (zI (v3))), (4, .int (zI (v4)))] dX6_sums_66 (by rw [hN]; decide) rfl ?_
            refine z_iconst C dX6_sums_68 ?_
            refine z_istore C [(8, .int (zI (0))), (7, .int (zI (v2))), (6, .int (zI (v1 - 2))), (5, za x (29 + q2)), (0, za x (0)), (1, .int (zI (v1))), (2, .int (zI (v2))), (3, .int (zI (v3))), (4, .int (zI (v4)))] dX6_sums_69 (by rw [hN]; decide) rfl ?_
            refine z_sub C [4, 5, 6, 7, 3, 2, 1, 0] [(0, za x (0)), (1, .int (zI (v1))), (2, .int (zI (v2))), (3, .int (zI (v3))), (5, za x (29 + q2)), (6, .int (zI (v1 - 2))), (7, .int (zI (v2))), (8, .int (zI (0)))] rfl ?_
            obtain ⟨n32, h⟩ := h
            exact sX6_sums_71 C hN E n32 v1 v2 v3 q2 (v1 - 2) v2 0 hq2 σ31 h
