def wX6_told (v1 : Int) (v2 : Int) (σ : Hp) (k : Int → Hp → Prop) : Prop :=
  wX6_rowAt v1 σ (fun w20 σ1 => (w20 = none → k ((-1)) σ1) ∧ ∀ q2, w20 = some q2 → wX6_within v2 0 13 σ1 (fun a4 σ3 => zrg a4 ∧ ((a4 ≠ 0 → zrg v2 ∧ ((v2 ≠ 0 → ((v2 ≠ 1 → wX3_markedAt q2 (v2 - 2) σ3 (fun a11 σ10 => zrg a11 ∧ ((a11 = 0 → k ((-4)) σ10) ∧ (¬ (a11 = 0) → wX3_lineAt q2 (v2 - 2) σ10 (fun a15 σ14 => k a15 σ14))))) ∧ (¬ (v2 ≠ 1) → wX3_lines q2 σ3 (fun a17 σ16 => k a17 σ16)))) ∧ (¬ (v2 ≠ 0) → wX3_columns q2 σ3 (fun a19 σ18 => k a19 σ18)))) ∧ (¬ (a4 ≠ 0) → k ((-1)) σ3))))
set_option maxRecDepth 100000 in
theorem mX6_told (v1 : Int) (v2 : Int) (σ : Hp) (k : Int → Hp → Prop) (h : wX6_told v1 v2 σ k) (l : Launch) : zMt l yX6_told cX6_told 5 (some .int) { frames := 3, cells := 0, slots := 0, locals := 64 } (fun w => [.ref (w.2.1 (0)), .int (zI (v1)), .int (zI (v2))]) σ (zPi k) := by
  refine zMt_of (plainFor_of_name (by decide)) (fun w => Nat.le_of_ble_eq_true rfl) (fun x hl hN C E => ?_)
  change zV x σ 0 [(0, za x (0)), (1, .int (zI (v1))), (2, .int (zI (v2)))] []
  change zOk x cX6_told RX6 (some .int) (3) (64) at C
  unfold wX6_told at h
  refine z_aload_n C 0 dX6_told_0 rfl rfl ?_
  refine z_iload_n C 1 dX6_told_1 rfl rfl ?_
  refine z_callV (av := fun w => [.int (zI (v1))]) C [] cs_X6_rowAt (by decide) (fun _ _ => rfl) rfl (mX6_rowAt v1  σ _ h) km_X6_59 dX6_told_2 rfl rfl ⟨rfl, rfl⟩ ⟨by decide, by decide⟩ (Nat.le_of_ble_eq_true rfl) (fun rv σ1 hp => ?_)
  rcases hp with ⟨rfl, h⟩ | ⟨q2, hq2, rfl, h⟩
  · have h := h.1 rfl
    change zV x σ1 5 [(0, za x (0)), (1, .int (zI (v1))), (2, .int (zI (v2)))] [.null]
    refine z_astore_nN C [(3, .null), (0, za x (0)), (1, .int (zI (v1))), (2, .int (zI (v2)))] dX6_told_5 rfl (by rw [hN]; decide) rfl ?_
    refine z_aload_nN C 0 dX6_told_6 rfl rfl ?_
    refine z_ifnullN C 20 dX6_told_7 (by decide) ?_
    refine z_iconst C dX6_told_20 ?_
    exact z_iret C E dX6_told_21 ⟨_, rfl, h⟩
  · have h := h.2 q2 rfl
    change zV x σ1 5 [(0, za x (0)), (1, .int (zI (v1))), (2, .int (zI (v2)))] [za x (29 + q2)]
    refine z_astore_n C [(3, za x (29 + q2)), (0, za x (0)), (1, .int (zI (v1))), (2, .int (zI (v2)))] dX6_told_5 rfl (by rw [hN]; decide) rfl ?_
    refine z_aload_n C 0 dX6_told_6 rfl rfl ?_
    refine z_ifnull C dX6_told_7 ?_
    refine z_iload_n C 3 dX6_told_10 rfl rfl ?_
    refine z_iconst C dX6_told_11 ?_
    refine z_bipush C dX6_told_12 rfl ?_
    refine z_callS (av := fun w => [.int (zI (v2)), .int (zI (0)), .int (zI (13))]) C [] cs_X6_within (mX6_within v2 0 13  σ1 _ h) km_X6_63 dX6_told_14 rfl rfl ⟨rfl, rfl⟩ ⟨by decide, by decide⟩ (Nat.le_of_ble_eq_true rfl) (fun rv σ3 hp => ?_)
    obtain ⟨a4, rfl, h⟩ := hp
    change zV x σ3 17 [(3, za x (29 + q2)), (0, za x (0)), (1, .int (zI (v1))), (2, .int (zI (v2)))] [.int (zI (a4))]
    obtain ⟨o5, h⟩ := h
    refine z_if_ne C 22 dX6_told_17 (by decide) o5 (fun c6 => ?_) (fun c6 => ?_)
    · have h := h.1 c6
      refine z_iload_n C 3 dX6_told_22 rfl rfl ?_
      obtain ⟨o7, h⟩ := h
      refine z_if_ne C 31 dX6_told_23 (by decide) o7 (fun c8 => ?_) (fun c8 => ?_)
      · have h := h.1 c8
        refine z_iload_n C 3 dX6_told_31 rfl rfl ?_
        refine z_iconst C dX6_told_32 ?_
        refine z_icmp_ne C 41 dX6_told_33 (by decide) o7 (zrg_d rfl) (fun c9 => ?_) (fun c9 => ?_)
        · have h := h.1 c9
          refine z_iload_n C 3 dX6_told_41 rfl rfl ?_
          refine z_iconst C dX6_told_42 ?_
          refine z_isub C dX6_told_43 ?_
          refine z_istore C [(4, .int (zI (v2 - 2))), (3, za x (29 + q2)), (0, za x (0)), (1, .int (zI (v1))), (2, .int (zI (v2)))] dX6_told_44 (by rw [hN]; decide) rfl ?_
          refine z_aload_n C 1 dX6_told_46 rfl rfl ?_
          refine z_iload C 0 dX6_told_47 rfl ?_
          refine z_callV (av := fun w => [.int (zI (v2 - 2))]) C [] cs_X3_markedAt (by have := hq2; omega) (zcell_row hq2) rfl (mX3_markedAt q2 (v2 - 2) hq2 σ3 _ h) km_X6_116 dX6_told_49 rfl rfl ⟨rfl, rfl⟩ ⟨by decide, by decide⟩ (Nat.le_of_ble_eq_true rfl) (fun rv σ10 hp => ?_)
          obtain ⟨a11, rfl, h⟩ := hp
          change zV x σ10 52 [(4, .int (zI (v2 - 2))), (3, za x (29 + q2)), (0, za x (0)), (1, .int (zI (v1))), (2, .int (zI (v2)))] [.int (zI (a11))]
          obtain ⟨o12, h⟩ := h
          refine z_if_eq C 64 dX6_told_52 (by decide) o12 (fun c13 => ?_) (fun c13 => ?_)
          · have h := h.1 c13
            refine z_bipush C dX6_told_64 rfl ?_
            exact z_iret C E dX6_told_66 ⟨_, rfl, h⟩
          · have h := h.2 c13
            refine z_aload_n C 1 dX6_told_55 rfl rfl ?_
            refine z_iload C 0 dX6_told_56 rfl ?_
            refine z_callV (av := fun w => [.int (zI (v2 - 2))]) C [] cs_X3_lineAt (by have := hq2; omega) (zcell_row hq2) rfl (mX3_lineAt q2 (v2 - 2) hq2 σ10 _ h) km_X6_119 dX6_told_58 rfl rfl ⟨rfl, rfl⟩ ⟨by decide, by decide⟩ (Nat.le_of_ble_eq_true rfl) (fun rv σ14 hp => ?_)
            obtain ⟨a15, rfl, h⟩ := hp
            change zV x σ14 61 [(4, .int (zI (v2 - 2))), (3, za x (29 + q2)), (0, za x (0)), (1, .int (zI (v1))), (2, .int (zI (v2)))] [.int (zI (a15))]
            refine z_goto C 66 dX6_told_61 (by decide) ?_
            exact z_iret C E dX6_told_66 ⟨_, rfl, h⟩
        · have h := h.2 c9
          refine z_aload_n C 0 dX6_told_36 rfl rfl ?_
          refine z_callV (av := fun w => []) C [] cs_X3_lines (by have := hq2; omega) (zcell_row hq2) rfl (mX3_lines q2 hq2 σ3 _ h) km_X6_113 dX6_told_37 rfl rfl ⟨rfl, rfl⟩ ⟨by decide, by decide⟩ (Nat.le_of_ble_eq_true rfl) (fun rv σ16 hp => ?_)
          obtain ⟨a17, rfl, h⟩ := hp
          change zV x σ16 40 [(3, za x (29 + q2)), (0, za x (0)), (1, .int (zI (v1))), (2, .int (zI (v2)))] [.int (zI (a17))]
          exact z_iret C E dX6_told_40 ⟨_, rfl, h⟩
      · have h := h.2 c8
        refine z_aload_n C 0 dX6_told_26 rfl rfl ?_
        refine z_callV (av := fun w => []) C [] cs_X3_columns (by have := hq2; omega) (zcell_row hq2) rfl (mX3_columns q2 hq2 σ3 _ h) km_X6_71 dX6_told_27 rfl rfl ⟨rfl, rfl⟩ ⟨by decide, by decide⟩ (Nat.le_of_ble_eq_true rfl) (fun rv σ18 hp => ?_)
        obtain ⟨a19, rfl, h⟩ := hp
        change zV x σ18 30 [(3, za x (29 + q2)), (0, za x (0)), (1, .int (zI (v1))), (2, .int (zI (v2)))] [.int (zI (a19))]
        exact z_iret C E dX6_told_30 ⟨_, rfl, h⟩
    · have h := h.2 c6
      refine z_iconst C dX6_told_20 ?_
      exact z_iret C E dX6_told_21 ⟨_, rfl, h⟩
def wX6_turn (v1 : Int) (v2 : Int) (σ : Hp) (k : Int → Hp → Prop) : Prop :=
  wX6_rowAt v1 σ (fun w15 σ1 => (w15 = none → k ((-1)) σ1) ∧ ∀ q2, w15 = some q2 → wX6_within v2 0 7 σ1 (fun a4 σ3 => zrg a4 ∧ ((a4 ≠ 0 → wX3_isSquare q2 σ3 (fun a8 σ7 => zrg a8 ∧ ((a8 ≠ 0 → wX6_turnInto 6 q2 v2 σ7 (fun σ11 => wX3_copyFrom q2 6 σ11 (fun σ12 => wX3_columns q2 σ12 (fun a14 σ13 => k a14 σ13)))) ∧ (¬ (a8 ≠ 0) → k ((-2)) σ7)))) ∧ (¬ (a4 ≠ 0) → k ((-1)) σ3))))
set_option maxRecDepth 100000 in
theorem mX6_turn (v1 : Int) (v2 : Int) (σ : Hp) (k : Int → Hp → Prop) (h : wX6_turn v1 v2 σ k) (l : Launch) : zMt l yX6_turn cX6_turn 4 (some .int) { frames := 3, cells := 0, slots := 0, locals := 73 } (fun w => [.ref (w.2.1 (0)), .int (zI (v1)), .int (zI (v2))]) σ (zPi k) := by
  refine zMt_of (plainFor_of_name (by decide)) (fun w => Nat.le_of_ble_eq_true rfl) (fun x hl hN C E => ?_)
  change zV x σ 0 [(0, za x (0)), (1, .int (zI (v1))), (2, .int (zI (v2)))] []
  change zOk x cX6_turn RX6 (some .int) (3) (73) at C
  unfold wX6_turn at h
  refine z_aload_n C 0 dX6_turn_0 rfl rfl ?_
  refine z_iload_n C 1 dX6_turn_1 rfl rfl ?_
  refine z_callV (av := fun w => [.int (zI (v1))]) C [] cs_X6_rowAt (by decide) (fun _ _ => rfl) rfl (mX6_rowAt v1  σ _ h) km_X6_59 dX6_turn_2 rfl rfl ⟨rfl, rfl⟩ ⟨by decide, by decide⟩ (Nat.le_of_ble_eq_true rfl) (fun rv σ1 hp => ?_)
  rcases hp with ⟨rfl, h⟩ | ⟨q2, hq2, rfl, h⟩
  · have h := h.1 rfl
    change zV x σ1 5 [(0, za x (0)), (1, .int (zI (v1))), (2, .int (zI (v2)))] [.null]
    refine z_astore_nN C [(3, .null), (0, za x (0)), (1, .int (zI (v1))), (2, .int (zI (v2)))] dX6_turn_5 rfl (by rw [hN]; decide) rfl ?_
    refine z_aload_nN C 0 dX6_turn_6 rfl rfl ?_
    refine z_ifnullN C 20 dX6_turn_7 (by decide) ?_
    refine z_iconst C dX6_turn_20 ?_
    exact z_iret C E dX6_turn_21 ⟨_, rfl, h⟩
  · have h := h.2 q2 rfl
    change zV x σ1 5 [(0, za x (0)), (1, .int (zI (v1))), (2, .int (zI (v2)))] [za x (29 + q2)]
    refine z_astore_n C [(3, za x (29 + q2)), (0, za x (0)), (1, .int (zI (v1))), (2, .int (zI (v2)))] dX6_turn_5 rfl (by rw [hN]; decide) rfl ?_
    refine z_aload_n C 0 dX6_turn_6 rfl rfl ?_
    refine z_ifnull C dX6_turn_7 ?_
    refine z_iload_n C 3 dX6_turn_10 rfl rfl ?_
    refine z_iconst C dX6_turn_11 ?_
    refine z_bipush C dX6_turn_12 rfl ?_
    refine z_callS (av := fun w => [.int (zI (v2)), .int (zI (0)), .int (zI (7))]) C [] cs_X6_within (mX6_within v2 0 7  σ1 _ h) km_X6_63 dX6_turn_14 rfl rfl ⟨rfl, rfl⟩ ⟨by decide, by decide⟩ (Nat.le_of_ble_eq_true rfl) (fun rv σ3 hp => ?_)
    obtain ⟨a4, rfl, h⟩ := hp
    change zV x σ3 17 [(3, za x (29 + q2)), (0, za x (0)), (1, .int (zI (v1))), (2, .int (zI (v2)))] [.int (zI (a4))]
    obtain ⟨o5, h⟩ := h
    refine z_if_ne C 22 dX6_turn_17 (by decide) o5 (fun c6 => ?_) (fun c6 => ?_)
    · have h := h.1 c6
      refine z_aload_n C 0 dX6_turn_22 rfl rfl ?_
      refine z_callV (av := fun w => []) C [] cs_X3_isSquare (by have := hq2; omega) (zcell_row hq2) rfl (mX3_isSquare q2 hq2 σ3 _ h) km_X6_206 dX6_turn_23 rfl rfl ⟨rfl, rfl⟩ ⟨by decide, by decide⟩ (Nat.le_of_ble_eq_true rfl) (fun rv σ7 hp => ?_)
      obtain ⟨a8, rfl, h⟩ := hp
      change zV x σ7 26 [(3, za x (29 + q2)), (0, za x (0)), (1, .int (zI (v1))), (2, .int (zI (v2)))] [.int (zI (a8))]
      obtain ⟨o9, h⟩ := h
      refine z_if_ne C 32 dX6_turn_26 (by decide) o9 (fun c10 => ?_) (fun c10 => ?_)
      · have h := h.1 c10
        refine z_aload_n C 1 dX6_turn_32 rfl rfl ?_
        refine g_X6_1 C kf_X6_16 dX6_turn_33 ?_
        refine z_aload_n C 0 dX6_turn_36 rfl rfl ?_
        refine z_iload_n C 3 dX6_turn_37 rfl rfl ?_
        refine z_callS (av := fun w => [.ref (w.2.1 (29 + 6)), .ref (w.2.1 (29 + q2)), .int (zI (v2))]) C [] cs_X6_turnInto (mX6_turnInto 6 q2 v2 (by decide) hq2 σ7 _ h) km_X6_210 dX6_turn_38 rfl rfl ⟨rfl, rfl⟩ ⟨by decide, by decide⟩ (Nat.le_of_ble_eq_true rfl) (fun rv σ11 hp => ?_)
        obtain ⟨rfl, h⟩ := hp
        change zV x σ11 41 [(3, za x (29 + q2)), (0, za x (0)), (1, .int (zI (v1))), (2, .int (zI (v2)))] []
        refine z_aload_n C 0 dX6_turn_41 rfl rfl ?_
        refine z_aload_n C 1 dX6_turn_42 rfl rfl ?_
        refine g_X6_1 C kf_X6_16 dX6_turn_43 ?_
        refine z_callV (av := fun w => [.ref (w.2.1 (29 + 6))]) C [] cs_X3_copyFrom (by have := hq2; omega) (zcell_row hq2) rfl (mX3_copyFrom q2 6 hq2 (by decide) σ11 _ h) km_X6_214 dX6_turn_46 rfl rfl ⟨rfl, rfl⟩ ⟨by decide, by decide⟩ (Nat.le_of_ble_eq_true rfl) (fun rv σ12 hp => ?_)
        obtain ⟨rfl, h⟩ := hp
        change zV x σ12 49 [(3, za x (29 + q2)), (0, za x (0)), (1, .int (zI (v1))), (2, .int (zI (v2)))] []
        refine z_aload_n C 0 dX6_turn_49 rfl rfl ?_
        refine z_callV (av := fun w => []) C [] cs_X3_columns (by have := hq2; omega) (zcell_row hq2) rfl (mX3_columns q2 hq2 σ12 _ h) km_X6_71 dX6_turn_50 rfl rfl ⟨rfl, rfl⟩ ⟨by decide, by decide⟩ (Nat.le_of_ble_eq_true rfl) (fun rv σ13 hp => ?_)
        obtain ⟨a14, rfl, h⟩ := hp
        change zV x σ13 53 [(3, za x (29 + q2)), (0, za x (0)), (1, .int (zI (v1))), (2, .int (zI (v2)))] [.int (zI (a14))]
        exact z_iret C E dX6_turn_53 ⟨_, rfl, h⟩
      · have h := h.2 c10
        refine z_bipush C dX6_turn_29 rfl ?_
        exact z_iret C E dX6_turn_31 ⟨_, rfl, h⟩
    · have h := h.2 c6
      refine z_iconst C dX6_turn_20 ?_
      exact z_iret C E dX6_turn_21 ⟨_, rfl, h⟩
def wX6_wipe (σ : Hp) (k : Int → Hp → Prop) : Prop :=
  wX5_length  σ (fun a2 σ1 => wX5_clear  σ1 (fun σ3 => k a2 σ3))
set_option maxRecDepth 100000 in
theorem mX6_wipe (σ : Hp) (k : Int → Hp → Prop) (h : wX6_wipe  σ k) (l : Launch) : zMt l yX6_wipe cX6_wipe 2 (some .int) { frames := 1, cells := 0, slots := 0, locals := 20 } (fun w => [.ref (w.2.1 (0))]) σ (zPi k) := by
  refine zMt_of (plainFor_of_name (by decide)) (fun w => Nat.le_of_ble_eq_true rfl) (fun x hl hN C E => ?_)
  change zV x σ 0 [(0, za x (0))] []
  change zOk x cX6_wipe RX6 (some .int) (1) (20) at C
  unfold wX6_wipe at h
  refine z_aload_n C 0 dX6_wipe_0 rfl rfl ?_
  refine g_X6_2 C kf_X6_23 dX6_wipe_1 ?_
  refine z_callV (av := fun w => []) C [] cs_X5_length (by decide) (fun _ _ => rfl) rfl (mX5_length   σ _ h) km_X6_94 dX6_wipe_4 rfl rfl ⟨rfl, rfl⟩ ⟨by decide, by decide⟩ (Nat.le_of_ble_eq_true rfl) (fun rv σ1 hp => ?_)
  obtain ⟨a2, rfl, h⟩ := hp
  change zV x σ1 7 [(0, za x (0))] [.int (zI (a2))]
  refine z_istore_n C [(1, .int (zI (a2))), (0, za x (0))] dX6_wipe_7 rfl (by rw [hN]; decide) rfl ?_
  refine z_aload_n C 1 dX6_wipe_8 rfl rfl ?_
  refine g_X6_2 C kf_X6_23 dX6_wipe_9 ?_
  refine z_callV (av := fun w => []) C [] cs_X5_clear (by decide) (fun _ _ => rfl) rfl (mX5_clear   σ1 _ h) km_X6_97 dX6_wipe_12 rfl rfl ⟨rfl, rfl⟩ ⟨by decide, by decide⟩ (Nat.le_of_ble_eq_true rfl) (fun rv σ3 hp => ?_)
  obtain ⟨rfl, h⟩ := hp
  change zV x σ3 15 [(1, .int (zI (a2))), (0, za x (0))] []
  refine z_iload_n C 0 dX6_wipe_15 rfl rfl ?_
  exact z_iret C E dX6_wipe_16 ⟨_, rfl, h⟩
def wX6_write_31 (k : Int → Hp → Prop) : Nat → Int → Int → Hp → Prop
  | 0, _, _, _ => False
  | n + 1, v2, v4, σ => zrg v4 ∧ ((v4 < 0 → wX5_length  σ (fun a4 σ3 => k a4 σ3)) ∧ (¬ (v4 < 0) → wX5_add (zand (zLushr v2 (8 * v4)) 255) σ (fun σ5 => wX6_write_31 k n v2 (v4 + (-1)) σ5)))
set_option maxRecDepth 100000 in
theorem sX6_write_31 {x : Cx} (C : zOk x cX6_write RX6 (some .int) (2) (43)) (hN : x.2.2.2.2.1 = 5) {k : Int → Hp → Prop} (E : zEnd x (zPi k x.2.1)) : ∀ (n : Nat) (v2 : Int) (v4 : Int) (σ : Hp), wX6_write_31 k n v2 v4 σ → zV x σ 31 [(0, za x (0)), (2, .long (zJ (v2))), (4, .int (zI (v4)))] [] := by
  intro n
  induction n with
  | zero => intro _ _ _ h; exact h.elim
  | succ n ih =>
    intro v2 v4 σ h
    unfold wX6_write_31 at h
    refine z_iload C 2 dX6_write_31 rfl ?_
    obtain ⟨o1, h⟩ := h
    refine z_if_lt C 61 dX6_write_33 (by decide) o1 (fun c2 => ?_) (fun c2 => ?_)
    · have h := h.1 c2
      refine z_aload_n C 0 dX6_write_61 rfl rfl ?_
      refine g_X6_2 C kf_X6_23 dX6_write_62 ?_
      refine z_callV (av := fun w => []) C [] cs_X5_length (by decide) (fun _ _ => rfl) rfl (mX5_length   σ _ h) km_X6_94 dX6_write_65 rfl rfl ⟨rfl, rfl⟩ ⟨by decide, by decide⟩ (Nat.le_of_ble_eq_true rfl) (fun rv σ3 hp => ?_)
      obtain ⟨a4, rfl, h⟩ := hp
      change zV x σ3 68 [(0, za x (0)), (2, .long (zJ (v2))), (4, .int (zI (v4)))] [.int (zI (a4))]
      exact z_iret C E dX6_write_68 ⟨_, rfl, h⟩
    · have h := h.2 c2
      refine z_aload_n C 0 dX6_write_36 rfl rfl ?_
      refine g_X6_2 C kf_X6_23 dX6_write_37 ?_
      refine z_lload_n C 1 dX6_write_40 rfl rfl ?_
      refine z_bipush C dX6_write_41 rfl ?_
      refine z_iload C 2 dX6_write_43 rfl ?_
      refine z_imul C dX6_write_45 ?_
      refine z_lushr C dX6_write_46 ?_
      refine z_l2i C dX6_write_47 ?_
      refine z_sipush C dX6_write_48 rfl ?_
      refine z_iand C dX6_write_51 ?_
      refine z_callV (av := fun w => [.int (zI (zand (zLushr v2 (8 * v4)) 255))]) C [] cs_X5_add (by decide) (fun _ _ => rfl) rfl (mX5_add (zand (zLushr v2 (8 * v4)) 255)  σ _ h) km_X6_90 dX6_write_52 rfl rfl ⟨rfl, rfl⟩ ⟨by decide, by decide⟩ (Nat.le_of_ble_eq_true rfl) (fun rv σ5 hp => ?_)
      obtain ⟨rfl, h⟩ := hp
      change zV x σ5 55 [(0, za x (0)), (2, .long (zJ (v2))), (4, .int (zI (v4)))] []
      refine z_iinc C 2 [(4, .int (zI (v4 + (-1)))), (0, za x (0)), (2, .long (zJ (v2)))] dX6_write_55 rfl (by rw [hN]; decide) rfl ?_
      refine z_goto C 31 dX6_write_58 (by decide) ?_
      refine z_sub C [1, 2, 0] [(0, za x (0)), (2, .long (zJ (v2))), (4, .int (zI (v4 + (-1))))] rfl ?_
      exact ih v2 (v4 + (-1))  σ5 h
def wX6_write (v1 : Int) (v2 : Int) (σ : Hp) (k : Int → Hp → Prop) : Prop :=
  wX6_within v1 1 8 σ (fun a2 σ1 => zrg a2 ∧ ((a2 ≠ 0 → wX5_hasRoomFor v1 σ1 (fun a6 σ5 => zrg a6 ∧ ((a6 ≠ 0 → (∃ N9, wX6_write_31 k N9 v2 (v1 - 1) σ5)) ∧ (¬ (a6 ≠ 0) → k ((-3)) σ5)))) ∧ (¬ (a2 ≠ 0) → k ((-1)) σ1)))
set_option maxRecDepth 100000 in
theorem mX6_write (v1 : Int) (v2 : Int) (σ : Hp) (k : Int → Hp → Prop) (h : wX6_write v1 v2 σ k) (l : Launch) : zMt l yX6_write cX6_write 5 (some .int) { frames := 2, cells := 0, slots := 0, locals := 43 } (fun w => [.ref (w.2.1 (0)), .int (zI (v1)), .long (zJ (v2))]) σ (zPi k) := by
  refine zMt_of (plainFor_of_name (by decide)) (fun w => Nat.le_of_ble_eq_true rfl) (fun x hl hN C E => ?_)
  change zV x σ 0 [(0, za x (0)), (1, .int (zI (v1))), (2, .long (zJ (v2)))] []
  change zOk x cX6_write RX6 (some .int) (2) (43) at C
  unfold wX6_write at h
  refine z_iload_n C 1 dX6_write_0 rfl rfl ?_
  refine z_iconst C dX6_write_1 ?_
  refine z_bipush C dX6_write_2 rfl ?_
  refine z_callS (av := fun w => [.int (zI (v1)), .int (zI (1)), .int (zI (8))]) C [] cs_X6_within (mX6_within v1 1 8  σ _ h) km_X6_63 dX6_write_4 rfl rfl ⟨rfl, rfl⟩ ⟨by decide, by decide⟩ (Nat.le_of_ble_eq_true rfl) (fun rv σ1 hp => ?_)
  obtain ⟨a2, rfl, h⟩ := hp
  change zV x σ1 7 [(0, za x (0)), (1, .int (zI (v1))), (2, .long (zJ (v2)))] [.int (zI (a2))]
  obtain ⟨o3, h⟩ := h
  refine z_if_ne C 12 dX6_write_7 (by decide) o3 (fun c4 => ?_) (fun c4 => ?_)
  · have h := h.1 c4
    refine z_aload_n C 0 dX6_write_12 rfl rfl ?_
    refine g_X6_2 C kf_X6_23 dX6_write_13 ?_
    refine z_iload_n C 1 dX6_write_16 rfl rfl ?_
    refine z_callV (av := fun w => [.int (zI (v1))]) C [] cs_X5_hasRoomFor (by decide) (fun _ _ => rfl) rfl (mX5_hasRoomFor v1  σ1 _ h) km_X6_86 dX6_write_17 rfl rfl ⟨rfl, rfl⟩ ⟨by decide, by decide⟩ (Nat.le_of_ble_eq_true rfl) (fun rv σ5 hp => ?_)
    obtain ⟨a6, rfl, h⟩ := hp
    change zV x σ5 20 [(0, za x (0)), (1, .int (zI (v1))), (2, .long (zJ (v2)))] [.int (zI (a6))]
    obtain ⟨o7, h⟩ := h
    refine z_if_ne C 26 dX6_write_20 (by decide) o7 (fun c8 => ?_) (fun c8 => ?_)
    · have h := h.1 c8
      refine z_iload_n C 1 dX6_write_26 rfl rfl ?_
      refine z_iconst C dX6_write_27 ?_
      refine z_isub C dX6_write_28 ?_
      refine z_istore C [(4, .int (zI (v1 - 1))), (0, za x (0)), (1, .int (zI (v1))), (2, .long (zJ (v2)))] dX6_write_29 (by rw [hN]; decide) rfl ?_
      refine z_sub C [1, 3, 0] [(0, za x (0)), (2, .long (zJ (v2))), (4, .int (zI (v1 - 1)))] rfl ?_
      obtain ⟨n9, h⟩ := h
      exact sX6_write_31 C hN E n9 v2 (v1 - 1)  σ5 h
    · have h := h.2 c8
      refine z_bipush C dX6_write_23 rfl ?_
      exact z_iret C E dX6_write_25 ⟨_, rfl, h⟩
  · have h := h.2 c4
    refine z_iconst C dX6_write_10 ?_
    exact z_iret C E dX6_write_11 ⟨_, rfl, h⟩
def wX7_in (v0 : Int) (v2 : Int) (v4 : Int) (σ : Hp) (k : Int → Hp → Prop) : Prop :=
  zrl v0 ∧ zrl v2 ∧ ((v0 < v2 → k 0 σ) ∧ (¬ (v0 < v2) → zrl v4 ∧ ((v4 < v0 → k 0 σ) ∧ (¬ (v4 < v0) → k 1 σ))))
set_option maxRecDepth 100000 in
theorem mX7_in (v0 : Int) (v2 : Int) (v4 : Int) (σ : Hp) (k : Int → Hp → Prop) (h : wX7_in v0 v2 v4 σ k) (l : Launch) : zMt l yX7_in cX7_in 6 (some .boolean) { frames := 0, cells := 0, slots := 0, locals := 0 } (fun w => [.long (zJ (v0)), .long (zJ (v2)), .long (zJ (v4))]) σ (zPi k) := by
  refine zMt_of (plainFor_of_name (by decide)) (fun w => Nat.le_of_ble_eq_true rfl) (fun x hl hN C E => ?_)
  change zV x σ 0 [(0, .long (zJ (v0))), (2, .long (zJ (v2))), (4, .long (zJ (v4)))] []
  change zOk x cX7_in RX7 (some .boolean) (0) (0) at C
  unfold wX7_in at h
  refine z_lload_n C 0 dX7_in_0 rfl rfl ?_
  refine z_lload_n C 1 dX7_in_1 rfl rfl ?_
  obtain ⟨o1, h⟩ := h
  obtain ⟨o2, h⟩ := h
  refine z_lcmp_lt C 17 dX7_in_2 dX7_in_3 (by decide) o1 o2 (fun c3 => ?_) (fun c3 => ?_)
  · have h := h.1 c3
    refine z_iconst C dX7_in_17 ?_
    exact z_zret C E dX7_in_18 (by decide) ⟨_, rfl, h⟩
  · have h := h.2 c3
    refine z_lload_n C 0 dX7_in_6 rfl rfl ?_
    refine z_lload C 2 dX7_in_7 rfl ?_
    obtain ⟨o4, h⟩ := h
    refine z_lcmp_gt C 17 dX7_in_9 dX7_in_10 (by decide) o1 o4 (fun c5 => ?_) (fun c5 => ?_)
    · have h := h.1 c5
      refine z_iconst C dX7_in_17 ?_
      exact z_zret C E dX7_in_18 (by decide) ⟨_, rfl, h⟩
    · have h := h.2 c5
      refine z_iconst C dX7_in_13 ?_
      refine z_goto C 18 dX7_in_14 (by decide) ?_
      exact z_zret C E dX7_in_18 (by decide) ⟨_, rfl, h⟩
def wX7_at (v1 : Int) (v2 : Int) (σ : Hp) (k : Int → Hp → Prop) : Prop :=
  zrg v2 ∧ (0 ≤ v1 ∧ v1 < 6) ∧ zrg ((σ 18 v1.toNat) - 1) ∧ wX7_in v2 0 ((σ 18 v1.toNat) - 1) σ (fun a5 σ4 => zrg a5 ∧ ((a5 = 0 → k 15 σ4) ∧ (¬ (a5 = 0) → (0 ≤ (12 * v1) + v2 ∧ (12 * v1) + v2 < 72) ∧ k (σ4 20 ((12 * v1) + v2).toNat) σ4)))
set_option maxRecDepth 100000 in
theorem mX7_at (v1 : Int) (v2 : Int) (σ : Hp) (k : Int → Hp → Prop) (h : wX7_at v1 v2 σ k) (l : Launch) : zMt l yX7_at cX7_at 3 (some .int) { frames := 1, cells := 0, slots := 0, locals := 25 } (fun w => [.ref (w.2.1 (17)), .int (zI (v1)), .int (zI (v2))]) σ (zPi k) := by
  refine zMt_of (plainFor_of_name (by decide)) (fun w => Nat.le_of_ble_eq_true rfl) (fun x hl hN C E => ?_)
  change zV x σ 0 [(0, za x (17)), (1, .int (zI (v1))), (2, .int (zI (v2)))] []
  change zOk x cX7_at RX7 (some .int) (1) (25) at C
  unfold wX7_at at h
  refine z_iload_n C 2 dX7_at_0 rfl rfl ?_
  obtain ⟨o1, h⟩ := h
  refine z_i2l C dX7_at_1 o1 ?_
  refine z_lconst (z := 0) C dX7_at_2 rfl ?_
  refine z_aload_n C 0 dX7_at_3 rfl rfl ?_
  refine g_X7_0 C kf_X7_7 dX7_at_4 ?_
  refine z_iload_n C 1 dX7_at_7 rfl rfl ?_
  obtain ⟨o2, h⟩ := h
  refine z_iald C ia_18 dX7_at_8 o2.1 o2.2 ?_
  refine z_iconst C dX7_at_9 ?_
  refine z_isub C dX7_at_10 ?_
  obtain ⟨o3, h⟩ := h
  refine z_i2l C dX7_at_11 o3 ?_
  refine z_callS (av := fun w => [.long (zJ (v2)), .long (zJ (0)), .long (zJ ((σ 18 v1.toNat) - 1))]) C [] cs_X7_in (mX7_in v2 0 ((σ 18 v1.toNat) - 1)  σ _ h) km_X7_46 dX7_at_12 rfl rfl ⟨rfl, rfl⟩ ⟨by decide, by decide⟩ (Nat.le_of_ble_eq_true rfl) (fun rv σ4 hp => ?_)
  obtain ⟨a5, rfl, h⟩ := hp
  change zV x σ4 15 [(0, za x (17)), (1, .int (zI (v1))), (2, .int (zI (v2)))] [.int (zI (a5))]
  obtain ⟨o6, h⟩ := h
  refine z_if_eq C 32 dX7_at_15 (by decide) o6 (fun c7 => ?_) (fun c7 => ?_)
  · have h := h.1 c7
    refine z_bipush C dX7_at_32 rfl ?_
    exact z_iret C E dX7_at_34 ⟨_, rfl, h⟩
  · have h := h.2 c7
    refine z_aload_n C 0 dX7_at_18 rfl rfl ?_
    refine g_X7_2 C kf_X7_16 dX7_at_19 ?_
    refine z_bipush C dX7_at_22 rfl ?_
    refine z_iload_n C 1 dX7_at_24 rfl rfl ?_
    refine z_imul C dX7_at_25 ?_
    refine z_iload_n C 2 dX7_at_26 rfl rfl ?_
    refine z_iadd C dX7_at_27 ?_
    obtain ⟨o8, h⟩ := h
    refine z_iald C ia_20 dX7_at_28 o8.1 o8.2 ?_
    refine z_goto C 34 dX7_at_29 (by decide) ?_
    exact z_iret C E dX7_at_34 ⟨_, rfl, h⟩
def wX7_isHeard_5 (k : Int → Hp → Prop) : Nat → Int → Int → Int → Int → Hp → Prop
  | 0, _, _, _, _, _ => False
  | n + 1, v1, v2, v3, v4, σ => zrg v4 ∧ zrg (σ 17 5) ∧ ((σ 17 5 ≤ v4 → (v3 = 0 ∨ v3 = 1) ∧ k v3 σ) ∧ (¬ (σ 17 5 ≤ v4) → zrg v3 ∧ ((v3 ≠ 0 → wX7_isHeard_5 k n v1 v2 1 (v4 + 1) σ) ∧ (¬ (v3 ≠ 0) → (0 ≤ v4 ∧ v4 < 40) ∧ zrg (σ 22 v4.toNat) ∧ zrg v1 ∧ ((σ 22 v4.toNat ≠ v1 → wX7_isHeard_5 k n v1 v2 0 (v4 + 1) σ) ∧ (¬ (σ 22 v4.toNat ≠ v1) → zrg (σ 23 v4.toNat) ∧ zrg v2 ∧ ((σ 23 v4.toNat ≠ v2 → wX7_isHeard_5 k n v1 v2 0 (v4 + 1) σ) ∧ (¬ (σ 23 v4.toNat ≠ v2) → wX7_isHeard_5 k n v1 v2 1 (v4 + 1) σ))))))))
set_option maxRecDepth 100000 in
theorem sX7_isHeard_5 {x : Cx} (C : zOk x cX7_isHeard RX7 (some .boolean) (0) (0)) (hN : x.2.2.2.2.1 = 5) {k : Int → Hp → Prop} (E : zEnd x (zPi k x.2.1)) : ∀ (n : Nat) (v1 : Int) (v2 : Int) (v3 : Int) (v4 : Int) (σ : Hp), wX7_isHeard_5 k n v1 v2 v3 v4 σ → zV x σ 5 [(0, za x (17)), (1, .int (zI (v1))), (2, .int (zI (v2))), (3, .int (zI (v3))), (4, .int (zI (v4)))] [] := by
  intro n
  induction n with
  | zero => intro _ _ _ _ _ h; exact h.elim
  | succ n ih =>
    intro v1 v2 v3 v4 σ h
    unfold wX7_isHeard_5 at h
    refine z_iload C 4 dX7_isHeard_5 rfl ?_
    refine z_aload_n C 0 dX7_isHeard_7 rfl rfl ?_
    refine g_X7_5 C kf_X7_164 dX7_isHeard_8 ?_
    obtain ⟨o1, h⟩ := h
    obtain ⟨o2, h⟩ := h
    refine z_icmp_ge C 52 dX7_isHeard_11 (by decide) o1 o2 (fun c3 => ?_) (fun c3 => ?_)
    · have h := h.1 c3
      refine z_iload_n C 3 dX7_isHeard_52 rfl rfl ?_
      obtain ⟨o4, h⟩ := h
      exact z_zret C E dX7_isHeard_53 o4 ⟨_, rfl, h⟩
    · have h := h.2 c3
      refine z_iload_n C 3 dX7_isHeard_14 rfl rfl ?_
      obtain ⟨o5, h⟩ := h
      refine z_if_ne C 40 dX7_isHeard_15 (by decide) o5 (fun c6 => ?_) (fun c6 => ?_)
      · have h := h.1 c6
        refine z_iconst C dX7_isHeard_40 ?_
        refine z_goto C 45 dX7_isHeard_41 (by decide) ?_
        refine z_istore_n C [(3, .int (zI (1))), (0, za x (17)), (1, .int (zI (v1))), (2, .int (zI (v2))), (4, .int (zI (v4)))] dX7_isHeard_45 rfl (by rw [hN]; decide) rfl ?_
        refine z_iinc C 4 [(4, .int (zI (v4 + 1))), (3, .int (zI (1))), (0, za x (17)), (1, .int (zI (v1))), (2, .int (zI (v2)))] dX7_isHeard_46 rfl (by rw [hN]; decide) rfl ?_
        refine z_goto C 5 dX7_isHeard_49 (by decide) ?_
        refine z_sub C [2, 3, 4, 1, 0] [(0, za x (17)), (1, .int (zI (v1))), (2, .int (zI (v2))), (3, .int (zI (1))), (4, .int (zI (v4 + 1)))] rfl ?_
        exact ih v1 v2 1 (v4 + 1)  σ h
      · have h := h.2 c6
        refine z_aload_n C 0 dX7_isHeard_18 rfl rfl ?_
        refine g_X7_6 C kf_X7_23 dX7_isHeard_19 ?_
        refine z_iload C 4 dX7_isHeard_22 rfl ?_
        obtain ⟨o7, h⟩ := h
        refine z_iald C ia_22 dX7_isHeard_24 o7.1 o7.2 ?_
        refine z_iload_n C 1 dX7_isHeard_25 rfl rfl ?_
        obtain ⟨o8, h⟩ := h
        obtain ⟨o9, h⟩ := h
        refine z_icmp_ne C 44 dX7_isHeard_26 (by decide) o8 o9 (fun c10 => ?_) (fun c10 => ?_)
        · have h := h.1 c10
          refine z_iconst C dX7_isHeard_44 ?_
          refine z_istore_n C [(3, .int (zI (0))), (0, za x (17)), (1, .int (zI (v1))), (2, .int (zI (v2))), (4, .int (zI (v4)))] dX7_isHeard_45 rfl (by rw [hN]; decide) rfl ?_
          refine z_iinc C 4 [(4, .int (zI (v4 + 1))), (3, .int (zI (0))), (0, za x (17)), (1, .int (zI (v1))), (2, .int (zI (v2)))] dX7_isHeard_46 rfl (by rw [hN]; decide) rfl ?_
          refine z_goto C 5 dX7_isHeard_49 (by decide) ?_
          refine z_sub C [2, 3, 4, 1, 0] [(0, za x (17)), (1, .int (zI (v1))), (2, .int (zI (v2))), (3, .int (zI (0))), (4, .int (zI (v4 + 1)))] rfl ?_
          exact ih v1 v2 0 (v4 + 1)  σ h
        · have h := h.2 c10
          refine z_aload_n C 0 dX7_isHeard_29 rfl rfl ?_
          refine g_X7_7 C kf_X7_26 dX7_isHeard_30 ?_
          refine z_iload C 4 dX7_isHeard_33 rfl ?_
          refine z_iald C ia_23 dX7_isHeard_35 o7.1 o7.2 ?_
          refine z_iload_n C 2 dX7_isHeard_36 rfl rfl ?_
          obtain ⟨o11, h⟩ := h
          obtain ⟨o12, h⟩ := h
          refine z_icmp_ne C 44 dX7_isHeard_37 (by decide) o11 o12 (fun c13 => ?_) (fun c13 => ?_)
          · have h := h.1 c13
            refine z_iconst C dX7_isHeard_44 ?_
            refine z_istore_n C [(3, .int (zI (0))), (0, za x (17)), (1, .int (zI (v1))), (2, .int (zI (v2))), (4, .int (zI (v4)))] dX7_isHeard_45 rfl (by rw [hN]; decide) rfl ?_
            refine z_iinc C 4 [(4, .int (zI (v4 + 1))), (3, .int (zI (0))), (0, za x (17)), (1, .int (zI (v1))), (2, .int (zI (v2)))] dX7_isHeard_46 rfl (by rw [hN]; decide) rfl ?_
            refine z_goto C 5 dX7_isHeard_49 (by decide) ?_
            refine z_sub C [2, 3, 4, 1, 0] [(0, za x (17)), (1, .int (zI (v1))), (2, .int (zI (v2))), (3, .int (zI (0))), (4, .int (zI (v4 + 1)))] rfl ?_
            exact ih v1 v2 0 (v4 + 1)  σ h
          · have h := h.2 c13
            refine z_iconst C dX7_isHeard_40 ?_
            refine z_goto C 45 dX7_isHeard_41 (by decide) ?_
            refine z_istore_n C [(3, .int (zI (1))), (0, za x (17)), (1, .int (zI (v1))), (2, .int (zI (v2))), (4, .int (zI (v4)))] dX7_isHeard_45 rfl (by rw [hN]; decide) rfl ?_
            refine z_iinc C 4 [(4, .int (zI (v4 + 1))), (3, .int (zI (1))), (0, za x (17)), (1, .int (zI (v1))), (2, .int (zI (v2)))] dX7_isHeard_46 rfl (by rw [hN]; decide) rfl ?_
            refine z_goto C 5 dX7_isHeard_49 (by decide) ?_
            refine z_sub C [2, 3, 4, 1, 0] [(0, za x (17)), (1, .int (zI (v1))), (2, .int (zI (v2))), (3, .int (zI (1))), (4, .int (zI (v4 + 1)))] rfl ?_
            exact ih v1 v2 1 (v4 + 1)  σ h
def wX7_isHeard (v1 : Int) (v2 : Int) (σ : Hp) (k : Int → Hp → Prop) : Prop :=
  (∃ N1, wX7_isHeard_5 k N1 v1 v2 0 0 σ)
set_option maxRecDepth 100000 in
theorem mX7_isHeard (v1 : Int) (v2 : Int) (σ : Hp) (k : Int → Hp → Prop) (h : wX7_isHeard v1 v2 σ k) (l : Launch) : zMt l yX7_isHeard cX7_isHeard 5 (some .boolean) { frames := 0, cells := 0, slots := 0, locals := 0 } (fun w => [.ref (w.2.1 (17)), .int (zI (v1)), .int (zI (v2))]) σ (zPi k) := by
  refine zMt_of (plainFor_of_name (by decide)) (fun w => Nat.le_of_ble_eq_true rfl) (fun x hl hN C E => ?_)
  change zV x σ 0 [(0, za x (17)), (1, .int (zI (v1))), (2, .int (zI (v2)))] []
  change zOk x cX7_isHeard RX7 (some .boolean) (0) (0) at C
  unfold wX7_isHeard at h
  refine z_iconst C dX7_isHeard_0 ?_
  refine z_istore_n C [(3, .int (zI (0))), (0, za x (17)), (1, .int (zI (v1))), (2, .int (zI (v2)))] dX7_isHeard_1 rfl (by rw [hN]; decide) rfl ?_
  refine z_iconst C dX7_isHeard_2 ?_
  refine z_istore C [(4, .int (zI (0))), (3, .int (zI (0))), (0, za x (17)), (1, .int (zI (v1))), (2, .int (zI (v2)))] dX7_isHeard_3 (by rw [hN]; decide) rfl ?_
  refine z_sub C [2, 3, 4, 1, 0] [(0, za x (17)), (1, .int (zI (v1))), (2, .int (zI (v2))), (3, .int (zI (0))), (4, .int (zI (0)))] rfl ?_
  obtain ⟨n1, h⟩ := h
  exact sX7_isHeard_5 C hN E n1 v1 v2 0 0  σ h
def wX7_finds_28 (k : Hp → Prop) (K16 : Int → Int → Int → Hp → Prop) : Nat → Int → Int → Int → Int → Int → Hp → Prop
  | 0, _, _, _, _, _, _ => False
  | n + 1, v1, v2, v3, v4, v5, σ => (0 ≤ v1 ∧ v1 < 6) ∧ zrg v5 ∧ zrg (σ 18 v1.toNat) ∧ ((σ 18 v1.toNat ≤ v5 → zrg v4 ∧ zrg (σ 17 15) ∧ ((v4 ≤ σ 17 15 → K16 v1 v2 (v3 + 1) σ) ∧ (¬ (v4 ≤ σ 17 15) → K16 v1 v2 (v3 + 1) (zst (zst (zst σ 17 15 v4) 17 16 v2) 17 17 v3)))) ∧ (¬ (σ 18 v1.toNat ≤ v5) → wX7_at v1 v5 σ (fun a9 σ8 => zrg a9 ∧ ((15 ≤ a9 → wX7_finds_28 k K16 n v1 v2 v3 (v4 + 0) (v5 + 1) σ8) ∧ (¬ (15 ≤ a9) → wX7_at v1 v5 σ8 (fun a13 σ12 => wX7_isHeard (v5 + v2) (a13 + v3) σ12 (fun a15 σ14 => zrg a15 ∧ ((a15 = 0 → wX7_finds_28 k K16 n v1 v2 v3 (v4 + 0) (v5 + 1) σ14) ∧ (¬ (a15 = 0) → wX7_finds_28 k K16 n v1 v2 v3 (v4 + 1) (v5 + 1) σ14)))))))))
set_option maxRecDepth 100000 in
theorem sX7_finds_28 {x : Cx} (C : zOk x cX7_finds RX7 (none) (2) (47)) (hN : x.2.2.2.2.1 = 6) {k : Hp → Prop} (E : zEnd x (zPv k x.2.1)) {K16 : Int → Int → Int → Hp → Prop} (H16 : ∀ (v1 : Int) (v2 : Int) (v3 : Int) (σ : Hp), K16 v1 v2 v3 σ → zV x σ 16 [(0, za x (17)), (1, .int (zI (v1))), (2, .int (zI (v2))), (3, .int (zI (v3)))] []) : ∀ (n : Nat) (v1 : Int) (v2 : Int) (v3 : Int) (v4 : Int) (v5 : Int) (σ : Hp), wX7_finds_28 k K16 n v1 v2 v3 v4 v5 σ → zV x σ 28 [(0, za x (17)), (1, .int (zI (v1))), (2, .int (zI (v2))), (3, .int (zI (v3))), (4, .int (zI (v4))), (5, .int (zI (v5)))] [] := by
  intro n
  induction n with
  | zero => intro _ _ _ _ _ _ h; exact h.elim
  | succ n ih =>
    intro v1 v2 v3 v4 v5 σ h
    unfold wX7_finds_28 at h
    refine z_iload C 5 dX7_finds_28 rfl ?_
    refine z_aload_n C 0 dX7_finds_30 rfl rfl ?_
    refine g_X7_0 C kf_X7_7 dX7_finds_31 ?_
    refine z_iload_n C 1 dX7_finds_34 rfl rfl ?_
    obtain ⟨o1, h⟩ := h
    refine z_iald C ia_18 dX7_finds_35 o1.1 o1.2 ?_
    obtain ⟨o2, h⟩ := h
    obtain ⟨o3, h⟩ := h
    refine z_icmp_ge C 87 dX7_finds_36 (by decide) o2 o3 (fun c4 => ?_) (fun c4 => ?_)
    · have h := h.1 c4
      refine z_iload C 4 dX7_finds_87 rfl ?_
      refine z_aload_n C 0 dX7_finds_89 rfl rfl ?_
      refine g_X7_15 C kf_X7_177 dX7_finds_90 ?_
      obtain ⟨o5, h⟩ := h
      obtain ⟨o6, h⟩ := h
      refine z_icmp_le C 112 dX7_finds_93 (by decide) o5 o6 (fun c7 => ?_) (fun c7 => ?_)
      · have h := h.1 c7
        refine z_iinc C 3 [(3, .int (zI (v3 + 1))), (0, za x (17)), (1, .int (zI (v1))), (2, .int (zI (v2))), (4, .int (zI (v4))), (5, .int (zI (v5)))] dX7_finds_112 rfl (by rw [hN]; decide) rfl ?_
        refine z_goto C 16 dX7_finds_115 (by decide) ?_
        refine z_sub C [1, 2, 3, 0] [(0, za x (17)), (1, .int (zI (v1))), (2, .int (zI (v2))), (3, .int (zI (v3 + 1)))] rfl ?_
        exact H16 v1 v2 (v3 + 1)  σ h
      · have h := h.2 c7
        refine z_aload_n C 0 dX7_finds_96 rfl rfl ?_
        refine z_iload C 4 dX7_finds_97 rfl ?_
        refine p_X7_15 C kf_X7_177 dX7_finds_99 ?_
        refine z_aload_n C 0 dX7_finds_102 rfl rfl ?_
        refine z_iload_n C 2 dX7_finds_103 rfl rfl ?_
        refine p_X7_16 C kf_X7_180 dX7_finds_104 ?_
        refine z_aload_n C 0 dX7_finds_107 rfl rfl ?_
        refine z_iload_n C 3 dX7_finds_108 rfl rfl ?_
        refine p_X7_17 C kf_X7_183 dX7_finds_109 ?_
        refine z_iinc C 3 [(3, .int (zI (v3 + 1))), (0, za x (17)), (1, .int (zI (v1))), (2, .int (zI (v2))), (4, .int (zI (v4))), (5, .int (zI (v5)))] dX7_finds_112 rfl (by rw [hN]; decide) rfl ?_
        refine z_goto C 16 dX7_finds_115 (by decide) ?_
        refine z_sub C [1, 2, 3, 0] [(0, za x (17)), (1, .int (zI (v1))), (2, .int (zI (v2))), (3, .int (zI (v3 + 1)))] rfl ?_
        exact H16 v1 v2 (v3 + 1)  (zst (zst (zst σ 17 15 v4) 17 16 v2) 17 17 v3) h
    · have h := h.2 c4
      refine z_iload C 4 dX7_finds_39 rfl ?_
      refine z_aload_n C 0 dX7_finds_41 rfl rfl ?_
      refine z_iload_n C 1 dX7_finds_42 rfl rfl ?_
      refine z_iload C 5 dX7_finds_43 rfl ?_
      refine z_callV (av := fun w => [.int (zI (v1)), .int (zI (v5))]) C [.int (zI (v4))] cs_X7_at (by decide) (fun _ _ => rfl) rfl (mX7_at v1 v5  σ _ h) km_X7_79 dX7_finds_45 rfl rfl ⟨rfl, rfl⟩ ⟨by decide, by decide⟩ (Nat.le_of_ble_eq_true rfl) (fun rv σ8 hp => ?_)
      obtain ⟨a9, rfl, h⟩ := hp
      change zV x σ8 48 [(0, za x (17)), (1, .int (zI (v1))), (2, .int (zI (v2))), (3, .int (zI (v3))), (4, .int (zI (v4))), (5, .int (zI (v5)))] [.int (zI (a9)), .int (zI (v4))]
      refine z_bipush C dX7_finds_48 rfl ?_
      obtain ⟨o10, h⟩ := h
      refine z_icmp_ge C 77 dX7_finds_50 (by decide) o10 (zrg_d rfl) (fun c11 => ?_) (fun c11 => ?_)
      · have h := h.1 c11
        refine z_iconst C dX7_finds_77 ?_
        refine z_iadd C dX7_finds_78 ?_
        refine z_istore C [(4, .int (zI (v4 + 0))), (0, za x (17)), (1, .int (zI (v1))), (2, .int (zI (v2))), (3, .int (zI (v3))), (5, .int (zI (v5)))] dX7_finds_79 (by rw [hN]; decide) rfl ?_
        refine z_iinc C 5 [(5, .int (zI (v5 + 1))), (4, .int (zI (v4 + 0))), (0, za x (17)), (1, .int (zI (v1))), (2, .int (zI (v2))), (3, .int (zI (v3)))] dX7_finds_81 rfl (by rw [hN]; decide) rfl ?_
        refine z_goto C 28 dX7_finds_84 (by decide) ?_
        refine z_sub C [2, 3, 4, 5, 1, 0] [(0, za x (17)), (1, .int (zI (v1))), (2, .int (zI (v2))), (3, .int (zI (v3))), (4, .int (zI (v4 + 0))), (5, .int (zI (v5 + 1)))] rfl ?_
        exact ih v1 v2 v3 (v4 + 0) (v5 + 1)  σ8 h
      · have h := h.2 c11
        refine z_aload_n C 0 dX7_finds_53 rfl rfl ?_
        refine z_iload C 5 dX7_finds_54 rfl ?_
        refine z_iload_n C 2 dX7_finds_56 rfl rfl ?_
        refine z_iadd C dX7_finds_57 ?_
        refine z_aload_n C 0 dX7_finds_58 rfl rfl ?_
        refine z_iload_n C 1 dX7_finds_59 rfl rfl ?_
        refine z_iload C 5 dX7_finds_60 rfl ?_
        refine z_callV (av := fun w => [.int (zI (v1)), .int (zI (v5))]) C [.int (zI (v5 + v2)), za x (17), .int (zI (v4))] cs_X7_at (by decide) (fun _ _ => rfl) rfl (mX7_at v1 v5  σ8 _ h) km_X7_79 dX7_finds_62 rfl rfl ⟨rfl, rfl⟩ ⟨by decide, by decide⟩ (Nat.le_of_ble_eq_true rfl) (fun rv σ12 hp => ?_)
        obtain ⟨a13, rfl, h⟩ := hp
        change zV x σ12 65 [(0, za x (17)), (1, .int (zI (v1))), (2, .int (zI (v2))), (3, .int (zI (v3))), (4, .int (zI (v4))), (5, .int (zI (v5)))] [.int (zI (a13)), .int (zI (v5 + v2)), za x (17), .int (zI (v4))]
        refine z_iload_n C 3 dX7_finds_65 rfl rfl ?_
        refine z_iadd C dX7_finds_66 ?_
        refine z_callV (av := fun w => [.int (zI (v5 + v2)), .int (zI (a13 + v3))]) C [.int (zI (v4))] cs_X7_isHeard (by decide) (fun _ _ => rfl) rfl (mX7_isHeard (v5 + v2) (a13 + v3)  σ12 _ h) km_X7_173 dX7_finds_67 rfl rfl ⟨rfl, rfl⟩ ⟨by decide, by decide⟩ (Nat.le_of_ble_eq_true rfl) (fun rv σ14 hp => ?_)
        obtain ⟨a15, rfl, h⟩ := hp
        change zV x σ14 70 [(0, za x (17)), (1, .int (zI (v1))), (2, .int (zI (v2))), (3, .int (zI (v3))), (4, .int (zI (v4))), (5, .int (zI (v5)))] [.int (zI (a15)), .int (zI (v4))]
        obtain ⟨o16, h⟩ := h
        refine z_if_eq C 77 dX7_finds_70 (by decide) o16 (fun c17 => ?_) (fun c17 => ?_)
        · have h := h.1 c17
          refine z_iconst C dX7_finds_77 ?_
          refine z_iadd C dX7_finds_78 ?_
          refine z_istore C [(4, .int (zI (v4 + 0))), (0, za x (17)), (1, .int (zI (v1))), (2, .int (zI (v2))), (3, .int (zI (v3))), (5, .int (zI (v5)))] dX7_finds_79 (by rw [hN]; decide) rfl ?_
          refine z_iinc C 5 [(5, .int (zI (v5 + 1))), (4, .int (zI (v4 + 0))), (0, za x (17)), (1, .int (zI (v1))), (2, .int (zI (v2))), (3, .int (zI (v3)))] dX7_finds_81 rfl (by rw [hN]; decide) rfl ?_
          refine z_goto C 28 dX7_finds_84 (by decide) ?_
          refine z_sub C [2, 3, 4, 5, 1, 0] [(0, za x (17)), (1, .int (zI (v1))), (2, .int (zI (v2))), (3, .int (zI (v3))), (4, .int (zI (v4 + 0))), (5, .int (zI (v5 + 1)))] rfl ?_
          exact ih v1 v2 v3 (v4 + 0) (v5 + 1)  σ14 h
        · have h := h.2 c17
          refine z_iconst C dX7_finds_73 ?_
          refine z_goto C 78 dX7_finds_74 (by decide) ?_
          refine z_iadd C dX7_finds_78 ?_
          refine z_istore C [(4, .int (zI (v4 + 1))), (0, za x (17)), (1, .int (zI (v1))), (2, .int (zI (v2))), (3, .int (zI (v3))), (5, .int (zI (v5)))] dX7_finds_79 (by rw [hN]; decide) rfl ?_
          refine z_iinc C 5 [(5, .int (zI (v5 + 1))), (4, .int (zI (v4 + 1))), (0, za x (17)), (1, .int (zI (v1))), (2, .int (zI (v2))), (3, .int (zI (v3)))] dX7_finds_81 rfl (by rw [hN]; decide) rfl ?_
          refine z_goto C 28 dX7_finds_84 (by decide) ?_
          refine z_sub C [2, 3, 4, 5, 1, 0] [(0, za x (17)), (1, .int (zI (v1))), (2, .int (zI (v2))), (3, .int (zI (v3))), (4, .int (zI (v4 + 1))), (5, .int (zI (v5 + 1)))] rfl ?_
          exact ih v1 v2 v3 (v4 + 1) (v5 + 1)  σ14 h
def wX7_finds_16 (k : Hp → Prop) (K7 : Int → Int → Hp → Prop) : Nat → Int → Int → Int → Hp → Prop
  | 0, _, _, _, _ => False
  | n + 1, v1, v2, v3, σ => zrg v3 ∧ ((20 < v3 → K7 v1 (v2 + 1) σ) ∧ (¬ (20 < v3) → (∃ N3, wX7_finds_28 k (fun v1 v2 v3 σ => wX7_finds_16 k K7 n v1 v2 v3 σ) N3 v1 v2 v3 0 0 σ)))
set_option maxRecDepth 100000 in
theorem sX7_finds_16 {x : Cx} (C : zOk x cX7_finds RX7 (none) (2) (47)) (hN : x.2.2.2.2.1 = 6) {k : Hp → Prop} (E : zEnd x (zPv k x.2.1)) {K7 : Int → Int → Hp → Prop} (H7 : ∀ (v1 : Int) (v2 : Int) (σ : Hp), K7 v1 v2 σ → zV x σ 7 [(0, za x (17)), (1, .int (zI (v1))), (2, .int (zI (v2)))] []) : ∀ (n : Nat) (v1 : Int) (v2 : Int) (v3 : Int) (σ : Hp), wX7_finds_16 k K7 n v1 v2 v3 σ → zV x σ 16 [(0, za x (17)), (1, .int (zI (v1))), (2, .int (zI (v2))), (3, .int (zI (v3)))] [] := by
  intro n
  induction n with
  | zero => intro _ _ _ _ h; exact h.elim
  | succ n ih =>
    intro v1 v2 v3 σ h
    unfold wX7_finds_16 at h
    refine z_iload_n C 3 dX7_finds_16 rfl rfl ?_
    refine z_bipush C dX7_finds_17 rfl ?_
    obtain ⟨o1, h⟩ := h
    refine z_icmp_gt C 118 dX7_finds_19 (by decide) o1 (zrg_d rfl) (fun c2 => ?_) (fun c2 => ?_)
    · have h := h.1 c2
      refine z_iinc C 2 [(2, .int (zI (v2 + 1))), (0, za x (17)), (1, .int (zI (v1))), (3, .int (zI (v3)))] dX7_finds_118 rfl (by rw [hN]; decide) rfl ?_
      refine z_goto C 7 dX7_finds_121 (by decide) ?_
      refine z_sub C [1, 2, 0] [(0, za x (17)), (1, .int (zI (v1))), (2, .int (zI (v2 + 1)))] rfl ?_
      exact H7 v1 (v2 + 1)  σ h
    · have h := h.2 c2
      refine z_iconst C dX7_finds_22 ?_
      refine z_istore C [(4, .int (zI (0))), (0, za x (17)), (1, .int (zI (v1))), (2, .int (zI (v2))), (3, .int (zI (v3)))] dX7_finds_23 (by rw [hN]; decide) rfl ?_
      refine z_iconst C dX7_finds_25 ?_
      refine z_istore C [(5, .int (zI (0))), (4, .int (zI (0))), (0, za x (17)), (1, .int (zI (v1))), (2, .int (zI (v2))), (3, .int (zI (v3)))] dX7_finds_26 (by rw [hN]; decide) rfl ?_
      refine z_sub C [2, 3, 4, 5, 1, 0] [(0, za x (17)), (1, .int (zI (v1))), (2, .int (zI (v2))), (3, .int (zI (v3))), (4, .int (zI (0))), (5, .int (zI (0)))] rfl ?_
      obtain ⟨n3, h⟩ := h
      exact sX7_finds_28 C hN E (by intro v1 v2 v3 σ h; exact ih v1 v2 v3  σ h) n3 v1 v2 v3 0 0  σ h
def wX7_finds_7 (k : Hp → Prop) : Nat → Int → Int → Hp → Prop
  | 0, _, _, _ => False
  | n + 1, v1, v2, σ => zrg v2 ∧ ((18 < v2 → k σ) ∧ (¬ (18 < v2) → (∃ N3, wX7_finds_16 k (fun v1 v2 σ => wX7_finds_7 k n v1 v2 σ) N3 v1 v2 ((-20)) σ)))
set_option maxRecDepth 100000 in
theorem sX7_finds_7 {x : Cx} (C : zOk x cX7_finds RX7 (none) (2) (47)) (hN : x.2.2.2.2.1 = 6) {k : Hp → Prop} (E : zEnd x (zPv k x.2.1)) : ∀ (n : Nat) (v1 : Int) (v2 : Int) (σ : Hp), wX7_finds_7 k n v1 v2 σ → zV x σ 7 [(0, za x (17)), (1, .int (zI (v1))), (2, .int (zI (v2)))] [] := by
  intro n
  induction n with
  | zero => intro _ _ _ h; exact h.elim
  | succ n ih =>
    intro v1 v2 σ h
    unfold wX7_finds_7 at h
    refine z_iload_n C 2 dX7_finds_7 rfl rfl ?_
    refine z_bipush C dX7_finds_8 rfl ?_
    obtain ⟨o1, h⟩ := h
    refine z_icmp_gt C 124 dX7_finds_10 (by decide) o1 (zrg_d rfl) (fun c2 => ?_) (fun c2 => ?_)
    · have h := h.1 c2
      exact z_vret C E dX7_finds_124 ⟨rfl, h⟩
    · have h := h.2 c2
      refine z_bipush C dX7_finds_13 rfl ?_
      refine z_istore_n C [(3, .int (zI ((-20)))), (0, za x (17)), (1, .int (zI (v1))), (2, .int (zI (v2)))] dX7_finds_15 rfl (by rw [hN]; decide) rfl ?_
      refine z_sub C [1, 2, 3, 0] [(0, za x (17)), (1, .int (zI (v1))), (2, .int (zI (v2))), (3, .int (zI ((-20))))] rfl ?_
      obtain ⟨n3, h⟩ := h
      exact sX7_finds_16 C hN E (by intro v1 v2 σ h; exact ih v1 v2  σ h) n3 v1 v2 ((-20))  σ h
def wX7_finds (v1 : Int) (σ : Hp) (k : Hp → Prop) : Prop :=
  (∃ N1, wX7_finds_7 k N1 v1 0 (zst σ 17 15 ((-1))))
set_option maxRecDepth 100000 in
theorem mX7_finds (v1 : Int) (σ : Hp) (k : Hp → Prop) (h : wX7_finds v1 σ k) (l : Launch) : zMt l yX7_finds cX7_finds 6 (none) { frames := 2, cells := 0, slots := 0, locals := 47 } (fun w => [.ref (w.2.1 (17)), .int (zI (v1))]) σ (zPv k) := by
  refine zMt_of (plainFor_of_name (by decide)) (fun w => Nat.le_of_ble_eq_true rfl) (fun x hl hN C E => ?_)
  change zV x σ 0 [(0, za x (17)), (1, .int (zI (v1)))] []
  change zOk x cX7_finds RX7 (none) (2) (47) at C
  unfold wX7_finds at h
  refine z_aload_n C 0 dX7_finds_0 rfl rfl ?_
  refine z_iconst C dX7_finds_1 ?_
  refine p_X7_15 C kf_X7_177 dX7_finds_2 ?_
  refine z_iconst C dX7_finds_5 ?_
  refine z_istore_n C [(2, .int (zI (0))), (0, za x (17)), (1, .int (zI (v1)))] dX7_finds_6 rfl (by rw [hN]; decide) rfl ?_
  refine z_sub C [1, 2, 0] [(0, za x (17)), (1, .int (zI (v1))), (2, .int (zI (0)))] rfl ?_
  obtain ⟨n1, h⟩ := h
  exact sX7_finds_7 C hN E n1 v1 0  (zst σ 17 15 ((-1))) h
def wX7_among_22 (k : Int → Hp → Prop) : Nat → Int → Int → Int → Int → Int → Hp → Prop
  | 0, _, _, _, _, _, _ => False
  | n + 1, v1, v2, v3, v4, v5, σ => zrg v5 ∧ ((6 ≤ v5 → zrg v1 ∧ ((v1 ≠ 0 → k (v3 - v4) σ) ∧ (¬ (v1 ≠ 0) → k v2 σ))) ∧ (¬ (6 ≤ v5) → wX7_finds v5 σ (fun σ5 => zrg (σ5 17 15) ∧ zrg v3 ∧ ((σ5 17 15 ≤ v3 → zrg v4 ∧ ((σ5 17 15 ≤ v4 → wX7_among_22 k n v1 v2 v3 v4 (v5 + 1) σ5) ∧ (¬ (σ5 17 15 ≤ v4) → wX7_among_22 k n v1 v2 v3 (σ5 17 15) (v5 + 1) σ5))) ∧ (¬ (σ5 17 15 ≤ v3) → wX7_among_22 k n v1 v5 (σ5 17 15) v3 (v5 + 1) σ5)))))
set_option maxRecDepth 100000 in
theorem sX7_among_22 {x : Cx} (C : zOk x cX7_among RX7 (some .int) (3) (72)) (hN : x.2.2.2.2.1 = 6) {k : Int → Hp → Prop} (E : zEnd x (zPi k x.2.1)) : ∀ (n : Nat) (v1 : Int) (v2 : Int) (v3 : Int) (v4 : Int) (v5 : Int) (σ : Hp), wX7_among_22 k n v1 v2 v3 v4 v5 σ → zV x σ 22 [(0, za x (17)), (1, .int (zI (v1))), (2, .int (zI (v2))), (3, .int (zI (v3))), (4, .int (zI (v4))), (5, .int (zI (v5)))] [] := by
  intro n
  induction n with
  | zero => intro _ _ _ _ _ _ h; exact h.elim
  | succ n ih =>
    intro v1 v2 v3 v4 v5 σ h
    unfold wX7_among_22 at h
    refine z_iload C 5 dX7_among_22 rfl ?_
    refine z_bipush C dX7_among_24 rfl ?_
    obtain ⟨o1, h⟩ := h
    refine z_icmp_ge C 78 dX7_among_26 (by decide) o1 (zrg_d rfl) (fun c2 => ?_) (fun c2 => ?_)
    · have h := h.1 c2
      refine z_iload_n C 1 dX7_among_78 rfl rfl ?_
      obtain ⟨o3, h⟩ := h
      refine z_if_ne C 86 dX7_among_79 (by decide) o3 (fun c4 => ?_) (fun c4 => ?_)
      · have h := h.1 c4
        refine z_iload_n C 3 dX7_among_86 rfl rfl ?_
        refine z_iload C 4 dX7_among_87 rfl ?_
        refine z_isub C dX7_among_89 ?_
        exact z_iret C E dX7_among_90 ⟨_, rfl, h⟩
      · have h := h.2 c4
        refine z_iload_n C 2 dX7_among_82 rfl rfl ?_
        refine z_goto C 90 dX7_among_83 (by decide) ?_
        exact z_iret C E dX7_among_90 ⟨_, rfl, h⟩
    · have h := h.2 c2
      refine z_aload_n C 0 dX7_among_29 rfl rfl ?_
      refine z_iload C 5 dX7_among_30 rfl ?_
      refine z_callV (av := fun w => [.int (zI (v5))]) C [] cs_X7_finds (by decide) (fun _ _ => rfl) rfl (mX7_finds v5  σ _ h) km_X7_186 dX7_among_32 rfl rfl ⟨rfl, rfl⟩ ⟨by decide, by decide⟩ (Nat.le_of_ble_eq_true rfl) (fun rv σ5 hp => ?_)
      obtain ⟨rfl, h⟩ := hp
      change zV x σ5 35 [(0, za x (17)), (1, .int (zI (v1))), (2, .int (zI (v2))), (3, .int (zI (v3))), (4, .int (zI (v4))), (5, .int (zI (v5)))] []
      refine z_aload_n C 0 dX7_among_35 rfl rfl ?_
      refine g_X7_15 C kf_X7_177 dX7_among_36 ?_
      refine z_iload_n C 3 dX7_among_39 rfl rfl ?_
      obtain ⟨o6, h⟩ := h
      obtain ⟨o7, h⟩ := h
      refine z_icmp_le C 57 dX7_among_40 (by decide) o6 o7 (fun c8 => ?_) (fun c8 => ?_)
      · have h := h.1 c8
        refine z_aload_n C 0 dX7_among_57 rfl rfl ?_
        refine g_X7_15 C kf_X7_177 dX7_among_58 ?_
        refine z_iload C 4 dX7_among_61 rfl ?_
        obtain ⟨o9, h⟩ := h
        refine z_icmp_le C 72 dX7_among_63 (by decide) o6 o9 (fun c10 => ?_) (fun c10 => ?_)
        · have h := h.1 c10
          refine z_iinc C 5 [(5, .int (zI (v5 + 1))), (0, za x (17)), (1, .int (zI (v1))), (2, .int (zI (v2))), (3, .int (zI (v3))), (4, .int (zI (v4)))] dX7_among_72 rfl (by rw [hN]; decide) rfl ?_
          refine z_goto C 22 dX7_among_75 (by decide) ?_
          refine z_sub C [1, 2, 3, 4, 5, 0] [(0, za x (17)), (1, .int (zI (v1))), (2, .int (zI (v2))), (3, .int (zI (v3))), (4, .int (zI (v4))), (5, .int (zI (v5 + 1)))] rfl ?_
          exact ih v1 v2 v3 v4 (v5 + 1)  σ5 h
        · have h := h.2 c10
          refine z_aload_n C 0 dX7_among_66 rfl rfl ?_
          refine g_X7_15 C kf_X7_177 dX7_among_67 ?_
          refine z_istore C [(4, .int (zI (σ5 17 15))), (0, za x (17)), (1, .int (zI (v1))), (2, .int (zI (v2))), (3, .int (zI (v3))), (5, .int (zI (v5)))] dX7_among_70 (by rw [hN]; decide) rfl ?_
          refine z_iinc C 5 [(5, .int (zI (v5 + 1))), (4, .int (zI (σ5 17 15))), (0, za x (17)), (1, .int (zI (v1))), (2, .int (zI (v2))), (3, .int (zI (v3)))] dX7_among_72 rfl (by rw [hN]; decide) rfl ?_
          refine z_goto C 22 dX7_among_75 (by decide) ?_
          refine z_sub C [2, 3, 4, 5, 1, 0] [(0, za x (17)), (1, .int (zI (v1))), (2, .int (zI (v2))), (3, .int (zI (v3))), (4, .int (zI (σ5 17 15))), (5, .int (zI (v5 + 1)))] rfl ?_
          exact ih v1 v2 v3 (σ5 17 15) (v5 + 1)  σ5 h
      · have h := h.2 c8
        refine z_iload_n C 3 dX7_among_43 rfl rfl ?_
        refine z_istore C [(4, .int (zI (v3))), (0, za x (17)), (1, .int (zI (v1))), (2, .int (zI (v2))), (3, .int (zI (v3))), (5, .int (zI (v5)))] dX7_among_44 (by rw [hN]; decide) rfl ?_
        refine z_aload_n C 1 dX7_among_46 rfl rfl ?_
        refine g_X7_15 C kf_X7_177 dX7_among_47 ?_
        refine z_istore_n C [(3, .int (zI (σ5 17 15))), (4, .int (zI (v3))), (0, za x (17)), (1, .int (zI (v1))), (2, .int (zI (v2))), (5, .int (zI (v5)))] dX7_among_50 rfl (by rw [hN]; decide) rfl ?_
        refine z_iload C 5 dX7_among_51 rfl ?_
        refine z_istore_n C [(2, .int (zI (v5))), (3, .int (zI (σ5 17 15))), (4, .int (zI (v3))), (0, za x (17)), (1, .int (zI (v1))), (5, .int (zI (v5)))] dX7_among_53 rfl (by rw [hN]; decide) rfl ?_
        refine z_goto C 72 dX7_among_54 (by decide) ?_
        refine z_iinc C 5 [(5, .int (zI (v5 + 1))), (2, .int (zI (v5))), (3, .int (zI (σ5 17 15))), (4, .int (zI (v3))), (0, za x (17)), (1, .int (zI (v1)))] dX7_among_72 rfl (by rw [hN]; decide) rfl ?_
        refine z_goto C 22 dX7_among_75 (by decide) ?_
        refine z_sub C [4, 5, 1, 2, 3, 0] [(0, za x (17)), (1, .int (zI (v1))), (2, .int (zI (v5))), (3, .int (zI (σ5 17 15))), (4, .int (zI (v3))), (5, .int (zI (v5 + 1)))] rfl ?_
        exact ih v1 v5 (σ5 17 15) v3 (v5 + 1)  σ5 h
def wX7_among (v1 : Int) (σ : Hp) (k : Int → Hp → Prop) : Prop :=
  zrg v1 ∧ wX7_in v1 0 1 σ (fun a3 σ2 => zrg a3 ∧ ((a3 ≠ 0 → (∃ N6, wX7_among_22 k N6 v1 0 ((-1)) ((-1)) 0 σ2)) ∧ (¬ (a3 ≠ 0) → k ((-1)) σ2)))
set_option maxRecDepth 100000 in
theorem mX7_among (v1 : Int) (σ : Hp) (k : Int → Hp → Prop) (h : wX7_among v1 σ k) (l : Launch) : zMt l yX7_among cX7_among 6 (some .int) { frames := 3, cells := 0, slots := 0, locals := 72 } (fun w => [.ref (w.2.1 (17)), .int (zI (v1))]) σ (zPi k) := by
  refine zMt_of (plainFor_of_name (by decide)) (fun w => Nat.le_of_ble_eq_true rfl) (fun x hl hN C E => ?_)
  change zV x σ 0 [(0, za x (17)), (1, .int (zI (v1)))] []
  change zOk x cX7_among RX7 (some .int) (3) (72) at C
  unfold wX7_among at h
  refine z_iload_n C 1 dX7_among_0 rfl rfl ?_
  obtain ⟨o1, h⟩ := h
  refine z_i2l C dX7_among_1 o1 ?_
  refine z_lconst (z := 0) C dX7_among_2 rfl ?_
  refine z_lconst (z := 1) C dX7_among_3 rfl ?_
  refine z_callS (av := fun w => [.long (zJ (v1)), .long (zJ (0)), .long (zJ (1))]) C [] cs_X7_in (mX7_in v1 0 1  σ _ h) km_X7_46 dX7_among_4 rfl rfl ⟨rfl, rfl⟩ ⟨by decide, by decide⟩ (Nat.le_of_ble_eq_true rfl) (fun rv σ2 hp => ?_)
  obtain ⟨a3, rfl, h⟩ := hp
  change zV x σ2 7 [(0, za x (17)), (1, .int (zI (v1)))] [.int (zI (a3))]
  obtain ⟨o4, h⟩ := h
  refine z_if_ne C 12 dX7_among_7 (by decide) o4 (fun c5 => ?_) (fun c5 => ?_)
  · have h := h.1 c5
    refine z_iconst C dX7_among_12 ?_
    refine z_istore_n C [(2, .int (zI (0))), (0, za x (17)), (1, .int (zI (v1)))] dX7_among_13 rfl (by rw [hN]; decide) rfl ?_
    refine z_iconst C dX7_among_14 ?_
    refine z_istore_n C [(3, .int (zI ((-1)))), (2, .int (zI (0))), (0, za x (17)), (1, .int (zI (v1)))] dX7_among_15 rfl (by rw [hN]; decide) rfl ?_
    refine z_iconst C dX7_among_16 ?_
    refine z_istore C [(4, .int (zI ((-1)))), (3, .int (zI ((-1)))), (2, .int (zI (0))), (0, za x (17)), (1, .int (zI (v1)))] dX7_among_17 (by rw [hN]; decide) rfl ?_
    refine z_iconst C dX7_among_19 ?_
    refine z_istore C [(5, .int (zI (0))), (4, .int (zI ((-1)))), (3, .int (zI ((-1)))), (2, .int (zI (0))), (0, za x (17)), (1, .int (zI (v1)))] dX7_among_20 (by rw [hN]; decide) rfl ?_
    refine z_sub C [4, 5, 3, 2, 1, 0] [(0, za x (17)), (1, .int (zI (v1))), (2, .int (zI (0))), (3, .int (zI ((-1)))), (4, .int (zI ((-1)))), (5, .int (zI (0)))] rfl ?_
    obtain ⟨n6, h⟩ := h
    exact sX7_among_22 C hN E n6 v1 0 ((-1)) ((-1)) 0  σ2 h
  · have h := h.2 c5
    refine z_iconst C dX7_among_10 ?_
    exact z_iret C E dX7_among_11 ⟨_, rfl, h⟩
def wX7_are (v1 : Int) (v2 : Int) (v3 : Int) (σ : Hp) (k : Int → Hp → Prop) : Prop :=
  wX7_at v1 v2 σ (fun a2 σ1 => zrg a2 ∧ ((15 ≤ a2 → k 0 σ1) ∧ (¬ (15 ≤ a2) → wX7_at v1 v3 σ1 (fun a6 σ5 => zrg a6 ∧ ((15 ≤ a6 → k 0 σ5) ∧ (¬ (15 ≤ a6) → k 1 σ5))))))
set_option maxRecDepth 100000 in
theorem mX7_are (v1 : Int) (v2 : Int) (v3 : Int) (σ : Hp) (k : Int → Hp → Prop) (h : wX7_are v1 v2 v3 σ k) (l : Launch) : zMt l yX7_are cX7_are 4 (some .boolean) { frames := 2, cells := 0, slots := 0, locals := 47 } (fun w => [.ref (w.2.1 (17)), .int (zI (v1)), .int (zI (v2)), .int (zI (v3))]) σ (zPi k) := by
  refine zMt_of (plainFor_of_name (by decide)) (fun w => Nat.le_of_ble_eq_true rfl) (fun x hl hN C E => ?_)
  change zV x σ 0 [(0, za x (17)), (1, .int (zI (v1))), (2, .int (zI (v2))), (3, .int (zI (v3)))] []
  change zOk x cX7_are RX7 (some .boolean) (2) (47) at C
  unfold wX7_are at h
  refine z_aload_n C 0 dX7_are_0 rfl rfl ?_
  refine z_iload_n C 1 dX7_are_1 rfl rfl ?_
  refine z_iload_n C 2 dX7_are_2 rfl rfl ?_
  refine z_callV (av := fun w => [.int (zI (v1)), .int (zI (v2))]) C [] cs_X7_at (by decide) (fun _ _ => rfl) rfl (mX7_at v1 v2  σ _ h) km_X7_79 dX7_are_3 rfl rfl ⟨rfl, rfl⟩ ⟨by decide, by decide⟩ (Nat.le_of_ble_eq_true rfl) (fun rv σ1 hp => ?_)
  obtain ⟨a2, rfl, h⟩ := hp
  change zV x σ1 6 [(0, za x (17)), (1, .int (zI (v1))), (2, .int (zI (v2))), (3, .int (zI (v3)))] [.int (zI (a2))]
  refine z_bipush C dX7_are_6 rfl ?_
  obtain ⟨o3, h⟩ := h
  refine z_icmp_ge C 26 dX7_are_8 (by decide) o3 (zrg_d rfl) (fun c4 => ?_) (fun c4 => ?_)
  · have h := h.1 c4
    refine z_iconst C dX7_are_26 ?_
    exact z_zret C E dX7_are_27 (by decide) ⟨_, rfl, h⟩
  · have h := h.2 c4
    refine z_aload_n C 0 dX7_are_11 rfl rfl ?_
    refine z_iload_n C 1 dX7_are_12 rfl rfl ?_
    refine z_iload_n C 3 dX7_are_13 rfl rfl ?_
    refine z_callV (av := fun w => [.int (zI (v1)), .int (zI (v3))]) C [] cs_X7_at (by decide) (fun _ _ => rfl) rfl (mX7_at v1 v3  σ1 _ h) km_X7_79 dX7_are_14 rfl rfl ⟨rfl, rfl⟩ ⟨by decide, by decide⟩ (Nat.le_of_ble_eq_true rfl) (fun rv σ5 hp => ?_)
    obtain ⟨a6, rfl, h⟩ := hp
    change zV x σ5 17 [(0, za x (17)), (1, .int (zI (v1))), (2, .int (zI (v2))), (3, .int (zI (v3)))] [.int (zI (a6))]
    refine z_bipush C dX7_are_17 rfl ?_
    obtain ⟨o7, h⟩ := h
    refine z_icmp_ge C 26 dX7_are_19 (by decide) o7 (zrg_d rfl) (fun c8 => ?_) (fun c8 => ?_)
    · have h := h.1 c8
      refine z_iconst C dX7_are_26 ?_
      exact z_zret C E dX7_are_27 (by decide) ⟨_, rfl, h⟩
    · have h := h.2 c8
      refine z_iconst C dX7_are_22 ?_
      refine z_goto C 27 dX7_are_23 (by decide) ?_
      exact z_zret C E dX7_are_27 (by decide) ⟨_, rfl, h⟩
def wX7_becomes_35 (k : Int → Hp → Prop) : Nat → Int → Int → Int → Hp → Prop
  | 0, _, _, _, _ => False
  | n + 1, v1, v2, v6, σ => zrg v6 ∧ zrg v2 ∧ ((v2 ≤ v6 → k v1 σ) ∧ (¬ (v2 ≤ v6) → (0 ≤ v6 ∧ v6 < 12) ∧ (0 ≤ (12 * v1) + v6 ∧ (12 * v1) + v6 < 72) ∧ wX7_becomes_35 k n v1 v2 (v6 + 1) (zst σ 20 ((12 * v1) + v6).toNat (σ 24 v6.toNat))))
set_option maxRecDepth 100000 in
theorem sX7_becomes_35 {x : Cx} (C : zOk x cX7_becomes RX7 (some .int) (0) (0)) (hN : x.2.2.2.2.1 = 7) {k : Int → Hp → Prop} (E : zEnd x (zPi k x.2.1)) : ∀ (n : Nat) (v1 : Int) (v2 : Int) (v6 : Int) (σ : Hp), wX7_becomes_35 k n v1 v2 v6 σ → zV x σ 35 [(0, za x (17)), (1, .int (zI (v1))), (2, .int (zI (v2))), (6, .int (zI (v6)))] [] := by
  intro n
  induction n with
  | zero => intro _ _ _ _ h; exact h.elim
  | succ n ih =>
    intro v1 v2 v6 σ h
    unfold wX7_becomes_35 at h
    refine z_iload C 3 dX7_becomes_35 rfl ?_
    refine z_iload_n C 2 dX7_becomes_37 rfl rfl ?_
    obtain ⟨o1, h⟩ := h
    obtain ⟨o2, h⟩ := h
    refine z_icmp_ge C 66 dX7_becomes_38 (by decide) o1 o2 (fun c3 => ?_) (fun c3 => ?_)
    · have h := h.1 c3
      refine z_iload_n C 1 dX7_becomes_66 rfl rfl ?_
      exact z_iret C E dX7_becomes_67 ⟨_, rfl, h⟩
    · have h := h.2 c3
      refine z_aload_n C 0 dX7_becomes_41 rfl rfl ?_
      refine g_X7_2 C kf_X7_16 dX7_becomes_42 ?_
      refine z_bipush C dX7_becomes_45 rfl ?_
      refine z_iload_n C 1 dX7_becomes_47 rfl rfl ?_
      refine z_imul C dX7_becomes_48 ?_
      refine z_iload C 3 dX7_becomes_49 rfl ?_
      refine z_iadd C dX7_becomes_51 ?_
      refine z_aload_n C 0 dX7_becomes_52 rfl rfl ?_
      refine g_X7_8 C kf_X7_29 dX7_becomes_53 ?_
      refine z_iload C 3 dX7_becomes_56 rfl ?_
      obtain ⟨o4, h⟩ := h
      refine z_iald C ia_24 dX7_becomes_58 o4.1 o4.2 ?_
      obtain ⟨o5, h⟩ := h
      refine z_iast C ia_20 dX7_becomes_59 o5.1 o5.2 ?_
      refine z_iinc C 3 [(6, .int (zI (v6 + 1))), (0, za x (17)), (1, .int (zI (v1))), (2, .int (zI (v2)))] dX7_becomes_60 rfl (by rw [hN]; decide) rfl ?_
      refine z_goto C 35 dX7_becomes_63 (by decide) ?_
      refine z_sub C [1, 2, 3, 0] [(0, za x (17)), (1, .int (zI (v1))), (2, .int (zI (v2))), (6, .int (zI (v6 + 1)))] rfl ?_
      exact ih v1 v2 (v6 + 1)  (zst σ 20 ((12 * v1) + v6).toNat (σ 24 v6.toNat)) h
def wX7_becomes (v1 : Int) (v2 : Int) (v3 : Int) (v4 : Int) (v5 : Int) (σ : Hp) (k : Int → Hp → Prop) : Prop :=
  zrg v5 ∧ ((0 ≤ v5 → zrg (σ 17 9) ∧ ((σ 17 9 ≠ 0 → (0 ≤ v1 ∧ v1 < 6) ∧ (∃ N6, wX7_becomes_35 k N6 v1 v2 0 (zst (zst σ 18 v1.toNat v2) 19 v1.toNat v3))) ∧ (¬ (σ 17 9 ≠ 0) → k ((-4)) σ))) ∧ (¬ (0 ≤ v5) → k v4 σ))
set_option maxRecDepth 100000 in
theorem mX7_becomes (v1 : Int) (v2 : Int) (v3 : Int) (v4 : Int) (v5 : Int) (σ : Hp) (k : Int → Hp → Prop) (h : wX7_becomes v1 v2 v3 v4 v5 σ k) (l : Launch) : zMt l yX7_becomes cX7_becomes 7 (some .int) { frames := 0, cells := 0, slots := 0, locals := 0 } (fun w => [.ref (w.2.1 (17)), .int (zI (v1)), .int (zI (v2)), .int (zI (v3)), .int (zI (v4)), .int (zI (v5))]) σ (zPi k) := by
  refine zMt_of (plainFor_of_name (by decide)) (fun w => Nat.le_of_ble_eq_true rfl) (fun x hl hN C E => ?_)
  change zV x σ 0 [(0, za x (17)), (1, .int (zI (v1))), (2, .int (zI (v2))), (3, .int (zI (v3))), (4, .int (zI (v4))), (5, .int (zI (v5)))] []
  change zOk x cX7_becomes RX7 (some .int) (0) (0) at C
  unfold wX7_becomes at h
  refine z_iload C 5 dX7_becomes_0 rfl ?_
  obtain ⟨o1, h⟩ := h
  refine z_if_ge C 8 dX7_becomes_2 (by decide) o1 (fun c2 => ?_) (fun c2 => ?_)
  · have h := h.1 c2
    refine z_aload_n C 0 dX7_becomes_8 rfl rfl ?_
    refine g_X7_9 C kf_X7_115 dX7_becomes_9 ?_
    obtain ⟨o3, h⟩ := h
    refine z_if_ne C 18 dX7_becomes_12 (by decide) o3 (fun c4 => ?_) (fun c4 => ?_)
    · have h := h.1 c4
      refine z_aload_n C 0 dX7_becomes_18 rfl rfl ?_
      refine g_X7_0 C kf_X7_7 dX7_becomes_19 ?_
      refine z_iload_n C 1 dX7_becomes_22 rfl rfl ?_
      refine z_iload_n C 2 dX7_becomes_23 rfl rfl ?_
      obtain ⟨o5, h⟩ := h
      refine z_iast C ia_18 dX7_becomes_24 o5.1 o5.2 ?_
      refine z_aload_n C 0 dX7_becomes_25 rfl rfl ?_
      refine g_X7_1 C kf_X7_13 dX7_becomes_26 ?_
      refine z_iload_n C 1 dX7_becomes_29 rfl rfl ?_
      refine z_iload_n C 3 dX7_becomes_30 rfl rfl ?_
      refine z_iast C ia_19 dX7_becomes_31 o5.1 o5.2 ?_
      refine z_iconst C dX7_becomes_32 ?_
      refine z_istore C [(6, .int (zI (0))), (0, za x (17)), (1, .int (zI (v1))), (2, .int (zI (v2))), (3, .int (zI (v3))), (4, .int (zI (v4))), (5, .int (zI (v5)))] dX7_becomes_33 (by rw [hN]; decide) rfl ?_
      refine z_sub C [1, 2, 3, 0] [(0, za x (17)), (1, .int (zI (v1))), (2, .int (zI (v2))), (6, .int (zI (0)))] rfl ?_
      obtain ⟨n6, h⟩ := h
      exact sX7_becomes_35 C hN E n6 v1 v2 0  (zst (zst σ 18 v1.toNat v2) 19 v1.toNat v3) h
    · have h := h.2 c4
      refine z_bipush C dX7_becomes_15 rfl ?_
      exact z_iret C E dX7_becomes_17 ⟨_, rfl, h⟩
  · have h := h.2 c2
    refine z_iload C 4 dX7_becomes_5 rfl ?_
    exact z_iret C E dX7_becomes_7 ⟨_, rfl, h⟩
def wX7_code_5 (k : Int → Hp → Prop) : Nat → Int → Int → Int → Hp → Prop
  | 0, _, _, _, _ => False
  | n + 1, v1, v2, v4, σ => zrg v4 ∧ zrg v1 ∧ ((v1 ≤ v4 → k v2 σ) ∧ (¬ (v1 ≤ v4) → (0 ≤ v4 ∧ v4 < 12) ∧ zrg (σ 27 v4.toNat) ∧ wX7_code_5 k n v1 ((16 * v2) + (σ 27 v4.toNat)) (v4 + 1) σ))
set_option maxRecDepth 100000 in
theorem sX7_code_5 {x : Cx} (C : zOk x cX7_code RX7 (some .long) (0) (0)) (hN : x.2.2.2.2.1 = 5) {k : Int → Hp → Prop} (E : zEnd x (zPl k x.2.1)) : ∀ (n : Nat) (v1 : Int) (v2 : Int) (v4 : Int) (σ : Hp), wX7_code_5 k n v1 v2 v4 σ → zV x σ 5 [(0, za x (17)), (1, .int (zI (v1))), (2, .long (zJ (v2))), (4, .int (zI (v4)))] [] := by
  intro n
  induction n with
  | zero => intro _ _ _ _ h; exact h.elim
  | succ n ih =>
    intro v1 v2 v4 σ h
    unfold wX7_code_5 at h
    refine z_iload C 3 dX7_code_5 rfl ?_
    refine z_iload_n C 1 dX7_code_7 rfl rfl ?_
    obtain ⟨o1, h⟩ := h
    obtain ⟨o2, h⟩ := h
    refine z_icmp_ge C 32 dX7_code_8 (by decide) o1 o2 (fun c3 => ?_) (fun c3 => ?_)
    · have h := h.1 c3
      refine z_lload_n C 2 dX7_code_32 rfl rfl ?_
      exact z_lret C E dX7_code_33 ⟨_, rfl, h⟩
    · have h := h.2 c3
      refine z_ldc2 (z := 16) C kl_X7_85 rfl dX7_code_11 ?_
      refine z_lload_n C 2 dX7_code_14 rfl rfl ?_
      refine z_lmul C dX7_code_15 ?_
      refine z_aload_n C 0 dX7_code_16 rfl rfl ?_
      refine g_X7_13 C kf_X7_38 dX7_code_17 ?_
      refine z_iload C 3 dX7_code_20 rfl ?_
      obtain ⟨o4, h⟩ := h
      refine z_iald C ia_27 dX7_code_22 o4.1 o4.2 ?_
      obtain ⟨o5, h⟩ := h
      refine z_i2l C dX7_code_23 o5 ?_
      refine z_ladd C dX7_code_24 ?_
      refine z_lstore_n C [(2, .long (zJ ((16 * v2) + (σ 27 v4.toNat)))), (0, za x (17)), (1, .int (zI (v1))), (4, .int (zI (v4)))] dX7_code_25 rfl (by rw [hN]; decide) rfl ?_
      refine z_iinc C 3 [(4, .int (zI (v4 + 1))), (2, .long (zJ ((16 * v2) + (σ 27 v4.toNat)))), (0, za x (17)), (1, .int (zI (v1)))] dX7_code_26 rfl (by rw [hN]; decide) rfl ?_
      refine z_goto C 5 dX7_code_29 (by decide) ?_
      refine z_sub C [2, 3, 1, 0] [(0, za x (17)), (1, .int (zI (v1))), (2, .long (zJ ((16 * v2) + (σ 27 v4.toNat)))), (4, .int (zI (v4 + 1)))] rfl ?_
      exact ih v1 ((16 * v2) + (σ 27 v4.toNat)) (v4 + 1)  σ h
def wX7_code (v1 : Int) (σ : Hp) (k : Int → Hp → Prop) : Prop :=
  (∃ N1, wX7_code_5 k N1 v1 0 0 σ)
set_option maxRecDepth 100000 in
theorem mX7_code (v1 : Int) (σ : Hp) (k : Int → Hp → Prop) (h : wX7_code v1 σ k) (l : Launch) : zMt l yX7_code cX7_code 5 (some .long) { frames := 0, cells := 0, slots := 0, locals := 0 } (fun w => [.ref (w.2.1 (17)), .int (zI (v1))]) σ (zPl k) := by
  refine zMt_of (plainFor_of_name (by decide)) (fun w => Nat.le_of_ble_eq_true rfl) (fun x hl hN C E => ?_)
  change zV x σ 0 [(0, za x (17)), (1, .int (zI (v1)))] []
  change zOk x cX7_code RX7 (some .long) (0) (0) at C
  unfold wX7_code at h
  refine z_lconst (z := 0) C dX7_code_0 rfl ?_
  refine z_lstore_n C [(2, .long (zJ (0))), (0, za x (17)), (1, .int (zI (v1)))] dX7_code_1 rfl (by rw [hN]; decide) rfl ?_
  refine z_iconst C dX7_code_2 ?_
  refine z_istore C [(4, .int (zI (0))), (2, .long (zJ (0))), (0, za x (17)), (1, .int (zI (v1)))] dX7_code_3 (by rw [hN]; decide) rfl ?_
  refine z_sub C [2, 3, 1, 0] [(0, za x (17)), (1, .int (zI (v1))), (2, .long (zJ (0))), (4, .int (zI (0)))] rfl ?_
  obtain ⟨n1, h⟩ := h
  exact sX7_code_5 C hN E n1 v1 0 0  σ h
def wX7_isRow (v0 : Int) (σ : Hp) (k : Int → Hp → Prop) : Prop :=
  zrg v0 ∧ wX7_in v0 0 5 σ (fun a3 σ2 => (a3 = 0 ∨ a3 = 1) ∧ k a3 σ2)
set_option maxRecDepth 100000 in
theorem mX7_isRow (v0 : Int) (σ : Hp) (k : Int → Hp → Prop) (h : wX7_isRow v0 σ k) (l : Launch) : zMt l yX7_isRow cX7_isRow 1 (some .boolean) { frames := 1, cells := 0, slots := 0, locals := 25 } (fun w => [.int (zI (v0))]) σ (zPi k) := by
  refine zMt_of (plainFor_of_name (by decide)) (fun w => Nat.le_of_ble_eq_true rfl) (fun x hl hN C E => ?_)
  change zV x σ 0 [(0, .int (zI (v0)))] []
  change zOk x cX7_isRow RX7 (some .boolean) (1) (25) at C
  unfold wX7_isRow at h
  refine z_iload_n C 0 dX7_isRow_0 rfl rfl ?_
  obtain ⟨o1, h⟩ := h
  refine z_i2l C dX7_isRow_1 o1 ?_
  refine z_lconst (z := 0) C dX7_isRow_2 rfl ?_
  refine z_ldc2 (z := 5) C kl_X7_44 rfl dX7_isRow_3 ?_
  refine z_callS (av := fun w => [.long (zJ (v0)), .long (zJ (0)), .long (zJ (5))]) C [] cs_X7_in (mX7_in v0 0 5  σ _ h) km_X7_46 dX7_isRow_6 rfl rfl ⟨rfl, rfl⟩ ⟨by decide, by decide⟩ (Nat.le_of_ble_eq_true rfl) (fun rv σ2 hp => ?_)
  obtain ⟨a3, rfl, h⟩ := hp
  change zV x σ2 9 [(0, .int (zI (v0)))] [.int (zI (a3))]
  obtain ⟨o4, h⟩ := h
  exact z_zret C E dX7_isRow_9 o4 ⟨_, rfl, h⟩
def wX7_isUnlike_4 (k : Int → Hp → Prop) : Nat → Int → Int → Int → Hp → Prop
  | 0, _, _, _, _ => False
  | n + 1, v1, v2, v3, σ => zrg v3 ∧ zrg v1 ∧ ((v1 ≤ v3 → (v2 = 0 ∨ v2 = 1) ∧ k v2 σ) ∧ (¬ (v1 ≤ v3) → zrg v2 ∧ ((v2 = 0 → wX7_isUnlike_4 k n v1 0 (v3 + 1) σ) ∧ (¬ (v2 = 0) → (0 ≤ v3 ∧ v3 < 12) ∧ (0 ≤ v1 ∧ v1 < 12) ∧ zrg (σ 24 v3.toNat) ∧ zrg (σ 24 v1.toNat) ∧ ((σ 24 v3.toNat = σ 24 v1.toNat → wX7_isUnlike_4 k n v1 0 (v3 + 1) σ) ∧ (¬ (σ 24 v3.toNat = σ 24 v1.toNat) → wX7_isUnlike_4 k n v1 1 (v3 + 1) σ))))))
set_option maxRecDepth 100000 in
theorem sX7_isUnlike_4 {x : Cx} (C : zOk x cX7_isUnlike RX7 (some .boolean) (0) (0)) (hN : x.2.2.2.2.1 = 4) {k : Int → Hp → Prop} (E : zEnd x (zPi k x.2.1)) : ∀ (n : Nat) (v1 : Int) (v2 : Int) (v3 : Int) (σ : Hp), wX7_isUnlike_4 k n v1 v2 v3 σ → zV x σ 4 [(0, za x (17)), (1, .int (zI (v1))), (2, .int (zI (v2))), (3, .int (zI (v3)))] [] := by
  intro n
  induction n with
  | zero => intro _ _ _ _ h; exact h.elim
  | succ n ih =>
    intro v1 v2 v3 σ h
    unfold wX7_isUnlike_4 at h
    refine z_iload_n C 3 dX7_isUnlike_4 rfl rfl ?_
    refine z_iload_n C 1 dX7_isUnlike_5 rfl rfl ?_
    obtain ⟨o1, h⟩ := h
    obtain ⟨o2, h⟩ := h
    refine z_icmp_ge C 40 dX7_isUnlike_6 (by decide) o1 o2 (fun c3 => ?_) (fun c3 => ?_)
    · have h := h.1 c3
      refine z_iload_n C 2 dX7_isUnlike_40 rfl rfl ?_
      obtain ⟨o4, h⟩ := h
      exact z_zret C E dX7_isUnlike_41 o4 ⟨_, rfl, h⟩
    · have h := h.2 c3
      refine z_iload_n C 2 dX7_isUnlike_9 rfl rfl ?_
      obtain ⟨o5, h⟩ := h
      refine z_if_eq C 32 dX7_isUnlike_10 (by decide) o5 (fun c6 => ?_) (fun c6 => ?_)
      · have h := h.1 c6
        refine z_iconst C dX7_isUnlike_32 ?_
        refine z_istore_n C [(2, .int (zI (0))), (0, za x (17)), (1, .int (zI (v1))), (3, .int (zI (v3)))] dX7_isUnlike_33 rfl (by rw [hN]; decide) rfl ?_
        refine z_iinc C 3 [(3, .int (zI (v3 + 1))), (2, .int (zI (0))), (0, za x (17)), (1, .int (zI (v1)))] dX7_isUnlike_34 rfl (by rw [hN]; decide) rfl ?_
        refine z_goto C 4 dX7_isUnlike_37 (by decide) ?_
        refine z_sub C [2, 3, 1, 0] [(0, za x (17)), (1, .int (zI (v1))), (2, .int (zI (0))), (3, .int (zI (v3 + 1)))] rfl ?_
        exact ih v1 0 (v3 + 1)  σ h
      · have h := h.2 c6
        refine z_aload_n C 0 dX7_isUnlike_13 rfl rfl ?_
        refine g_X7_8 C kf_X7_29 dX7_isUnlike_14 ?_
        refine z_iload_n C 3 dX7_isUnlike_17 rfl rfl ?_
        obtain ⟨o7, h⟩ := h
        refine z_iald C ia_24 dX7_isUnlike_18 o7.1 o7.2 ?_
        refine z_aload_n C 0 dX7_isUnlike_19 rfl rfl ?_
        refine g_X7_8 C kf_X7_29 dX7_isUnlike_20 ?_
        refine z_iload_n C 1 dX7_isUnlike_23 rfl rfl ?_
        obtain ⟨o8, h⟩ := h
        refine z_iald C ia_24 dX7_isUnlike_24 o8.1 o8.2 ?_
        obtain ⟨o9, h⟩ := h
        obtain ⟨o10, h⟩ := h
        refine z_icmp_eq C 32 dX7_isUnlike_25 (by decide) o9 o10 (fun c11 => ?_) (fun c11 => ?_)
        · have h := h.1 c11
          refine z_iconst C dX7_isUnlike_32 ?_
          refine z_istore_n C [(2, .int (zI (0))), (0, za x (17)), (1, .int (zI (v1))), (3, .int (zI (v3)))] dX7_isUnlike_33 rfl (by rw [hN]; decide) rfl ?_
          refine z_iinc C 3 [(3, .int (zI (v3 + 1))), (2, .int (zI (0))), (0, za x (17)), (1, .int (zI (v1)))] dX7_isUnlike_34 rfl (by rw [hN]; decide) rfl ?_
          refine z_goto C 4 dX7_isUnlike_37 (by decide) ?_
          refine z_sub C [2, 3, 1, 0] [(0, za x (17)), (1, .int (zI (v1))), (2, .int (zI (0))), (3, .int (zI (v3 + 1)))] rfl ?_
          exact ih v1 0 (v3 + 1)  σ h
        · have h := h.2 c11
          refine z_iconst C dX7_isUnlike_28 ?_
          refine z_goto C 33 dX7_isUnlike_29 (by decide) ?_
          refine z_istore_n C [(2, .int (zI (1))), (0, za x (17)), (1, .int (zI (v1))), (3, .int (zI (v3)))] dX7_isUnlike_33 rfl (by rw [hN]; decide) rfl ?_
          refine z_iinc C 3 [(3, .int (zI (v3 + 1))), (2, .int (zI (1))), (0, za x (17)), (1, .int (zI (v1)))] dX7_isUnlike_34 rfl (by rw [hN]; decide) rfl ?_
          refine z_goto C 4 dX7_isUnlike_37 (by decide) ?_
          refine z_sub C [2, 3, 1, 0] [(0, za x (17)), (1, .int (zI (v1))), (2, .int (zI (1))), (3, .int (zI (v3 + 1)))] rfl ?_
          exact ih v1 1 (v3 + 1)  σ h
def wX7_isUnlike (v1 : Int) (σ : Hp) (k : Int → Hp → Prop) : Prop :=
  (∃ N1, wX7_isUnlike_4 k N1 v1 1 0 σ)
set_option maxRecDepth 100000 in
theorem mX7_isUnlike (v1 : Int) (σ : Hp) (k : Int → Hp → Prop) (h : wX7_isUnlike v1 σ k) (l : Launch) : zMt l yX7_isUnlike cX7_isUnlike 4 (some .boolean) { frames := 0, cells := 0, slots := 0, locals := 0 } (fun w => [.ref (w.2.1 (17)), .int (zI (v1))]) σ (zPi k) := by
  refine zMt_of (plainFor_of_name (by decide)) (fun w => Nat.le_of_ble_eq_true rfl) (fun x hl hN C E => ?_)
  change zV x σ 0 [(0, za x (17)), (1, .int (zI (v1)))] []
  change zOk x cX7_isUnlike RX7 (some .boolean) (0) (0) at C
  unfold wX7_isUnlike at h
  refine z_iconst C dX7_isUnlike_0 ?_
  refine z_istore_n C [(2, .int (zI (1))), (0, za x (17)), (1, .int (zI (v1)))] dX7_isUnlike_1 rfl (by rw [hN]; decide) rfl ?_
  refine z_iconst C dX7_isUnlike_2 ?_
  refine z_istore_n C [(3, .int (zI (0))), (2, .int (zI (1))), (0, za x (17)), (1, .int (zI (v1)))] dX7_isUnlike_3 rfl (by rw [hN]; decide) rfl ?_
  refine z_sub C [2, 3, 1, 0] [(0, za x (17)), (1, .int (zI (v1))), (2, .int (zI (1))), (3, .int (zI (0)))] rfl ?_
  obtain ⟨n1, h⟩ := h
  exact sX7_isUnlike_4 C hN E n1 v1 1 0  σ h
def wX7_isSquare_23 (k : Int → Hp → Prop) : Nat → Int → Int → Int → Hp → Prop
  | 0, _, _, _, _ => False
  | n + 1, v1, v2, v3, σ => (0 ≤ v1 ∧ v1 < 6) ∧ zrg v3 ∧ zrg (σ 18 v1.toNat) ∧ ((σ 18 v1.toNat ≤ v3 → (v2 = 0 ∨ v2 = 1) ∧ k v2 σ) ∧ (¬ (σ 18 v1.toNat ≤ v3) → wX7_at v1 v3 σ (fun a7 σ6 => (0 ≤ v3 ∧ v3 < 12) ∧ zrg v2 ∧ ((v2 = 0 → wX7_isSquare_23 k n v1 0 (v3 + 1) (zst σ6 24 v3.toNat a7)) ∧ (¬ (v2 = 0) → zrg ((zst σ6 24 v3.toNat a7) 24 v3.toNat) ∧ ((15 ≤ (zst σ6 24 v3.toNat a7) 24 v3.toNat → wX7_isSquare_23 k n v1 0 (v3 + 1) (zst σ6 24 v3.toNat a7)) ∧ (¬ (15 ≤ (zst σ6 24 v3.toNat a7) 24 v3.toNat) → wX7_isUnlike v3 (zst σ6 24 v3.toNat a7) (fun a14 σ13 => zrg a14 ∧ ((a14 = 0 → wX7_isSquare_23 k n v1 0 (v3 + 1) σ13) ∧ (¬ (a14 = 0) → wX7_isSquare_23 k n v1 1 (v3 + 1) σ13))))))))))
set_option maxRecDepth 100000 in
theorem sX7_isSquare_23 {x : Cx} (C : zOk x cX7_isSquare RX7 (some .boolean) (2) (47)) (hN : x.2.2.2.2.1 = 4) {k : Int → Hp → Prop} (E : zEnd x (zPi k x.2.1)) : ∀ (n : Nat) (v1 : Int) (v2 : Int) (v3 : Int) (σ : Hp), wX7_isSquare_23 k n v1 v2 v3 σ → zV x σ 23 [(0, za x (17)), (1, .int (zI (v1))), (2, .int (zI (v2))), (3, .int (zI (v3)))] [] := by
  intro n
  induction n with
  | zero => intro _ _ _ _ h; exact h.elim
  | succ n ih =>
    intro v1 v2 v3 σ h
    unfold wX7_isSquare_23 at h
    refine z_iload_n C 3 dX7_isSquare_23 rfl rfl ?_
    refine z_aload_n C 0 dX7_isSquare_24 rfl rfl ?_
    refine g_X7_0 C kf_X7_7 dX7_isSquare_25 ?_
    refine z_iload_n C 1 dX7_isSquare_28 rfl rfl ?_
    obtain ⟨o1, h⟩ := h
    refine z_iald C ia_18 dX7_isSquare_29 o1.1 o1.2 ?_
    obtain ⟨o2, h⟩ := h
    obtain ⟨o3, h⟩ := h
    refine z_icmp_ge C 80 dX7_isSquare_30 (by decide) o2 o3 (fun c4 => ?_) (fun c4 => ?_)
    · have h := h.1 c4
      refine z_iload_n C 2 dX7_isSquare_80 rfl rfl ?_
      obtain ⟨o5, h⟩ := h
      exact z_zret C E dX7_isSquare_81 o5 ⟨_, rfl, h⟩
    · have h := h.2 c4
      refine z_aload_n C 0 dX7_isSquare_33 rfl rfl ?_
      refine g_X7_8 C kf_X7_29 dX7_isSquare_34 ?_
      refine z_iload_n C 3 dX7_isSquare_37 rfl rfl ?_
      refine z_aload_n C 0 dX7_isSquare_38 rfl rfl ?_
      refine z_iload_n C 1 dX7_isSquare_39 rfl rfl ?_
      refine z_iload_n C 3 dX7_isSquare_40 rfl rfl ?_
      refine z_callV (av := fun w => [.int (zI (v1)), .int (zI (v3))]) C [.int (zI (v3)), za x (24)] cs_X7_at (by decide) (fun _ _ => rfl) rfl (mX7_at v1 v3  σ _ h) km_X7_79 dX7_isSquare_41 rfl rfl ⟨rfl, rfl⟩ ⟨by decide, by decide⟩ (Nat.le_of_ble_eq_true rfl) (fun rv σ6 hp => ?_)
      obtain ⟨a7, rfl, h⟩ := hp
      change zV x σ6 44 [(0, za x (17)), (1, .int (zI (v1))), (2, .int (zI (v2))), (3, .int (zI (v3)))] [.int (zI (a7)), .int (zI (v3)), za x (24)]
      obtain ⟨o8, h⟩ := h
      refine z_iast C ia_24 dX7_isSquare_44 o8.1 o8.2 ?_
      refine z_iload_n C 2 dX7_isSquare_45 rfl rfl ?_
      obtain ⟨o9, h⟩ := h
      refine z_if_eq C 72 dX7_isSquare_46 (by decide) o9 (fun c10 => ?_) (fun c10 => ?_)
      · have h := h.1 c10
        refine z_iconst C dX7_isSquare_72 ?_
        refine z_istore_n C [(2, .int (zI (0))), (0, za x (17)), (1, .int (zI (v1))), (3, .int (zI (v3)))] dX7_isSquare_73 rfl (by rw [hN]; decide) rfl ?_
        refine z_iinc C 3 [(3, .int (zI (v3 + 1))), (2, .int (zI (0))), (0, za x (17)), (1, .int (zI (v1)))] dX7_isSquare_74 rfl (by rw [hN]; decide) rfl ?_
        refine z_goto C 23 dX7_isSquare_77 (by decide) ?_
        refine z_sub C [2, 3, 1, 0] [(0, za x (17)), (1, .int (zI (v1))), (2, .int (zI (0))), (3, .int (zI (v3 + 1)))] rfl ?_
        exact ih v1 0 (v3 + 1)  (zst σ6 24 v3.toNat a7) h
      · have h := h.2 c10
        refine z_aload_n C 0 dX7_isSquare_49 rfl rfl ?_
        refine g_X7_8 C kf_X7_29 dX7_isSquare_50 ?_
        refine z_iload_n C 3 dX7_isSquare_53 rfl rfl ?_
        refine z_iald C ia_24 dX7_isSquare_54 o8.1 o8.2 ?_
        refine z_bipush C dX7_isSquare_55 rfl ?_
        obtain ⟨o11, h⟩ := h
        refine z_icmp_ge C 72 dX7_isSquare_57 (by decide) o11 (zrg_d rfl) (fun c12 => ?_) (fun c12 => ?_)
        · have h := h.1 c12
          refine z_iconst C dX7_isSquare_72 ?_
          refine z_istore_n C [(2, .int (zI (0))), (0, za x (17)), (1, .int (zI (v1))), (3, .int (zI (v3)))] dX7_isSquare_73 rfl (by rw [hN]; decide) rfl ?_
          refine z_iinc C 3 [(3, .int (zI (v3 + 1))), (2, .int (zI (0))), (0, za x (17)), (1, .int (zI (v1)))] dX7_isSquare_74 rfl (by rw [hN]; decide) rfl ?_
          refine z_goto C 23 dX7_isSquare_77 (by decide) ?_
          refine z_sub C [2, 3, 1, 0] [(0, za x (17)), (1, .int (zI (v1))), (2, .int (zI (0))), (3, .int (zI (v3 + 1)))] rfl ?_
          exact ih v1 0 (v3 + 1)  (zst σ6 24 v3.toNat a7) h
        · have h := h.2 c12
          refine z_aload_n C 0 dX7_isSquare_60 rfl rfl ?_
          refine z_iload_n C 3 dX7_isSquare_61 rfl rfl ?_
          refine z_callV (av := fun w => [.int (zI (v3))]) C [] cs_X7_isUnlike (by decide) (fun _ _ => rfl) rfl (mX7_isUnlike v3  (zst σ6 24 v3.toNat a7) _ h) km_X7_109 dX7_isSquare_62 rfl rfl ⟨rfl, rfl⟩ ⟨by decide, by decide⟩ (Nat.le_of_ble_eq_true rfl) (fun rv σ13 hp => ?_)
          obtain ⟨a14, rfl, h⟩ := hp
          change zV x σ13 65 [(0, za x (17)), (1, .int (zI (v1))), (2, .int (zI (v2))), (3, .int (zI (v3)))] [.int (zI (a14))]
          obtain ⟨o15, h⟩ := h
          refine z_if_eq C 72 dX7_isSquare_65 (by decide) o15 (fun c16 => ?_) (fun c16 => ?_)
          · have h := h.1 c16
            refine z_iconst C dX7_isSquare_72 ?_
            refine z_istore_n C [(2, .int (zI (0))), (0, za x (17)), (1, .int (zI (v1))), (3, .int (zI (v3)))] dX7_isSquare_73 rfl (by rw [hN]; decide) rfl ?_
            refine z_iinc C 3 [(3, .int (zI (v3 + 1))), (2, .int (zI (0))), (0, za x (17)), (1, .int (zI (v1)))] dX7_isSquare_74 rfl (by rw [hN]; decide) rfl ?_
            refine z_goto C 23 dX7_isSquare_77 (by decide) ?_
            refine z_sub C [2, 3, 1, 0] [(0, za x (17)), (1, .int (zI (v1))), (2, .int (zI (0))), (3, .int (zI (v3 + 1)))] rfl ?_
            exact ih v1 0 (v3 + 1)  σ13 h
          · have h := h.2 c16
            refine z_iconst C dX7_isSquare_68 ?_
            refine z_goto C 73 dX7_isSquare_69 (by decide) ?_
            refine z_istore_n C [(2, .int (zI (1))), (0, za x (17)), (1, .int (zI (v1))), (3, .int (zI (v3)))] dX7_isSquare_73 rfl (by rw [hN]; decide) rfl ?_
            refine z_iinc C 3 [(3, .int (zI (v3 + 1))), (2, .int (zI (1))), (0, za x (17)), (1, .int (zI (v1)))] dX7_isSquare_74 rfl (by rw [hN]; decide) rfl ?_
            refine z_goto C 23 dX7_isSquare_77 (by decide) ?_
            refine z_sub C [2, 3, 1, 0] [(0, za x (17)), (1, .int (zI (v1))), (2, .int (zI (1))), (3, .int (zI (v3 + 1)))] rfl ?_
            exact ih v1 1 (v3 + 1)  σ13 h
def wX7_isSquare (v1 : Int) (σ : Hp) (k : Int → Hp → Prop) : Prop :=
  (0 ≤ v1 ∧ v1 < 6) ∧ zrg (σ 18 v1.toNat) ∧ zrg (σ 19 v1.toNat) ∧ ((σ 18 v1.toNat ≠ σ 19 v1.toNat → (∃ N5, wX7_isSquare_23 k N5 v1 0 0 σ)) ∧ (¬ (σ 18 v1.toNat ≠ σ 19 v1.toNat) → (∃ N6, wX7_isSquare_23 k N6 v1 1 0 σ)))
set_option maxRecDepth 100000 in
theorem mX7_isSquare (v1 : Int) (σ : Hp) (k : Int → Hp → Prop) (h : wX7_isSquare v1 σ k) (l : Launch) : zMt l yX7_isSquare cX7_isSquare 4 (some .boolean) { frames := 2, cells := 0, slots := 0, locals := 47 } (fun w => [.ref (w.2.1 (17)), .int (zI (v1))]) σ (zPi k) := by
  refine zMt_of (plainFor_of_name (by decide)) (fun w => Nat.le_of_ble_eq_true rfl) (fun x hl hN C E => ?_)
  change zV x σ 0 [(0, za x (17)), (1, .int (zI (v1)))] []
  change zOk x cX7_isSquare RX7 (some .boolean) (2) (47) at C
  unfold wX7_isSquare at h
  refine z_aload_n C 0 dX7_isSquare_0 rfl rfl ?_
  refine g_X7_0 C kf_X7_7 dX7_isSquare_1 ?_
  refine z_iload_n C 1 dX7_isSquare_4 rfl rfl ?_
  obtain ⟨o1, h⟩ := h
  refine z_iald C ia_18 dX7_isSquare_5 o1.1 o1.2 ?_
  refine z_aload_n C 0 dX7_isSquare_6 rfl rfl ?_
  refine g_X7_1 C kf_X7_13 dX7_isSquare_7 ?_
  refine z_iload_n C 1 dX7_isSquare_10 rfl rfl ?_
  refine z_iald C ia_19 dX7_isSquare_11 o1.1 o1.2 ?_
  obtain ⟨o2, h⟩ := h
  obtain ⟨o3, h⟩ := h
  refine z_icmp_ne C 19 dX7_isSquare_12 (by decide) o2 o3 (fun c4 => ?_) (fun c4 => ?_)
  · have h := h.1 c4
    refine z_iconst C dX7_isSquare_19 ?_
    refine z_istore_n C [(2, .int (zI (0))), (0, za x (17)), (1, .int (zI (v1)))] dX7_isSquare_20 rfl (by rw [hN]; decide) rfl ?_
    refine z_iconst C dX7_isSquare_21 ?_
    refine z_istore_n C [(3, .int (zI (0))), (2, .int (zI (0))), (0, za x (17)), (1, .int (zI (v1)))] dX7_isSquare_22 rfl (by rw [hN]; decide) rfl ?_
    refine z_sub C [2, 3, 1, 0] [(0, za x (17)), (1, .int (zI (v1))), (2, .int (zI (0))), (3, .int (zI (0)))] rfl ?_
    obtain ⟨n5, h⟩ := h
    exact sX7_isSquare_23 C hN E n5 v1 0 0  σ h
  · have h := h.2 c4
    refine z_iconst C dX7_isSquare_15 ?_
    refine z_goto C 20 dX7_isSquare_16 (by decide) ?_
    refine z_istore_n C [(2, .int (zI (1))), (0, za x (17)), (1, .int (zI (v1)))] dX7_isSquare_20 rfl (by rw [hN]; decide) rfl ?_
    refine z_iconst C dX7_isSquare_21 ?_
    refine z_istore_n C [(3, .int (zI (0))), (2, .int (zI (1))), (0, za x (17)), (1, .int (zI (v1)))] dX7_isSquare_22 rfl (by rw [hN]; decide) rfl ?_
    refine z_sub C [2, 3, 1, 0] [(0, za x (17)), (1, .int (zI (v1))), (2, .int (zI (1))), (3, .int (zI (0)))] rfl ?_
    obtain ⟨n6, h⟩ := h
    exact sX7_isSquare_23 C hN E n6 v1 1 0  σ h
def wX7_corner_246 (k : Int → Hp → Prop) (K123 : Int → Int → Int → Int → Int → Int → Hp → Prop) (v1 : Int) (v2 : Int) (v3 : Int) (v4 : Int) (v7 : Int) (v8 : Int) (t0 : Int) (t1 : Int) (σ : Hp) : Prop :=
  (0 ≤ t1 ∧ t1 < 12) ∧ K123 v1 v2 v3 v4 v7 (v8 + 1) (zst σ 24 t1.toNat t0)
set_option maxRecDepth 100000 in
theorem sX7_corner_246 {x : Cx} (C : zOk x cX7_corner RX7 (some .int) (3) (70)) (hN : x.2.2.2.2.1 = 12) {k : Int → Hp → Prop} (E : zEnd x (zPi k x.2.1)) {K123 : Int → Int → Int → Int → Int → Int → Hp → Prop} (H123 : ∀ (v1 : Int) (v2 : Int) (v3 : Int) (v4 : Int) (v7 : Int) (v8 : Int) (σ : Hp), K123 v1 v2 v3 v4 v7 v8 σ → zV x σ 123 [(0, za x (17)), (1, .int (zI (v1))), (2, .int (zI (v2))), (3, .int (zI (v3))), (4, .int (zI (v4))), (7, .int (zI (v7))), (8, .int (zI (v8)))] []) (v1 : Int) (v2 : Int) (v3 : Int) (v4 : Int) (v7 : Int) (v8 : Int) (t0 : Int) (t1 : Int) (σ : Hp) (h : wX7_corner_246 k K123 v1 v2 v3 v4 v7 v8 t0 t1 σ) : zV x σ 246 [(0, za x (17)), (1, .int (zI (v1))), (2, .int (zI (v2))), (3, .int (zI (v3))), (4, .int (zI (v4))), (7, .int (zI (v7))), (8, .int (zI (v8)))] [.int (zI (t0)), .int (zI (t1)), za x (24)] := by
  unfold wX7_corner_246 at h
  obtain ⟨o1, h⟩ := h
  refine z_iast C ia_24 dX7_corner_246 o1.1 o1.2 ?_
  refine z_iinc C 6 [(8, .int (zI (v8 + 1))), (0, za x (17)), (1, .int (zI (v1))), (2, .int (zI (v2))), (3, .int (zI (v3))), (4, .int (zI (v4))), (7, .int (zI (v7)))] dX7_corner_247 rfl (by rw [hN]; decide) rfl ?_
  refine z_goto C 123 dX7_corner_250 (by decide) ?_
  refine z_sub C [1, 2, 3, 4, 5, 6, 0] [(0, za x (17)), (1, .int (zI (v1))), (2, .int (zI (v2))), (3, .int (zI (v3))), (4, .int (zI (v4))), (7, .int (zI (v7))), (8, .int (zI (v8 + 1)))] rfl ?_
  exact H123 v1 v2 v3 v4 v7 (v8 + 1)  (zst σ 24 t1.toNat t0) h
def wX7_corner_272 (k : Int → Hp → Prop) : Nat → Int → Int → Int → Hp → Prop
  | 0, _, _, _, _ => False
  | n + 1, v1, v7, v8, σ => zrg v8 ∧ zrg v7 ∧ ((v7 ≤ v8 → k v7 σ) ∧ (¬ (v7 ≤ v8) → (0 ≤ v8 ∧ v8 < 12) ∧ (0 ≤ (12 * v1) + v8 ∧ (12 * v1) + v8 < 72) ∧ wX7_corner_272 k n v1 v7 (v8 + 1) (zst σ 20 ((12 * v1) + v8).toNat (σ 24 v8.toNat))))
set_option maxRecDepth 100000 in
theorem sX7_corner_272 {x : Cx} (C : zOk x cX7_corner RX7 (some .int) (3) (70)) (hN : x.2.2.2.2.1 = 12) {k : Int → Hp → Prop} (E : zEnd x (zPi k x.2.1)) : ∀ (n : Nat) (v1 : Int) (v7 : Int) (v8 : Int) (σ : Hp), wX7_corner_272 k n v1 v7 v8 σ → zV x σ 272 [(0, za x (17)), (1, .int (zI (v1))), (7, .int (zI (v7))), (8, .int (zI (v8)))] [] := by
  intro n
  induction n with
  | zero => intro _ _ _ _ h; exact h.elim
  | succ n ih =>
    intro v1 v7 v8 σ h
    unfold wX7_corner_272 at h
    refine z_iload C 3 dX7_corner_272 rfl ?_
    refine z_iload C 2 dX7_corner_274 rfl ?_
    obtain ⟨o1, h⟩ := h
    obtain ⟨o2, h⟩ := h
    refine z_icmp_ge C 304 dX7_corner_276 (by decide) o1 o2 (fun c3 => ?_) (fun c3 => ?_)
    · have h := h.1 c3
      refine z_iload C 2 dX7_corner_304 rfl ?_
      exact z_iret C E dX7_corner_306 ⟨_, rfl, h⟩
    · have h := h.2 c3
      refine z_aload_n C 0 dX7_corner_279 rfl rfl ?_
      refine g_X7_2 C kf_X7_16 dX7_corner_280 ?_
      refine z_bipush C dX7_corner_283 rfl ?_
      refine z_iload_n C 1 dX7_corner_285 rfl rfl ?_
      refine z_imul C dX7_corner_286 ?_
      refine z_iload C 3 dX7_corner_287 rfl ?_
      refine z_iadd C dX7_corner_289 ?_
      refine z_aload_n C 0 dX7_corner_290 rfl rfl ?_
      refine g_X7_8 C kf_X7_29 dX7_corner_291 ?_
      refine z_iload C 3 dX7_corner_294 rfl ?_
      obtain ⟨o4, h⟩ := h
      refine z_iald C ia_24 dX7_corner_296 o4.1 o4.2 ?_
      obtain ⟨o5, h⟩ := h
      refine z_iast C ia_20 dX7_corner_297 o5.1 o5.2 ?_
      refine z_iinc C 3 [(8, .int (zI (v8 + 1))), (0, za x (17)), (1, .int (zI (v1))), (7, .int (zI (v7)))] dX7_corner_298 rfl (by rw [hN]; decide) rfl ?_
      refine z_goto C 272 dX7_corner_301 (by decide) ?_
      refine z_sub C [1, 2, 3, 0] [(0, za x (17)), (1, .int (zI (v1))), (7, .int (zI (v7))), (8, .int (zI (v8 + 1)))] rfl ?_
      exact ih v1 v7 (v8 + 1)  (zst σ 20 ((12 * v1) + v8).toNat (σ 24 v8.toNat)) h
def wX7_corner_209 (k : Int → Hp → Prop) (K123 : Int → Int → Int → Int → Int → Int → Hp → Prop) (v1 : Int) (v2 : Int) (v3 : Int) (v4 : Int) (v7 : Int) (v8 : Int) (v9 : Int) (v10 : Int) (t0 : Int) (σ : Hp) : Prop :=
  zrg t0 ∧ ((t0 = 0 → wX7_at v1 v9 σ (fun a4 σ3 => wX7_corner_246 k K123 v1 v2 v3 v4 v7 v8 (a4 + v10) v8 σ3)) ∧ (¬ (t0 = 0) → zrg v2 ∧ ((2 ≤ v2 → wX7_corner_246 k K123 v1 v2 v3 v4 v7 v8 v4 v8 σ) ∧ (¬ (2 ≤ v2) → wX7_corner_246 k K123 v1 v2 v3 v4 v7 v8 0 v8 σ))))
set_option maxRecDepth 100000 in
theorem sX7_corner_209 {x : Cx} (C : zOk x cX7_corner RX7 (some .int) (3) (70)) (hN : x.2.2.2.2.1 = 12) {k : Int → Hp → Prop} (E : zEnd x (zPi k x.2.1)) {K123 : Int → Int → Int → Int → Int → Int → Hp → Prop} (H123 : ∀ (v1 : Int) (v2 : Int) (v3 : Int) (v4 : Int) (v7 : Int) (v8 : Int) (σ : Hp), K123 v1 v2 v3 v4 v7 v8 σ → zV x σ 123 [(0, za x (17)), (1, .int (zI (v1))), (2, .int (zI (v2))), (3, .int (zI (v3))), (4, .int (zI (v4))), (7, .int (zI (v7))), (8, .int (zI (v8)))] []) (v1 : Int) (v2 : Int) (v3 : Int) (v4 : Int) (v7 : Int) (v8 : Int) (v9 : Int) (v10 : Int) (t0 : Int) (σ : Hp) (h : wX7_corner_209 k K123 v1 v2 v3 v4 v7 v8 v9 v10 t0 σ) : zV x σ 209 [(0, za x (17)), (1, .int (zI (v1))), (2, .int (zI (v2))), (3, .int (zI (v3))), (4, .int (zI (v4))), (7, .int (zI (v7))), (8, .int (zI (v8))), (9, .int (zI (v9))), (10, .int (zI (v10)))] [.int (zI (t0))] := by
  unfold wX7_corner_209 at h
  refine z_istore C [(11, .int (zI (t0))), (0, za x (17)), (1, .int (zI (v1))), (2, .int (zI (v2))), (3, .int (zI (v3))), (4, .int (zI (v4))), (7, .int (zI (v7))), (8, .int (zI (v8))), (9, .int (zI (v9))), (10, .int (zI (v10)))] dX7_corner_209 (by rw [hN]; decide) rfl ?_
  refine z_aload_n C 1 dX7_corner_211 rfl rfl ?_
  refine g_X7_8 C kf_X7_29 dX7_corner_212 ?_
  refine z_iload C 7 dX7_corner_215 rfl ?_
  refine z_iload C 0 dX7_corner_217 rfl ?_
  obtain ⟨o1, h⟩ := h
  refine z_if_eq C 236 dX7_corner_219 (by decide) o1 (fun c2 => ?_) (fun c2 => ?_)
  · have h := h.1 c2
    refine z_aload_n C 1 dX7_corner_236 rfl rfl ?_
    refine z_iload_n C 2 dX7_corner_237 rfl rfl ?_
    refine z_iload C 8 dX7_corner_238 rfl ?_
    refine z_callV (av := fun w => [.int (zI (v1)), .int (zI (v9))]) C [.int (zI (v8)), za x (24)] cs_X7_at (by decide) (fun _ _ => rfl) rfl (mX7_at v1 v9  σ _ h) km_X7_79 dX7_corner_240 rfl rfl ⟨rfl, rfl⟩ ⟨by decide, by decide⟩ (Nat.le_of_ble_eq_true rfl) (fun rv σ3 hp => ?_)
    obtain ⟨a4, rfl, h⟩ := hp
    change zV x σ3 243 [(11, .int (zI (t0))), (0, za x (17)), (1, .int (zI (v1))), (2, .int (zI (v2))), (3, .int (zI (v3))), (4, .int (zI (v4))), (7, .int (zI (v7))), (8, .int (zI (v8))), (9, .int (zI (v9))), (10, .int (zI (v10)))] [.int (zI (a4)), .int (zI (v8)), za x (24)]
    refine z_iload C 9 dX7_corner_243 rfl ?_
    refine z_iadd C dX7_corner_245 ?_
    refine z_sub C [1, 2, 3, 4, 5, 6, 7] [(0, za x (17)), (1, .int (zI (v1))), (2, .int (zI (v2))), (3, .int (zI (v3))), (4, .int (zI (v4))), (7, .int (zI (v7))), (8, .int (zI (v8)))] rfl ?_
    exact sX7_corner_246 C hN E H123 v1 v2 v3 v4 v7 v8 (a4 + v10) v8  σ3 h
  · have h := h.2 c2
    refine z_iload_n C 3 dX7_corner_222 rfl rfl ?_
    refine z_iconst C dX7_corner_223 ?_
    obtain ⟨o5, h⟩ := h
    refine z_icmp_ge C 231 dX7_corner_224 (by decide) o5 (zrg_d rfl) (fun c6 => ?_) (fun c6 => ?_)
    · have h := h.1 c6
      refine z_iload C 5 dX7_corner_231 rfl ?_
      refine z_goto C 246 dX7_corner_233 (by decide) ?_
      refine z_sub C [1, 2, 3, 4, 5, 6, 7] [(0, za x (17)), (1, .int (zI (v1))), (2, .int (zI (v2))), (3, .int (zI (v3))), (4, .int (zI (v4))), (7, .int (zI (v7))), (8, .int (zI (v8)))] rfl ?_
      exact sX7_corner_246 C hN E H123 v1 v2 v3 v4 v7 v8 v4 v8  σ h
    · have h := h.2 c6
      refine z_iconst C dX7_corner_227 ?_
      refine z_goto C 246 dX7_corner_228 (by decide) ?_
      refine z_sub C [1, 2, 3, 4, 5, 6, 7] [(0, za x (17)), (1, .int (zI (v1))), (2, .int (zI (v2))), (3, .int (zI (v3))), (4, .int (zI (v4))), (7, .int (zI (v7))), (8, .int (zI (v8)))] rfl ?_
      exact sX7_corner_246 C hN E H123 v1 v2 v3 v4 v7 v8 0 v8  σ h
def wX7_corner_177 (k : Int → Hp → Prop) (K123 : Int → Int → Int → Int → Int → Int → Hp → Prop) (v1 : Int) (v2 : Int) (v3 : Int) (v4 : Int) (v7 : Int) (v8 : Int) (v9 : Int) (t0 : Int) (σ : Hp) : Prop :=
  zrg v3 ∧ ((v3 = 0 → wX7_corner_209 k K123 v1 v2 v3 v4 v7 v8 v9 t0 0 σ) ∧ (¬ (v3 = 0) → zrg v2 ∧ zrg (Int.tmod v2 2) ∧ ((Int.tmod v2 2 ≠ 0 → zrg v8 ∧ zrg v4 ∧ ((v8 ≠ v4 → wX7_corner_209 k K123 v1 v2 v3 v4 v7 v8 v9 t0 0 σ) ∧ (¬ (v8 ≠ v4) → wX7_corner_209 k K123 v1 v2 v3 v4 v7 v8 v9 t0 1 σ))) ∧ (¬ (Int.tmod v2 2 ≠ 0) → zrg v8 ∧ ((v8 ≠ 0 → wX7_corner_209 k K123 v1 v2 v3 v4 v7 v8 v9 t0 0 σ) ∧ (¬ (v8 ≠ 0) → wX7_corner_209 k K123 v1 v2 v3 v4 v7 v8 v9 t0 1 σ))))))
set_option maxRecDepth 100000 in
theorem sX7_corner_177 {x : Cx} (C : zOk x cX7_corner RX7 (some .int) (3) (70)) (hN : x.2.2.2.2.1 = 12) {k : Int → Hp → Prop} (E : zEnd x (zPi k x.2.1)) {K123 : Int → Int → Int → Int → Int → Int → Hp → Prop} (H123 : ∀ (v1 : Int) (v2 : Int) (v3 : Int) (v4 : Int) (v7 : Int) (v8 : Int) (σ : Hp), K123 v1 v2 v3 v4 v7 v8 σ → zV x σ 123 [(0, za x (17)), (1, .int (zI (v1))), (2, .int (zI (v2))), (3, .int (zI (v3))), (4, .int (zI (v4))), (7, .int (zI (v7))), (8, .int (zI (v8)))] []) (v1 : Int) (v2 : Int) (v3 : Int) (v4 : Int) (v7 : Int) (v8 : Int) (v9 : Int) (t0 : Int) (σ : Hp) (h : wX7_corner_177 k K123 v1 v2 v3 v4 v7 v8 v9 t0 σ) : zV x σ 177 [(0, za x (17)), (1, .int (zI (v1))), (2, .int (zI (v2))), (3, .int (zI (v3))), (4, .int (zI (v4))), (7, .int (zI (v7))), (8, .int (zI (v8))), (9, .int (zI (v9)))] [.int (zI (t0))] := by
  unfold wX7_corner_177 at h
  refine z_istore C [(10, .int (zI (t0))), (0, za x (17)), (1, .int (zI (v1))), (2, .int (zI (v2))), (3, .int (zI (v3))), (4, .int (zI (v4))), (7, .int (zI (v7))), (8, .int (zI (v8))), (9, .int (zI (v9)))] dX7_corner_177 (by rw [hN]; decide) rfl ?_
  refine z_iload_n C 4 dX7_corner_179 rfl rfl ?_
  obtain ⟨o1, h⟩ := h
  refine z_if_eq C 208 dX7_corner_180 (by decide) o1 (fun c2 => ?_) (fun c2 => ?_)
  · have h := h.1 c2
    refine z_iconst C dX7_corner_208 ?_
    refine z_sub C [1, 2, 3, 4, 5, 6, 7, 8, 0] [(0, za x (17)), (1, .int (zI (v1))), (2, .int (zI (v2))), (3, .int (zI (v3))), (4, .int (zI (v4))), (7, .int (zI (v7))), (8, .int (zI (v8))), (9, .int (zI (v9))), (10, .int (zI (t0)))] rfl ?_
    exact sX7_corner_209 C hN E H123 v1 v2 v3 v4 v7 v8 v9 t0 0  σ h
  · have h := h.2 c2
    refine z_iload_n C 3 dX7_corner_183 rfl rfl ?_
    refine z_iconst C dX7_corner_184 ?_
    obtain ⟨o3, h⟩ := h
    refine z_irem C dX7_corner_185 o3 (zrg_d rfl) (by decide) ?_
    obtain ⟨o4, h⟩ := h
    refine z_if_ne C 197 dX7_corner_186 (by decide) o4 (fun c5 => ?_) (fun c5 => ?_)
    · have h := h.1 c5
      refine z_iload C 7 dX7_corner_197 rfl ?_
      refine z_iload C 5 dX7_corner_199 rfl ?_
      obtain ⟨o6, h⟩ := h
      obtain ⟨o7, h⟩ := h
      refine z_icmp_ne C 208 dX7_corner_201 (by decide) o6 o7 (fun c8 => ?_) (fun c8 => ?_)
      · have h := h.1 c8
        refine z_iconst C dX7_corner_208 ?_
        refine z_sub C [1, 2, 3, 4, 5, 6, 7, 8, 0] [(0, za x (17)), (1, .int (zI (v1))), (2, .int (zI (v2))), (3, .int (zI (v3))), (4, .int (zI (v4))), (7, .int (zI (v7))), (8, .int (zI (v8))), (9, .int (zI (v9))), (10, .int (zI (t0)))] rfl ?_
        exact sX7_corner_209 C hN E H123 v1 v2 v3 v4 v7 v8 v9 t0 0  σ h
      · have h := h.2 c8
        refine z_iconst C dX7_corner_204 ?_
        refine z_goto C 209 dX7_corner_205 (by decide) ?_
        refine z_sub C [1, 2, 3, 4, 5, 6, 7, 8, 0] [(0, za x (17)), (1, .int (zI (v1))), (2, .int (zI (v2))), (3, .int (zI (v3))), (4, .int (zI (v4))), (7, .int (zI (v7))), (8, .int (zI (v8))), (9, .int (zI (v9))), (10, .int (zI (t0)))] rfl ?_
        exact sX7_corner_209 C hN E H123 v1 v2 v3 v4 v7 v8 v9 t0 1  σ h
    · have h := h.2 c5
      refine z_iload C 7 dX7_corner_189 rfl ?_
      obtain ⟨o9, h⟩ := h
      refine z_if_ne C 208 dX7_corner_191 (by decide) o9 (fun c10 => ?_) (fun c10 => ?_)
      · have h := h.1 c10
        refine z_iconst C dX7_corner_208 ?_
        refine z_sub C [1, 2, 3, 4, 5, 6, 7, 8, 0] [(0, za x (17)), (1, .int (zI (v1))), (2, .int (zI (v2))), (3, .int (zI (v3))), (4, .int (zI (v4))), (7, .int (zI (v7))), (8, .int (zI (v8))), (9, .int (zI (v9))), (10, .int (zI (t0)))] rfl ?_
        exact sX7_corner_209 C hN E H123 v1 v2 v3 v4 v7 v8 v9 t0 0  σ h
      · have h := h.2 c10
        refine z_goto C 204 dX7_corner_194 (by decide) ?_
        refine z_iconst C dX7_corner_204 ?_
        refine z_goto C 209 dX7_corner_205 (by decide) ?_
        refine z_sub C [1, 2, 3, 4, 5, 6, 7, 8, 0] [(0, za x (17)), (1, .int (zI (v1))), (2, .int (zI (v2))), (3, .int (zI (v3))), (4, .int (zI (v4))), (7, .int (zI (v7))), (8, .int (zI (v8))), (9, .int (zI (v9))), (10, .int (zI (t0)))] rfl ?_
        exact sX7_corner_209 C hN E H123 v1 v2 v3 v4 v7 v8 v9 t0 1  σ h
def wX7_corner_157 (k : Int → Hp → Prop) (K123 : Int → Int → Int → Int → Int → Int → Hp → Prop) (v1 : Int) (v2 : Int) (v3 : Int) (v4 : Int) (v7 : Int) (v8 : Int) (t0 : Int) (σ : Hp) : Prop :=
  zrg v2 ∧ ((v2 ≤ 1 → zrg v3 ∧ ((v3 = 0 → wX7_corner_177 k K123 v1 v2 v3 v4 v7 v8 t0 ((-1)) σ) ∧ (¬ (v3 = 0) → wX7_corner_177 k K123 v1 v2 v3 v4 v7 v8 t0 1 σ))) ∧ (¬ (v2 ≤ 1) → wX7_corner_177 k K123 v1 v2 v3 v4 v7 v8 t0 0 σ))
set_option maxRecDepth 100000 in
theorem sX7_corner_157 {x : Cx} (C : zOk x cX7_corner RX7 (some .int) (3) (70)) (hN : x.2.2.2.2.1 = 12) {k : Int → Hp → Prop} (E : zEnd x (zPi k x.2.1)) {K123 : Int → Int → Int → Int → Int → Int → Hp → Prop} (H123 : ∀ (v1 : Int) (v2 : Int) (v3 : Int) (v4 : Int) (v7 : Int) (v8 : Int) (σ : Hp), K123 v1 v2 v3 v4 v7 v8 σ → zV x σ 123 [(0, za x (17)), (1, .int (zI (v1))), (2, .int (zI (v2))), (3, .int (zI (v3))), (4, .int (zI (v4))), (7, .int (zI (v7))), (8, .int (zI (v8)))] []) (v1 : Int) (v2 : Int) (v3 : Int) (v4 : Int) (v7 : Int) (v8 : Int) (t0 : Int) (σ : Hp) (h : wX7_corner_157 k K123 v1 v2 v3 v4 v7 v8 t0 σ) : zV x σ 157 [(0, za x (17)), (1, .int (zI (v1))), (2, .int (zI (v2))), (3, .int (zI (v3))), (4, .int (zI (v4))), (7, .int (zI (v7))), (8, .int (zI (v8)))] [.int (zI (t0))] := by
  unfold wX7_corner_157 at h
  refine z_istore C [(9, .int (zI (t0))), (0, za x (17)), (1, .int (zI (v1))), (2, .int (zI (v2))), (3, .int (zI (v3))), (4, .int (zI (v4))), (7, .int (zI (v7))), (8, .int (zI (v8)))] dX7_corner_157 (by rw [hN]; decide) rfl ?_
  refine z_iload_n C 3 dX7_corner_159 rfl rfl ?_
  refine z_iconst C dX7_corner_160 ?_
  obtain ⟨o1, h⟩ := h
  refine z_icmp_le C 168 dX7_corner_161 (by decide) o1 (zrg_d rfl) (fun c2 => ?_) (fun c2 => ?_)
  · have h := h.1 c2
    refine z_iload_n C 4 dX7_corner_168 rfl rfl ?_
    obtain ⟨o3, h⟩ := h
    refine z_if_eq C 176 dX7_corner_169 (by decide) o3 (fun c4 => ?_) (fun c4 => ?_)
    · have h := h.1 c4
      refine z_iconst C dX7_corner_176 ?_
      refine z_sub C [1, 2, 3, 4, 5, 6, 7, 0] [(0, za x (17)), (1, .int (zI (v1))), (2, .int (zI (v2))), (3, .int (zI (v3))), (4, .int (zI (v4))), (7, .int (zI (v7))), (8, .int (zI (v8))), (9, .int (zI (t0)))] rfl ?_
      exact sX7_corner_177 C hN E H123 v1 v2 v3 v4 v7 v8 t0 ((-1))  σ h
    · have h := h.2 c4
      refine z_iconst C dX7_corner_172 ?_
      refine z_goto C 177 dX7_corner_173 (by decide) ?_
      refine z_sub C [1, 2, 3, 4, 5, 6, 7, 0] [(0, za x (17)), (1, .int (zI (v1))), (2, .int (zI (v2))), (3, .int (zI (v3))), (4, .int (zI (v4))), (7, .int (zI (v7))), (8, .int (zI (v8))), (9, .int (zI (t0)))] rfl ?_
      exact sX7_corner_177 C hN E H123 v1 v2 v3 v4 v7 v8 t0 1  σ h
  · have h := h.2 c2
    refine z_iconst C dX7_corner_164 ?_
    refine z_goto C 177 dX7_corner_165 (by decide) ?_
    refine z_sub C [1, 2, 3, 4, 5, 6, 7, 0] [(0, za x (17)), (1, .int (zI (v1))), (2, .int (zI (v2))), (3, .int (zI (v3))), (4, .int (zI (v4))), (7, .int (zI (v7))), (8, .int (zI (v8))), (9, .int (zI (t0)))] rfl ?_
    exact sX7_corner_177 C hN E H123 v1 v2 v3 v4 v7 v8 t0 0  σ h
def wX7_corner_123 (k : Int → Hp → Prop) : Nat → Int → Int → Int → Int → Int → Int → Hp → Prop
  | 0, _, _, _, _, _, _, _ => False
  | n + 1, v1, v2, v3, v4, v7, v8, σ => zrg v8 ∧ zrg v7 ∧ ((v7 ≤ v8 → (0 ≤ v1 ∧ v1 < 6) ∧ (∃ N5, wX7_corner_272 k N5 v1 v7 0 (zst (zst σ 18 v1.toNat v7) 19 v1.toNat v7))) ∧ (¬ (v7 ≤ v8) → zrg v2 ∧ zrg (Int.tmod v2 2) ∧ ((Int.tmod v2 2 ≠ 1 → zrg v3 ∧ ((v3 = 0 → wX7_corner_157 k (fun v1 v2 v3 v4 v7 v8 σ => wX7_corner_123 k n v1 v2 v3 v4 v7 v8 σ) v1 v2 v3 v4 v7 v8 (v8 + 1) σ) ∧ (¬ (v3 = 0) → wX7_corner_157 k (fun v1 v2 v3 v4 v7 v8 σ => wX7_corner_123 k n v1 v2 v3 v4 v7 v8 σ) v1 v2 v3 v4 v7 v8 (v8 - 1) σ))) ∧ (¬ (Int.tmod v2 2 ≠ 1) → wX7_corner_157 k (fun v1 v2 v3 v4 v7 v8 σ => wX7_corner_123 k n v1 v2 v3 v4 v7 v8 σ) v1 v2 v3 v4 v7 v8 v8 σ))))
set_option maxRecDepth 100000 in
theorem sX7_corner_123 {x : Cx} (C : zOk x cX7_corner RX7 (some .int) (3) (70)) (hN : x.2.2.2.2.1 = 12) {k : Int → Hp → Prop} (E : zEnd x (zPi k x.2.1)) : ∀ (n : Nat) (v1 : Int) (v2 : Int) (v3 : Int) (v4 : Int) (v7 : Int) (v8 : Int) (σ : Hp), wX7_corner_123 k n v1 v2 v3 v4 v7 v8 σ → zV x σ 123 [(0, za x (17)), (1, .int (zI (v1))), (2, .int (zI (v2))), (3, .int (zI (v3))), (4, .int (zI (v4))), (7, .int (zI (v7))), (8, .int (zI (v8)))] [] := by
  intro n
  induction n with
  | zero => intro _ _ _ _ _ _ _ h; exact h.elim
  | succ n ih =>
    intro v1 v2 v3 v4 v7 v8 σ h
    unfold wX7_corner_123 at h
    refine z_iload C 6 dX7_corner_123 rfl ?_
    refine z_iload C 5 dX7_corner_125 rfl ?_
    obtain ⟨o1, h⟩ := h
    obtain ⟨o2, h⟩ := h
    refine z_icmp_ge C 253 dX7_corner_127 (by decide) o1 o2 (fun c3 => ?_) (fun c3 => ?_)
    · have h := h.1 c3
      refine z_aload_n C 0 dX7_corner_253 rfl rfl ?_
      refine g_X7_0 C kf_X7_7 dX7_corner_254 ?_
      refine z_iload_n C 1 dX7_corner_257 rfl rfl ?_
      refine z_iload C 5 dX7_corner_258 rfl ?_
      obtain ⟨o4, h⟩ := h
      refine z_iast C ia_18 dX7_corner_260 o4.1 o4.2 ?_
      refine z_aload_n C 0 dX7_corner_261 rfl rfl ?_
      refine g_X7_1 C kf_X7_13 dX7_corner_262 ?_
      refine z_iload_n C 1 dX7_corner_265 rfl rfl ?_
      refine z_iload C 5 dX7_corner_266 rfl ?_
      refine z_iast C ia_19 dX7_corner_268 o4.1 o4.2 ?_
      refine z_iconst C dX7_corner_269 ?_
      refine z_istore C [(8, .int (zI (0))), (0, za x (17)), (1, .int (zI (v1))), (2, .int (zI (v2))), (3, .int (zI (v3))), (4, .int (zI (v4))), (7, .int (zI (v7)))] dX7_corner_270 (by rw [hN]; decide) rfl ?_
      refine z_sub C [1, 2, 6, 0] [(0, za x (17)), (1, .int (zI (v1))), (7, .int (zI (v7))), (8, .int (zI (0)))] rfl ?_
      obtain ⟨n5, h⟩ := h
      exact sX7_corner_272 C hN E n5 v1 v7 0  (zst (zst σ 18 v1.toNat v7) 19 v1.toNat v7) h
    · have h := h.2 c3
      refine z_iload_n C 2 dX7_corner_130 rfl rfl ?_
      refine z_iconst C dX7_corner_131 ?_
      obtain ⟨o6, h⟩ := h
      refine z_irem C dX7_corner_132 o6 (zrg_d rfl) (by decide) ?_
      refine z_iconst C dX7_corner_133 ?_
      obtain ⟨o7, h⟩ := h
      refine z_icmp_ne C 142 dX7_corner_134 (by decide) o7 (zrg_d rfl) (fun c8 => ?_) (fun c8 => ?_)
      · have h := h.1 c8
        refine z_iload_n C 3 dX7_corner_142 rfl rfl ?_
        obtain ⟨o9, h⟩ := h
        refine z_if_eq C 153 dX7_corner_143 (by decide) o9 (fun c10 => ?_) (fun c10 => ?_)
        · have h := h.1 c10
          refine z_iload C 6 dX7_corner_153 rfl ?_
          refine z_iconst C dX7_corner_155 ?_
          refine z_iadd C dX7_corner_156 ?_
          exact sX7_corner_157 C hN E (by intro v1 v2 v3 v4 v7 v8 σ h; exact ih v1 v2 v3 v4 v7 v8  σ h) v1 v2 v3 v4 v7 v8 (v8 + 1)  σ h
        · have h := h.2 c10
          refine z_iload C 6 dX7_corner_146 rfl ?_
          refine z_iconst C dX7_corner_148 ?_
          refine z_isub C dX7_corner_149 ?_
          refine z_goto C 157 dX7_corner_150 (by decide) ?_
          exact sX7_corner_157 C hN E (by intro v1 v2 v3 v4 v7 v8 σ h; exact ih v1 v2 v3 v4 v7 v8  σ h) v1 v2 v3 v4 v7 v8 (v8 - 1)  σ h
      · have h := h.2 c8
        refine z_iload C 6 dX7_corner_137 rfl ?_
        refine z_goto C 157 dX7_corner_139 (by decide) ?_
        exact sX7_corner_157 C hN E (by intro v1 v2 v3 v4 v7 v8 σ h; exact ih v1 v2 v3 v4 v7 v8  σ h) v1 v2 v3 v4 v7 v8 v8  σ h
def wX7_corner_103 (k : Int → Hp → Prop) (v1 : Int) (v2 : Int) (v3 : Int) (v4 : Int) (σ : Hp) : Prop :=
  zrg v3 ∧ ((v3 = 0 → (∃ N3, wX7_corner_123 k N3 v1 v2 v3 v4 (v4 - 1) 0 σ)) ∧ (¬ (v3 = 0) → (∃ N4, wX7_corner_123 k N4 v1 v2 v3 v4 (v4 + 1) 0 σ)))
set_option maxRecDepth 100000 in
theorem sX7_corner_103 {x : Cx} (C : zOk x cX7_corner RX7 (some .int) (3) (70)) (hN : x.2.2.2.2.1 = 12) {k : Int → Hp → Prop} (E : zEnd x (zPi k x.2.1)) (v1 : Int) (v2 : Int) (v3 : Int) (v4 : Int) (σ : Hp) (h : wX7_corner_103 k v1 v2 v3 v4 σ) : zV x σ 103 [(0, za x (17)), (1, .int (zI (v1))), (2, .int (zI (v2))), (3, .int (zI (v3))), (4, .int (zI (v4)))] [] := by
  unfold wX7_corner_103 at h
  refine z_iload_n C 3 dX7_corner_103 rfl rfl ?_
  obtain ⟨o1, h⟩ := h
  refine z_if_eq C 114 dX7_corner_104 (by decide) o1 (fun c2 => ?_) (fun c2 => ?_)
  · have h := h.1 c2
    refine z_iload C 4 dX7_corner_114 rfl ?_
    refine z_iconst C dX7_corner_116 ?_
    refine z_isub C dX7_corner_117 ?_
    refine z_istore C [(7, .int (zI (v4 - 1))), (0, za x (17)), (1, .int (zI (v1))), (2, .int (zI (v2))), (3, .int (zI (v3))), (4, .int (zI (v4)))] dX7_corner_118 (by rw [hN]; decide) rfl ?_
    refine z_iconst C dX7_corner_120 ?_
    refine z_istore C [(8, .int (zI (0))), (7, .int (zI (v4 - 1))), (0, za x (17)), (1, .int (zI (v1))), (2, .int (zI (v2))), (3, .int (zI (v3))), (4, .int (zI (v4)))] dX7_corner_121 (by rw [hN]; decide) rfl ?_
    refine z_sub C [2, 3, 4, 5, 6, 1, 0] [(0, za x (17)), (1, .int (zI (v1))), (2, .int (zI (v2))), (3, .int (zI (v3))), (4, .int (zI (v4))), (7, .int (zI (v4 - 1))), (8, .int (zI (0)))] rfl ?_
    obtain ⟨n3, h⟩ := h
    exact sX7_corner_123 C hN E n3 v1 v2 v3 v4 (v4 - 1) 0  σ h
  · have h := h.2 c2
    refine z_iload C 4 dX7_corner_107 rfl ?_
    refine z_iconst C dX7_corner_109 ?_
    refine z_iadd C dX7_corner_110 ?_
    refine z_goto C 118 dX7_corner_111 (by decide) ?_
    refine z_istore C [(7, .int (zI (v4 + 1))), (0, za x (17)), (1, .int (zI (v1))), (2, .int (zI (v2))), (3, .int (zI (v3))), (4, .int (zI (v4)))] dX7_corner_118 (by rw [hN]; decide) rfl ?_
    refine z_iconst C dX7_corner_120 ?_
    refine z_istore C [(8, .int (zI (0))), (7, .int (zI (v4 + 1))), (0, za x (17)), (1, .int (zI (v1))), (2, .int (zI (v2))), (3, .int (zI (v3))), (4, .int (zI (v4)))] dX7_corner_121 (by rw [hN]; decide) rfl ?_
    refine z_sub C [2, 3, 4, 5, 6, 1, 0] [(0, za x (17)), (1, .int (zI (v1))), (2, .int (zI (v2))), (3, .int (zI (v3))), (4, .int (zI (v4))), (7, .int (zI (v4 + 1))), (8, .int (zI (0)))] rfl ?_
    obtain ⟨n4, h⟩ := h
    exact sX7_corner_123 C hN E n4 v1 v2 v3 v4 (v4 + 1) 0  σ h
def wX7_corner_58 (k : Int → Hp → Prop) (v1 : Int) (v2 : Int) (v3 : Int) (v4 : Int) (v5 : Int) (t0 : Int) (σ : Hp) : Prop :=
  wX7_isSquare v1 σ (fun a2 σ1 => zrg a2 ∧ ((a2 = 0 → k ((-2)) σ1) ∧ (¬ (a2 = 0) → zrg v3 ∧ ((v3 = 0 → zrg v4 ∧ ((v4 < 2 → k ((-2)) σ1) ∧ (¬ (v4 < 2) → wX7_at v1 v5 σ1 (fun a10 σ9 => zrg a10 ∧ zrg t0 ∧ ((a10 = t0 → wX7_corner_103 k v1 v2 v3 v4 σ9) ∧ (¬ (a10 = t0) → k ((-2)) σ9)))))) ∧ (¬ (v3 = 0) → zrg v4 ∧ ((v4 ≤ 11 → wX7_corner_103 k v1 v2 v3 v4 σ1) ∧ (¬ (v4 ≤ 11) → k ((-2)) σ1)))))))
set_option maxRecDepth 100000 in
theorem sX7_corner_58 {x : Cx} (C : zOk x cX7_corner RX7 (some .int) (3) (70)) (hN : x.2.2.2.2.1 = 12) {k : Int → Hp → Prop} (E : zEnd x (zPi k x.2.1)) (v1 : Int) (v2 : Int) (v3 : Int) (v4 : Int) (v5 : Int) (t0 : Int) (σ : Hp) (h : wX7_corner_58 k v1 v2 v3 v4 v5 t0 σ) : zV x σ 58 [(0, za x (17)), (1, .int (zI (v1))), (2, .int (zI (v2))), (3, .int (zI (v3))), (4, .int (zI (v4))), (5, .int (zI (v5)))] [.int (zI (t0))] := by
  unfold wX7_corner_58 at h
  refine z_istore C [(6, .int (zI (t0))), (0, za x (17)), (1, .int (zI (v1))), (2, .int (zI (v2))), (3, .int (zI (v3))), (4, .int (zI (v4))), (5, .int (zI (v5)))] dX7_corner_58 (by rw [hN]; decide) rfl ?_
  refine z_aload_n C 1 dX7_corner_60 rfl rfl ?_
  refine z_iload_n C 2 dX7_corner_61 rfl rfl ?_
  refine z_callV (av := fun w => [.int (zI (v1))]) C [] cs_X7_isSquare (by decide) (fun _ _ => rfl) rfl (mX7_isSquare v1  σ _ h) km_X7_153 dX7_corner_62 rfl rfl ⟨rfl, rfl⟩ ⟨by decide, by decide⟩ (Nat.le_of_ble_eq_true rfl) (fun rv σ1 hp => ?_)
  obtain ⟨a2, rfl, h⟩ := hp
  change zV x σ1 65 [(6, .int (zI (t0))), (0, za x (17)), (1, .int (zI (v1))), (2, .int (zI (v2))), (3, .int (zI (v3))), (4, .int (zI (v4))), (5, .int (zI (v5)))] [.int (zI (a2))]
  obtain ⟨o3, h⟩ := h
  refine z_if_eq C 100 dX7_corner_65 (by decide) o3 (fun c4 => ?_) (fun c4 => ?_)
  · have h := h.1 c4
    refine z_bipush C dX7_corner_100 rfl ?_
    exact z_iret C E dX7_corner_102 ⟨_, rfl, h⟩
  · have h := h.2 c4
    refine z_iload_n C 4 dX7_corner_68 rfl rfl ?_
    obtain ⟨o5, h⟩ := h
    refine z_if_eq C 82 dX7_corner_69 (by decide) o5 (fun c6 => ?_) (fun c6 => ?_)
    · have h := h.1 c6
      refine z_iload C 5 dX7_corner_82 rfl ?_
      refine z_iconst C dX7_corner_84 ?_
      obtain ⟨o7, h⟩ := h
      refine z_icmp_lt C 100 dX7_corner_85 (by decide) o7 (zrg_d rfl) (fun c8 => ?_) (fun c8 => ?_)
      · have h := h.1 c8
        refine z_bipush C dX7_corner_100 rfl ?_
        exact z_iret C E dX7_corner_102 ⟨_, rfl, h⟩
      · have h := h.2 c8
        refine z_aload_n C 1 dX7_corner_88 rfl rfl ?_
        refine z_iload_n C 2 dX7_corner_89 rfl rfl ?_
        refine z_iload C 6 dX7_corner_90 rfl ?_
        refine z_callV (av := fun w => [.int (zI (v1)), .int (zI (v5))]) C [] cs_X7_at (by decide) (fun _ _ => rfl) rfl (mX7_at v1 v5  σ1 _ h) km_X7_79 dX7_corner_92 rfl rfl ⟨rfl, rfl⟩ ⟨by decide, by decide⟩ (Nat.le_of_ble_eq_true rfl) (fun rv σ9 hp => ?_)
        obtain ⟨a10, rfl, h⟩ := hp
        change zV x σ9 95 [(6, .int (zI (t0))), (0, za x (17)), (1, .int (zI (v1))), (2, .int (zI (v2))), (3, .int (zI (v3))), (4, .int (zI (v4))), (5, .int (zI (v5)))] [.int (zI (a10))]
        refine z_iload C 0 dX7_corner_95 rfl ?_
        obtain ⟨o11, h⟩ := h
        obtain ⟨o12, h⟩ := h
        refine z_icmp_eq C 103 dX7_corner_97 (by decide) o11 o12 (fun c13 => ?_) (fun c13 => ?_)
        · have h := h.1 c13
          refine z_sub C [1, 2, 3, 4, 5] [(0, za x (17)), (1, .int (zI (v1))), (2, .int (zI (v2))), (3, .int (zI (v3))), (4, .int (zI (v4)))] rfl ?_
          exact sX7_corner_103 C hN E v1 v2 v3 v4  σ9 h
        · have h := h.2 c13
          refine z_bipush C dX7_corner_100 rfl ?_
          exact z_iret C E dX7_corner_102 ⟨_, rfl, h⟩
    · have h := h.2 c6
      refine z_iload C 5 dX7_corner_72 rfl ?_
      refine z_bipush C dX7_corner_74 rfl ?_
      obtain ⟨o14, h⟩ := h
      refine z_icmp_le C 103 dX7_corner_76 (by decide) o14 (zrg_d rfl) (fun c15 => ?_) (fun c15 => ?_)
      · have h := h.1 c15
        refine z_sub C [1, 2, 3, 4, 5] [(0, za x (17)), (1, .int (zI (v1))), (2, .int (zI (v2))), (3, .int (zI (v3))), (4, .int (zI (v4)))] rfl ?_
        exact sX7_corner_103 C hN E v1 v2 v3 v4  σ1 h
      · have h := h.2 c15
        refine z_goto C 100 dX7_corner_79 (by decide) ?_
        refine z_bipush C dX7_corner_100 rfl ?_
        exact z_iret C E dX7_corner_102 ⟨_, rfl, h⟩
def wX7_corner_43 (k : Int → Hp → Prop) (v1 : Int) (v2 : Int) (v3 : Int) (v4 : Int) (t0 : Int) (σ : Hp) : Prop :=
  zrg v2 ∧ ((2 ≤ v2 → wX7_corner_58 k v1 v2 v3 v4 t0 (v4 - 1) σ) ∧ (¬ (2 ≤ v2) → wX7_corner_58 k v1 v2 v3 v4 t0 0 σ))
set_option maxRecDepth 100000 in
theorem sX7_corner_43 {x : Cx} (C : zOk x cX7_corner RX7 (some .int) (3) (70)) (hN : x.2.2.2.2.1 = 12) {k : Int → Hp → Prop} (E : zEnd x (zPi k x.2.1)) (v1 : Int) (v2 : Int) (v3 : Int) (v4 : Int) (t0 : Int) (σ : Hp) (h : wX7_corner_43 k v1 v2 v3 v4 t0 σ) : zV x σ 43 [(0, za x (17)), (1, .int (zI (v1))), (2, .int (zI (v2))), (3, .int (zI (v3))), (4, .int (zI (v4)))] [.int (zI (t0))] := by
  unfold wX7_corner_43 at h
  refine z_istore C [(5, .int (zI (t0))), (0, za x (17)), (1, .int (zI (v1))), (2, .int (zI (v2))), (3, .int (zI (v3))), (4, .int (zI (v4)))] dX7_corner_43 (by rw [hN]; decide) rfl ?_
  refine z_iload_n C 3 dX7_corner_45 rfl rfl ?_
  refine z_iconst C dX7_corner_46 ?_
  obtain ⟨o1, h⟩ := h
  refine z_icmp_ge C 54 dX7_corner_47 (by decide) o1 (zrg_d rfl) (fun c2 => ?_) (fun c2 => ?_)
  · have h := h.1 c2
    refine z_iload C 5 dX7_corner_54 rfl ?_
    refine z_iconst C dX7_corner_56 ?_
    refine z_isub C dX7_corner_57 ?_
    refine z_sub C [1, 2, 3, 4, 5, 0] [(0, za x (17)), (1, .int (zI (v1))), (2, .int (zI (v2))), (3, .int (zI (v3))), (4, .int (zI (v4))), (5, .int (zI (t0)))] rfl ?_
    exact sX7_corner_58 C hN E v1 v2 v3 v4 t0 (v4 - 1)  σ h
  · have h := h.2 c2
    refine z_iconst C dX7_corner_50 ?_
    refine z_goto C 58 dX7_corner_51 (by decide) ?_
    refine z_sub C [1, 2, 3, 4, 5, 0] [(0, za x (17)), (1, .int (zI (v1))), (2, .int (zI (v2))), (3, .int (zI (v3))), (4, .int (zI (v4))), (5, .int (zI (t0)))] rfl ?_
    exact sX7_corner_58 C hN E v1 v2 v3 v4 t0 0  σ h
def wX7_corner (v1 : Int) (v2 : Int) (v3 : Int) (σ : Hp) (k : Int → Hp → Prop) : Prop :=
  wX7_isRow v1 σ (fun a2 σ1 => zrg a2 ∧ ((a2 = 0 → k ((-1)) σ1) ∧ (¬ (a2 = 0) → zrg v2 ∧ wX7_in v2 0 3 σ1 (fun a7 σ6 => zrg a7 ∧ ((a7 ≠ 0 → (0 ≤ v1 ∧ v1 < 6) ∧ zrg (Int.tmod v2 2) ∧ ((Int.tmod v2 2 ≠ 0 → wX7_corner_43 k v1 v2 v3 (σ6 18 v1.toNat) ((σ6 18 v1.toNat) - 1) σ6) ∧ (¬ (Int.tmod v2 2 ≠ 0) → wX7_corner_43 k v1 v2 v3 (σ6 18 v1.toNat) 0 σ6))) ∧ (¬ (a7 ≠ 0) → k ((-1)) σ6))))))
set_option maxRecDepth 100000 in
theorem mX7_corner (v1 : Int) (v2 : Int) (v3 : Int) (σ : Hp) (k : Int → Hp → Prop) (h : wX7_corner v1 v2 v3 σ k) (l : Launch) : zMt l yX7_corner cX7_corner 12 (some .int) { frames := 3, cells := 0, slots := 0, locals := 70 } (fun w => [.ref (w.2.1 (17)), .int (zI (v1)), .int (zI (v2)), .int (zI (v3))]) σ (zPi k) := by
  refine zMt_of (plainFor_of_name (by decide)) (fun w => Nat.le_of_ble_eq_true rfl) (fun x hl hN C E => ?_)
  change zV x σ 0 [(0, za x (17)), (1, .int (zI (v1))), (2, .int (zI (v2))), (3, .int (zI (v3)))] []
  change zOk x cX7_corner RX7 (some .int) (3) (70) at C
  unfold wX7_corner at h
  refine z_iload_n C 1 dX7_corner_0 rfl rfl ?_
  refine z_callS (av := fun w => [.int (zI (v1))]) C [] cs_X7_isRow (mX7_isRow v1  σ _ h) km_X7_50 dX7_corner_1 rfl rfl ⟨rfl, rfl⟩ ⟨by decide, by decide⟩ (Nat.le_of_ble_eq_true rfl) (fun rv σ1 hp => ?_)
  obtain ⟨a2, rfl, h⟩ := hp
  change zV x σ1 4 [(0, za x (17)), (1, .int (zI (v1))), (2, .int (zI (v2))), (3, .int (zI (v3)))] [.int (zI (a2))]
  obtain ⟨o3, h⟩ := h
  refine z_if_eq C 19 dX7_corner_4 (by decide) o3 (fun c4 => ?_) (fun c4 => ?_)
  · have h := h.1 c4
    refine z_iconst C dX7_corner_19 ?_
    exact z_iret C E dX7_corner_20 ⟨_, rfl, h⟩
  · have h := h.2 c4
    refine z_iload_n C 2 dX7_corner_7 rfl rfl ?_
    obtain ⟨o5, h⟩ := h
    refine z_i2l C dX7_corner_8 o5 ?_
    refine z_lconst (z := 0) C dX7_corner_9 rfl ?_
    refine z_ldc2 (z := 3) C kl_X7_107 rfl dX7_corner_10 ?_
    refine z_callS (av := fun w => [.long (zJ (v2)), .long (zJ (0)), .long (zJ (3))]) C [] cs_X7_in (mX7_in v2 0 3  σ1 _ h) km_X7_46 dX7_corner_13 rfl rfl ⟨rfl, rfl⟩ ⟨by decide, by decide⟩ (Nat.le_of_ble_eq_true rfl) (fun rv σ6 hp => ?_)
    obtain ⟨a7, rfl, h⟩ := hp
    change zV x σ6 16 [(0, za x (17)), (1, .int (zI (v1))), (2, .int (zI (v2))), (3, .int (zI (v3)))] [.int (zI (a7))]
    obtain ⟨o8, h⟩ := h
    refine z_if_ne C 21 dX7_corner_16 (by decide) o8 (fun c9 => ?_) (fun c9 => ?_)
    · have h := h.1 c9
      refine z_aload_n C 0 dX7_corner_21 rfl rfl ?_
      refine g_X7_0 C kf_X7_7 dX7_corner_22 ?_
      refine z_iload_n C 1 dX7_corner_25 rfl rfl ?_
      obtain ⟨o10, h⟩ := h
      refine z_iald C ia_18 dX7_corner_26 o10.1 o10.2 ?_
      refine z_istore C [(4, .int (zI (σ6 18 v1.toNat))), (0, za x (17)), (1, .int (zI (v1))), (2, .int (zI (v2))), (3, .int (zI (v3)))] dX7_corner_27 (by rw [hN]; decide) rfl ?_
      refine z_iload_n C 3 dX7_corner_29 rfl rfl ?_
      refine z_iconst C dX7_corner_30 ?_
      refine z_irem C dX7_corner_31 o5 (zrg_d rfl) (by decide) ?_
      obtain ⟨o11, h⟩ := h
      refine z_if_ne C 39 dX7_corner_32 (by decide) o11 (fun c12 => ?_) (fun c12 => ?_)
      · have h := h.1 c12
        refine z_iload C 0 dX7_corner_39 rfl ?_
        refine z_iconst C dX7_corner_41 ?_
        refine z_isub C dX7_corner_42 ?_
        refine z_sub C [1, 2, 3, 4, 0] [(0, za x (17)), (1, .int (zI (v1))), (2, .int (zI (v2))), (3, .int (zI (v3))), (4, .int (zI (σ6 18 v1.toNat)))] rfl ?_
        exact sX7_corner_43 C hN E v1 v2 v3 (σ6 18 v1.toNat) ((σ6 18 v1.toNat) - 1)  σ6 h
      · have h := h.2 c12
        refine z_iconst C dX7_corner_35 ?_
        refine z_goto C 43 dX7_corner_36 (by decide) ?_
        refine z_sub C [1, 2, 3, 4, 0] [(0, za x (17)), (1, .int (zI (v1))), (2, .int (zI (v2))), (3, .int (zI (v3))), (4, .int (zI (σ6 18 v1.toNat)))] rfl ?_
        exact sX7_corner_43 C hN E v1 v2 v3 (σ6 18 v1.toNat) 0  σ6 h
    · have h := h.2 c9
      refine z_iconst C dX7_corner_19 ?_
      exact z_iret C E dX7_corner_20 ⟨_, rfl, h⟩
def wX7_count_27 (k : Int → Hp → Prop) (K7 : Int → Int → Int → Int → Hp → Prop) : Nat → Int → Int → Int → Int → Int → Hp → Prop
  | 0, _, _, _, _, _, _ => False
  | n + 1, v1, v2, v3, v4, v5, σ => (0 ≤ v4 ∧ v4 < 6) ∧ zrg v5 ∧ zrg (σ 18 v4.toNat) ∧ ((σ 18 v4.toNat ≤ v5 → K7 v1 v2 v3 (v4 + 1) σ) ∧ (¬ (σ 18 v4.toNat ≤ v5) → wX7_at v4 v5 σ (fun a6 σ5 => zrg a6 ∧ ((15 ≤ a6 → wX7_count_27 k K7 n v1 (v2 + 0) v3 v4 (v5 + 1) σ5) ∧ (¬ (15 ≤ a6) → wX7_count_27 k K7 n v1 (v2 + 1) v3 v4 (v5 + 1) σ5)))))
set_option maxRecDepth 100000 in
theorem sX7_count_27 {x : Cx} (C : zOk x cX7_count RX7 (some .int) (2) (47)) (hN : x.2.2.2.2.1 = 6) {k : Int → Hp → Prop} (E : zEnd x (zPi k x.2.1)) {K7 : Int → Int → Int → Int → Hp → Prop} (H7 : ∀ (v1 : Int) (v2 : Int) (v3 : Int) (v4 : Int) (σ : Hp), K7 v1 v2 v3 v4 σ → zV x σ 7 [(0, za x (17)), (1, .int (zI (v1))), (2, .int (zI (v2))), (3, .int (zI (v3))), (4, .int (zI (v4)))] []) : ∀ (n : Nat) (v1 : Int) (v2 : Int) (v3 : Int) (v4 : Int) (v5 : Int) (σ : Hp), wX7_count_27 k K7 n v1 v2 v3 v4 v5 σ → zV x σ 27 [(0, za x (17)), (1, .int (zI (v1))), (2, .int (zI (v2))), (3, .int (zI (v3))), (4, .int (zI (v4))), (5, .int (zI (v5)))] [] := by
  intro n
  induction n with
  | zero => intro _ _ _ _ _ _ h; exact h.elim
  | succ n ih =>
    intro v1 v2 v3 v4 v5 σ h
    unfold wX7_count_27 at h
    refine z_iload C 5 dX7_count_27 rfl ?_
    refine z_aload_n C 0 dX7_count_29 rfl rfl ?_
    refine g_X7_0 C kf_X7_7 dX7_count_30 ?_
    refine z_iload C 4 dX7_count_33 rfl ?_
    obtain ⟨o1, h⟩ := h
    refine z_iald C ia_18 dX7_count_35 o1.1 o1.2 ?_
    obtain ⟨o2, h⟩ := h
    obtain ⟨o3, h⟩ := h
    refine z_icmp_ge C 66 dX7_count_36 (by decide) o2 o3 (fun c4 => ?_) (fun c4 => ?_)
    · have h := h.1 c4
      refine z_iinc C 4 [(4, .int (zI (v4 + 1))), (0, za x (17)), (1, .int (zI (v1))), (2, .int (zI (v2))), (3, .int (zI (v3))), (5, .int (zI (v5)))] dX7_count_66 rfl (by rw [hN]; decide) rfl ?_
      refine z_goto C 7 dX7_count_69 (by decide) ?_
      refine z_sub C [1, 2, 3, 4, 0] [(0, za x (17)), (1, .int (zI (v1))), (2, .int (zI (v2))), (3, .int (zI (v3))), (4, .int (zI (v4 + 1)))] rfl ?_
      exact H7 v1 v2 v3 (v4 + 1)  σ h
    · have h := h.2 c4
      refine z_iload_n C 2 dX7_count_39 rfl rfl ?_
      refine z_aload_n C 0 dX7_count_40 rfl rfl ?_
      refine z_iload C 4 dX7_count_41 rfl ?_
      refine z_iload C 5 dX7_count_43 rfl ?_
      refine z_callV (av := fun w => [.int (zI (v4)), .int (zI (v5))]) C [.int (zI (v2))] cs_X7_at (by decide) (fun _ _ => rfl) rfl (mX7_at v4 v5  σ _ h) km_X7_79 dX7_count_45 rfl rfl ⟨rfl, rfl⟩ ⟨by decide, by decide⟩ (Nat.le_of_ble_eq_true rfl) (fun rv σ5 hp => ?_)
      obtain ⟨a6, rfl, h⟩ := hp
      change zV x σ5 48 [(0, za x (17)), (1, .int (zI (v1))), (2, .int (zI (v2))), (3, .int (zI (v3))), (4, .int (zI (v4))), (5, .int (zI (v5)))] [.int (zI (a6)), .int (zI (v2))]
      refine z_bipush C dX7_count_48 rfl ?_
      obtain ⟨o7, h⟩ := h
      refine z_icmp_ge C 57 dX7_count_50 (by decide) o7 (zrg_d rfl) (fun c8 => ?_) (fun c8 => ?_)
      · have h := h.1 c8
        refine z_iconst C dX7_count_57 ?_
        refine z_iadd C dX7_count_58 ?_
        refine z_istore_n C [(2, .int (zI (v2 + 0))), (0, za x (17)), (1, .int (zI (v1))), (3, .int (zI (v3))), (4, .int (zI (v4))), (5, .int (zI (v5)))] dX7_count_59 rfl (by rw [hN]; decide) rfl ?_
        refine z_iinc C 5 [(5, .int (zI (v5 + 1))), (2, .int (zI (v2 + 0))), (0, za x (17)), (1, .int (zI (v1))), (3, .int (zI (v3))), (4, .int (zI (v4)))] dX7_count_60 rfl (by rw [hN]; decide) rfl ?_
        refine z_goto C 27 dX7_count_63 (by decide) ?_
        refine z_sub C [2, 3, 1, 4, 5, 0] [(0, za x (17)), (1, .int (zI (v1))), (2, .int (zI (v2 + 0))), (3, .int (zI (v3))), (4, .int (zI (v4))), (5, .int (zI (v5 + 1)))] rfl ?_
        exact ih v1 (v2 + 0) v3 v4 (v5 + 1)  σ5 h
      · have h := h.2 c8
        refine z_iconst C dX7_count_53 ?_
        refine z_goto C 58 dX7_count_54 (by decide) ?_
        refine z_iadd C dX7_count_58 ?_
        refine z_istore_n C [(2, .int (zI (v2 + 1))), (0, za x (17)), (1, .int (zI (v1))), (3, .int (zI (v3))), (4, .int (zI (v4))), (5, .int (zI (v5)))] dX7_count_59 rfl (by rw [hN]; decide) rfl ?_
        refine z_iinc C 5 [(5, .int (zI (v5 + 1))), (2, .int (zI (v2 + 1))), (0, za x (17)), (1, .int (zI (v1))), (3, .int (zI (v3))), (4, .int (zI (v4)))] dX7_count_60 rfl (by rw [hN]; decide) rfl ?_
        refine z_goto C 27 dX7_count_63 (by decide) ?_
        refine z_sub C [2, 3, 1, 4, 5, 0] [(0, za x (17)), (1, .int (zI (v1))), (2, .int (zI (v2 + 1))), (3, .int (zI (v3))), (4, .int (zI (v4))), (5, .int (zI (v5 + 1)))] rfl ?_
        exact ih v1 (v2 + 1) v3 v4 (v5 + 1)  σ5 h
def wX7_count_7 (k : Int → Hp → Prop) : Nat → Int → Int → Int → Int → Hp → Prop
  | 0, _, _, _, _, _ => False
  | n + 1, v1, v2, v3, v4, σ => zrg v4 ∧ ((6 ≤ v4 → zrg v1 ∧ ((v1 ≠ 0 → ((v1 ≠ 1 → ((v1 ≠ 2 → ((v1 ≠ 3 → k ((-1)) σ) ∧ (¬ (v1 ≠ 3) → k v3 σ))) ∧ (¬ (v1 ≠ 2) → k (σ 17 5) σ))) ∧ (¬ (v1 ≠ 1) → k v2 σ))) ∧ (¬ (v1 ≠ 0) → k (σ 17 3) σ))) ∧ (¬ (6 ≤ v4) → (0 ≤ v4 ∧ v4 < 6) ∧ (∃ N9, wX7_count_27 k (fun v1 v2 v3 v4 σ => wX7_count_7 k n v1 v2 v3 v4 σ) N9 v1 v2 (v3 + (σ 18 v4.toNat)) v4 0 σ)))
set_option maxRecDepth 100000 in
theorem sX7_count_7 {x : Cx} (C : zOk x cX7_count RX7 (some .int) (2) (47)) (hN : x.2.2.2.2.1 = 6) {k : Int → Hp → Prop} (E : zEnd x (zPi k x.2.1)) : ∀ (n : Nat) (v1 : Int) (v2 : Int) (v3 : Int) (v4 : Int) (σ : Hp), wX7_count_7 k n v1 v2 v3 v4 σ → zV x σ 7 [(0, za x (17)), (1, .int (zI (v1))), (2, .int (zI (v2))), (3, .int (zI (v3))), (4, .int (zI (v4)))] [] := by
  intro n
  induction n with
  | zero => intro _ _ _ _ _ h; exact h.elim
  | succ n ih =>
    intro v1 v2 v3 v4 σ h
    unfold wX7_count_7 at h
    refine z_iload C 4 dX7_count_7 rfl ?_
    refine z_bipush C dX7_count_9 rfl ?_
    obtain ⟨o1, h⟩ := h
    refine z_icmp_ge C 72 dX7_count_11 (by decide) o1 (zrg_d rfl) (fun c2 => ?_) (fun c2 => ?_)
    · have h := h.1 c2
      refine z_iload_n C 1 dX7_count_72 rfl rfl ?_
      obtain ⟨o3, h⟩ := h
      refine z_if_ne C 83 dX7_count_73 (by decide) o3 (fun c4 => ?_) (fun c4 => ?_)
      · have h := h.1 c4
        refine z_iload_n C 1 dX7_count_83 rfl rfl ?_
        refine z_iconst C dX7_count_84 ?_
        refine z_icmp_ne C 92 dX7_count_85 (by decide) o3 (zrg_d rfl) (fun c5 => ?_) (fun c5 => ?_)
        · have h := h.1 c5
          refine z_iload_n C 1 dX7_count_92 rfl rfl ?_
          refine z_iconst C dX7_count_93 ?_
          refine z_icmp_ne C 104 dX7_count_94 (by decide) o3 (zrg_d rfl) (fun c6 => ?_) (fun c6 => ?_)
          · have h := h.1 c6
            refine z_iload_n C 1 dX7_count_104 rfl rfl ?_
            refine z_iconst C dX7_count_105 ?_
            refine z_icmp_ne C 113 dX7_count_106 (by decide) o3 (zrg_d rfl) (fun c7 => ?_) (fun c7 => ?_)
            · have h := h.1 c7
              refine z_iconst C dX7_count_113 ?_
              exact z_iret C E dX7_count_114 ⟨_, rfl, h⟩
            · have h := h.2 c7
              refine z_iload_n C 3 dX7_count_109 rfl rfl ?_
              refine z_goto C 114 dX7_count_110 (by decide) ?_
              exact z_iret C E dX7_count_114 ⟨_, rfl, h⟩
          · have h := h.2 c6
            refine z_aload_n C 0 dX7_count_97 rfl rfl ?_
            refine g_X7_5 C kf_X7_164 dX7_count_98 ?_
            refine z_goto C 114 dX7_count_101 (by decide) ?_
            exact z_iret C E dX7_count_114 ⟨_, rfl, h⟩
        · have h := h.2 c5
          refine z_iload_n C 2 dX7_count_88 rfl rfl ?_
          refine z_goto C 114 dX7_count_89 (by decide) ?_
          exact z_iret C E dX7_count_114 ⟨_, rfl, h⟩
      · have h := h.2 c4
        refine z_aload_n C 0 dX7_count_76 rfl rfl ?_
        refine g_X7_3 C kf_X7_60 dX7_count_77 ?_
        refine z_goto C 114 dX7_count_80 (by decide) ?_
        exact z_iret C E dX7_count_114 ⟨_, rfl, h⟩
    · have h := h.2 c2
      refine z_iload_n C 3 dX7_count_14 rfl rfl ?_
      refine z_aload_n C 0 dX7_count_15 rfl rfl ?_
      refine g_X7_0 C kf_X7_7 dX7_count_16 ?_
      refine z_iload C 4 dX7_count_19 rfl ?_
      obtain ⟨o8, h⟩ := h
      refine z_iald C ia_18 dX7_count_21 o8.1 o8.2 ?_
      refine z_iadd C dX7_count_22 ?_
      refine z_istore_n C [(3, .int (zI (v3 + (σ 18 v4.toNat)))), (0, za x (17)), (1, .int (zI (v1))), (2, .int (zI (v2))), (4, .int (zI (v4)))] dX7_count_23 rfl (by rw [hN]; decide) rfl ?_
      refine z_iconst C dX7_count_24 ?_
      refine z_istore C [(5, .int (zI (0))), (3, .int (zI (v3 + (σ 18 v4.toNat)))), (0, za x (17)), (1, .int (zI (v1))), (2, .int (zI (v2))), (4, .int (zI (v4)))] dX7_count_25 (by rw [hN]; decide) rfl ?_
      refine z_sub C [2, 3, 4, 1, 5, 0] [(0, za x (17)), (1, .int (zI (v1))), (2, .int (zI (v2))), (3, .int (zI (v3 + (σ 18 v4.toNat)))), (4, .int (zI (v4))), (5, .int (zI (0)))] rfl ?_
      obtain ⟨n9, h⟩ := h
      exact sX7_count_27 C hN E (by intro v1 v2 v3 v4 σ h; exact ih v1 v2 v3 v4  σ h) n9 v1 v2 (v3 + (σ 18 v4.toNat)) v4 0  σ h
def wX7_count (v1 : Int) (σ : Hp) (k : Int → Hp → Prop) : Prop :=
  (∃ N1, wX7_count_7 k N1 v1 0 0 0 σ)
set_option maxRecDepth 100000 in
theorem mX7_count (v1 : Int) (σ : Hp) (k : Int → Hp → Prop) (h : wX7_count v1 σ k) (l : Launch) : zMt l yX7_count cX7_count 6 (some .int) { frames := 2, cells := 0, slots := 0, locals := 47 } (fun w => [.ref (w.2.1 (17)), .int (zI (v1))]) σ (zPi k) := by
  refine zMt_of (plainFor_of_name (by decide)) (fun w => Nat.le_of_ble_eq_true rfl) (fun x hl hN C E => ?_)
  change zV x σ 0 [(0, za x (17)), (1, .int (zI (v1)))] []
  change zOk x cX7_count RX7 (some .int) (2) (47) at C
  unfold wX7_count at h
  refine z_iconst C dX7_count_0 ?_
  refine z_istore_n C [(2, .int (zI (0))), (0, za x (17)), (1, .int (zI (v1)))] dX7_count_1 rfl (by rw [hN]; decide) rfl ?_
  refine z_iconst C dX7_count_2 ?_
  refine z_istore_n C [(3, .int (zI (0))), (2, .int (zI (0))), (0, za x (17)), (1, .int (zI (v1)))] dX7_count_3 rfl (by rw [hN]; decide) rfl ?_
  refine z_iconst C dX7_count_4 ?_
  refine z_istore C [(4, .int (zI (0))), (3, .int (zI (0))), (2, .int (zI (0))), (0, za x (17)), (1, .int (zI (v1)))] dX7_count_5 (by rw [hN]; decide) rfl ?_
  refine z_sub C [3, 4, 2, 1, 0] [(0, za x (17)), (1, .int (zI (v1))), (2, .int (zI (0))), (3, .int (zI (0))), (4, .int (zI (0)))] rfl ?_
  obtain ⟨n1, h⟩ := h
  exact sX7_count_7 C hN E n1 v1 0 0 0  σ h
