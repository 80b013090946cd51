def wX7_off (v1 : Int) (v2 : Int) (v3 : Int) (v4 : Int) (σ : Hp) (k : Int → Hp → Prop) : Prop :=
  wX7_at v1 v3 σ (fun a2 σ1 => wX7_at v1 v2 σ1 (fun a4 σ3 => zrg v4 ∧ ((v4 ≠ 1 → k (a2 - a4) σ3) ∧ (¬ (v4 ≠ 1) → (0 ≤ v1 ∧ v1 < 6) ∧ zrg ((a2 - a4) + (σ3 19 v1.toNat)) ∧ zrg (σ3 19 v1.toNat) ∧ 0 < (σ3 19 v1.toNat) ∧ k (Int.tmod ((a2 - a4) + (σ3 19 v1.toNat)) (σ3 19 v1.toNat)) σ3))))
set_option maxRecDepth 100000 in
theorem mX7_off (v1 : Int) (v2 : Int) (v3 : Int) (v4 : Int) (σ : Hp) (k : Int → Hp → Prop) (h : wX7_off v1 v2 v3 v4 σ k) (l : Launch) : zMt l yX7_off cX7_off 6 (some .int) { frames := 2, cells := 0, slots := 0, locals := 47 } (fun w => [.ref (w.2.1 (17)), .int (zI (v1)), .int (zI (v2)), .int (zI (v3)), .int (zI (v4))]) σ (zPi k) := by
  refine zMt_of (plainFor_of_name (by decide)) (fun w => Nat.le_of_ble_eq_true rfl) (fun x hl hN C E => ?_)
  change zV x σ 0 [(0, za x (17)), (1, .int (zI (v1))), (2, .int (zI (v2))), (3, .int (zI (v3))), (4, .int (zI (v4)))] []
  change zOk x cX7_off RX7 (some .int) (2) (47) at C
  unfold wX7_off at h
  refine z_aload_n C 0 dX7_off_0 rfl rfl ?_
  refine z_iload_n C 1 dX7_off_1 rfl rfl ?_
  refine z_iload_n C 3 dX7_off_2 rfl rfl ?_
  refine z_callV (av := fun w => [.int (zI (v1)), .int (zI (v3))]) C [] cs_X7_at (by decide) (fun _ _ => rfl) rfl (mX7_at v1 v3  σ _ h) km_X7_79 dX7_off_3 rfl rfl ⟨rfl, rfl⟩ ⟨by decide, by decide⟩ (Nat.le_of_ble_eq_true rfl) (fun rv σ1 hp => ?_)
  obtain ⟨a2, rfl, h⟩ := hp
  change zV x σ1 6 [(0, za x (17)), (1, .int (zI (v1))), (2, .int (zI (v2))), (3, .int (zI (v3))), (4, .int (zI (v4)))] [.int (zI (a2))]
  refine z_aload_n C 0 dX7_off_6 rfl rfl ?_
  refine z_iload_n C 1 dX7_off_7 rfl rfl ?_
  refine z_iload_n C 2 dX7_off_8 rfl rfl ?_
  refine z_callV (av := fun w => [.int (zI (v1)), .int (zI (v2))]) C [.int (zI (a2))] cs_X7_at (by decide) (fun _ _ => rfl) rfl (mX7_at v1 v2  σ1 _ h) km_X7_79 dX7_off_9 rfl rfl ⟨rfl, rfl⟩ ⟨by decide, by decide⟩ (Nat.le_of_ble_eq_true rfl) (fun rv σ3 hp => ?_)
  obtain ⟨a4, rfl, h⟩ := hp
  change zV x σ3 12 [(0, za x (17)), (1, .int (zI (v1))), (2, .int (zI (v2))), (3, .int (zI (v3))), (4, .int (zI (v4)))] [.int (zI (a4)), .int (zI (a2))]
  refine z_isub C dX7_off_12 ?_
  refine z_istore C [(5, .int (zI (a2 - a4))), (0, za x (17)), (1, .int (zI (v1))), (2, .int (zI (v2))), (3, .int (zI (v3))), (4, .int (zI (v4)))] dX7_off_13 (by rw [hN]; decide) rfl ?_
  refine z_iload C 5 dX7_off_15 rfl ?_
  refine z_iconst C dX7_off_17 ?_
  obtain ⟨o5, h⟩ := h
  refine z_icmp_ne C 40 dX7_off_18 (by decide) o5 (zrg_d rfl) (fun c6 => ?_) (fun c6 => ?_)
  · have h := h.1 c6
    refine z_iload C 0 dX7_off_40 rfl ?_
    exact z_iret C E dX7_off_42 ⟨_, rfl, h⟩
  · have h := h.2 c6
    refine z_iload C 0 dX7_off_21 rfl ?_
    refine z_aload_n C 1 dX7_off_23 rfl rfl ?_
    refine g_X7_1 C kf_X7_13 dX7_off_24 ?_
    refine z_iload_n C 2 dX7_off_27 rfl rfl ?_
    obtain ⟨o7, h⟩ := h
    refine z_iald C ia_19 dX7_off_28 o7.1 o7.2 ?_
    refine z_iadd C dX7_off_29 ?_
    refine z_aload_n C 1 dX7_off_30 rfl rfl ?_
    refine g_X7_1 C kf_X7_13 dX7_off_31 ?_
    refine z_iload_n C 2 dX7_off_34 rfl rfl ?_
    refine z_iald C ia_19 dX7_off_35 o7.1 o7.2 ?_
    obtain ⟨o8, h⟩ := h
    obtain ⟨o9, h⟩ := h
    obtain ⟨o10, h⟩ := h
    refine z_irem C dX7_off_36 o8 o9 o10 ?_
    refine z_goto C 42 dX7_off_37 (by decide) ?_
    exact z_iret C E dX7_off_42 ⟨_, rfl, h⟩
def wX7_difference (v1 : Int) (v2 : Int) (v3 : Int) (v4 : Int) (σ : Hp) (k : Int → Hp → Prop) : Prop :=
  wX7_isRow v1 σ (fun a2 σ1 => zrg a2 ∧ ((a2 = 0 → k ((-100)) σ1) ∧ (¬ (a2 = 0) → zrg v2 ∧ wX7_in v2 0 11 σ1 (fun a7 σ6 => zrg a7 ∧ ((a7 = 0 → k ((-100)) σ6) ∧ (¬ (a7 = 0) → zrg v3 ∧ wX7_in v3 1 11 σ6 (fun a12 σ11 => zrg a12 ∧ ((a12 = 0 → k ((-100)) σ11) ∧ (¬ (a12 = 0) → zrg v4 ∧ wX7_in v4 0 1 σ11 (fun a17 σ16 => zrg a17 ∧ ((a17 ≠ 0 → wX7_are v1 v2 (v2 + v3) σ16 (fun a21 σ20 => zrg a21 ∧ ((a21 = 0 → k ((-50)) σ20) ∧ (¬ (a21 = 0) → wX7_off v1 v2 (v2 + v3) v4 σ20 (fun a25 σ24 => k a25 σ24))))) ∧ (¬ (a17 ≠ 0) → k ((-100)) σ16))))))))))))
set_option maxRecDepth 100000 in
theorem mX7_difference (v1 : Int) (v2 : Int) (v3 : Int) (v4 : Int) (σ : Hp) (k : Int → Hp → Prop) (h : wX7_difference v1 v2 v3 v4 σ k) (l : Launch) : zMt l yX7_difference cX7_difference 5 (some .int) { frames := 3, cells := 0, slots := 0, locals := 72 } (fun w => [.ref (w.2.1 (17)), .int (zI (v1)), .int (zI (v2)), .int (zI (v3)), .int (zI (v4))]) σ (zPi k) := by
  refine zMt_of (plainFor_of_name (by decide)) (fun w => Nat.le_of_ble_eq_true rfl) (fun x hl hN C E => ?_)
  change zV x σ 0 [(0, za x (17)), (1, .int (zI (v1))), (2, .int (zI (v2))), (3, .int (zI (v3))), (4, .int (zI (v4)))] []
  change zOk x cX7_difference RX7 (some .int) (3) (72) at C
  unfold wX7_difference at h
  refine z_iload_n C 1 dX7_difference_0 rfl rfl ?_
  refine z_callS (av := fun w => [.int (zI (v1))]) C [] cs_X7_isRow (mX7_isRow v1  σ _ h) km_X7_50 dX7_difference_1 rfl rfl ⟨rfl, rfl⟩ ⟨by decide, by decide⟩ (Nat.le_of_ble_eq_true rfl) (fun rv σ1 hp => ?_)
  obtain ⟨a2, rfl, h⟩ := hp
  change zV x σ1 4 [(0, za x (17)), (1, .int (zI (v1))), (2, .int (zI (v2))), (3, .int (zI (v3))), (4, .int (zI (v4)))] [.int (zI (a2))]
  obtain ⟨o3, h⟩ := h
  refine z_if_eq C 42 dX7_difference_4 (by decide) o3 (fun c4 => ?_) (fun c4 => ?_)
  · have h := h.1 c4
    refine z_bipush C dX7_difference_42 rfl ?_
    exact z_iret C E dX7_difference_44 ⟨_, rfl, h⟩
  · have h := h.2 c4
    refine z_iload_n C 2 dX7_difference_7 rfl rfl ?_
    obtain ⟨o5, h⟩ := h
    refine z_i2l C dX7_difference_8 o5 ?_
    refine z_lconst (z := 0) C dX7_difference_9 rfl ?_
    refine z_ldc2 (z := 11) C kl_X7_87 rfl dX7_difference_10 ?_
    refine z_callS (av := fun w => [.long (zJ (v2)), .long (zJ (0)), .long (zJ (11))]) C [] cs_X7_in (mX7_in v2 0 11  σ1 _ h) km_X7_46 dX7_difference_13 rfl rfl ⟨rfl, rfl⟩ ⟨by decide, by decide⟩ (Nat.le_of_ble_eq_true rfl) (fun rv σ6 hp => ?_)
    obtain ⟨a7, rfl, h⟩ := hp
    change zV x σ6 16 [(0, za x (17)), (1, .int (zI (v1))), (2, .int (zI (v2))), (3, .int (zI (v3))), (4, .int (zI (v4)))] [.int (zI (a7))]
    obtain ⟨o8, h⟩ := h
    refine z_if_eq C 42 dX7_difference_16 (by decide) o8 (fun c9 => ?_) (fun c9 => ?_)
    · have h := h.1 c9
      refine z_bipush C dX7_difference_42 rfl ?_
      exact z_iret C E dX7_difference_44 ⟨_, rfl, h⟩
    · have h := h.2 c9
      refine z_iload_n C 3 dX7_difference_19 rfl rfl ?_
      obtain ⟨o10, h⟩ := h
      refine z_i2l C dX7_difference_20 o10 ?_
      refine z_lconst (z := 1) C dX7_difference_21 rfl ?_
      refine z_ldc2 (z := 11) C kl_X7_87 rfl dX7_difference_22 ?_
      refine z_callS (av := fun w => [.long (zJ (v3)), .long (zJ (1)), .long (zJ (11))]) C [] cs_X7_in (mX7_in v3 1 11  σ6 _ h) km_X7_46 dX7_difference_25 rfl rfl ⟨rfl, rfl⟩ ⟨by decide, by decide⟩ (Nat.le_of_ble_eq_true rfl) (fun rv σ11 hp => ?_)
      obtain ⟨a12, rfl, h⟩ := hp
      change zV x σ11 28 [(0, za x (17)), (1, .int (zI (v1))), (2, .int (zI (v2))), (3, .int (zI (v3))), (4, .int (zI (v4)))] [.int (zI (a12))]
      obtain ⟨o13, h⟩ := h
      refine z_if_eq C 42 dX7_difference_28 (by decide) o13 (fun c14 => ?_) (fun c14 => ?_)
      · have h := h.1 c14
        refine z_bipush C dX7_difference_42 rfl ?_
        exact z_iret C E dX7_difference_44 ⟨_, rfl, h⟩
      · have h := h.2 c14
        refine z_iload C 4 dX7_difference_31 rfl ?_
        obtain ⟨o15, h⟩ := h
        refine z_i2l C dX7_difference_33 o15 ?_
        refine z_lconst (z := 0) C dX7_difference_34 rfl ?_
        refine z_lconst (z := 1) C dX7_difference_35 rfl ?_
        refine z_callS (av := fun w => [.long (zJ (v4)), .long (zJ (0)), .long (zJ (1))]) C [] cs_X7_in (mX7_in v4 0 1  σ11 _ h) km_X7_46 dX7_difference_36 rfl rfl ⟨rfl, rfl⟩ ⟨by decide, by decide⟩ (Nat.le_of_ble_eq_true rfl) (fun rv σ16 hp => ?_)
        obtain ⟨a17, rfl, h⟩ := hp
        change zV x σ16 39 [(0, za x (17)), (1, .int (zI (v1))), (2, .int (zI (v2))), (3, .int (zI (v3))), (4, .int (zI (v4)))] [.int (zI (a17))]
        obtain ⟨o18, h⟩ := h
        refine z_if_ne C 45 dX7_difference_39 (by decide) o18 (fun c19 => ?_) (fun c19 => ?_)
        · have h := h.1 c19
          refine z_aload_n C 0 dX7_difference_45 rfl rfl ?_
          refine z_iload_n C 1 dX7_difference_46 rfl rfl ?_
          refine z_iload_n C 2 dX7_difference_47 rfl rfl ?_
          refine z_iload_n C 2 dX7_difference_48 rfl rfl ?_
          refine z_iload_n C 3 dX7_difference_49 rfl rfl ?_
          refine z_iadd C dX7_difference_50 ?_
          refine z_callV (av := fun w => [.int (zI (v1)), .int (zI (v2)), .int (zI (v2 + v3))]) C [] cs_X7_are (by decide) (fun _ _ => rfl) rfl (mX7_are v1 v2 (v2 + v3)  σ16 _ h) km_X7_89 dX7_difference_51 rfl rfl ⟨rfl, rfl⟩ ⟨by decide, by decide⟩ (Nat.le_of_ble_eq_true rfl) (fun rv σ20 hp => ?_)
          obtain ⟨a21, rfl, h⟩ := hp
          change zV x σ20 54 [(0, za x (17)), (1, .int (zI (v1))), (2, .int (zI (v2))), (3, .int (zI (v3))), (4, .int (zI (v4)))] [.int (zI (a21))]
          obtain ⟨o22, h⟩ := h
          refine z_if_eq C 71 dX7_difference_54 (by decide) o22 (fun c23 => ?_) (fun c23 => ?_)
          · have h := h.1 c23
            refine z_bipush C dX7_difference_71 rfl ?_
            exact z_iret C E dX7_difference_73 ⟨_, rfl, h⟩
          · have h := h.2 c23
            refine z_aload_n C 0 dX7_difference_57 rfl rfl ?_
            refine z_iload_n C 1 dX7_difference_58 rfl rfl ?_
            refine z_iload_n C 2 dX7_difference_59 rfl rfl ?_
            refine z_iload_n C 2 dX7_difference_60 rfl rfl ?_
            refine z_iload_n C 3 dX7_difference_61 rfl rfl ?_
            refine z_iadd C dX7_difference_62 ?_
            refine z_iload C 4 dX7_difference_63 rfl ?_
            refine z_callV (av := fun w => [.int (zI (v1)), .int (zI (v2)), .int (zI (v2 + v3)), .int (zI (v4))]) C [] cs_X7_off (by decide) (fun _ _ => rfl) rfl (mX7_off v1 v2 (v2 + v3) v4  σ20 _ h) km_X7_93 dX7_difference_65 rfl rfl ⟨rfl, rfl⟩ ⟨by decide, by decide⟩ (Nat.le_of_ble_eq_true rfl) (fun rv σ24 hp => ?_)
            obtain ⟨a25, rfl, h⟩ := hp
            change zV x σ24 68 [(0, za x (17)), (1, .int (zI (v1))), (2, .int (zI (v2))), (3, .int (zI (v3))), (4, .int (zI (v4)))] [.int (zI (a25))]
            refine z_goto C 73 dX7_difference_68 (by decide) ?_
            exact z_iret C E dX7_difference_73 ⟨_, rfl, h⟩
        · have h := h.2 c19
          refine z_bipush C dX7_difference_42 rfl ?_
          exact z_iret C E dX7_difference_44 ⟨_, rfl, h⟩
def wX7_fault_140 (k : Int → Hp → Prop) (K9 : Int → Int → Hp → Prop) (v1 : Int) (v2 : Int) (t0 : Int) (t1 : Int) (σ : Hp) : Prop :=
  (0 ≤ t1 ∧ t1 < 72) ∧ K9 (v1 + 1) (v2 + 1) (zst σ 25 t1.toNat t0)
set_option maxRecDepth 100000 in
theorem sX7_fault_140 {x : Cx} (C : zOk x cX7_fault RX7 (some .int) (1) (25)) (hN : x.2.2.2.2.1 = 5) {k : Int → Hp → Prop} (E : zEnd x (zPi k x.2.1)) {K9 : Int → Int → Hp → Prop} (H9 : ∀ (v1 : Int) (v2 : Int) (σ : Hp), K9 v1 v2 σ → zV x σ 9 [(0, za x (17)), (1, .int (zI (v1))), (2, .int (zI (v2)))] []) (v1 : Int) (v2 : Int) (t0 : Int) (t1 : Int) (σ : Hp) (h : wX7_fault_140 k K9 v1 v2 t0 t1 σ) : zV x σ 140 [(0, za x (17)), (1, .int (zI (v1))), (2, .int (zI (v2)))] [.int (zI (t0)), .int (zI (t1)), za x (25)] := by
  unfold wX7_fault_140 at h
  obtain ⟨o1, h⟩ := h
  refine z_iast C ia_25 dX7_fault_140 o1.1 o1.2 ?_
  refine z_iinc C 1 [(1, .int (zI (v1 + 1))), (0, za x (17)), (2, .int (zI (v2)))] dX7_fault_141 rfl (by rw [hN]; decide) rfl ?_
  refine z_iinc C 2 [(2, .int (zI (v2 + 1))), (1, .int (zI (v1 + 1))), (0, za x (17))] dX7_fault_144 rfl (by rw [hN]; decide) rfl ?_
  refine z_goto C 9 dX7_fault_147 (by decide) ?_
  refine z_sub C [2, 1, 0] [(0, za x (17)), (1, .int (zI (v1 + 1))), (2, .int (zI (v2 + 1)))] rfl ?_
  exact H9 (v1 + 1) (v2 + 1)  (zst σ 25 t1.toNat t0) h
def wX7_fault_97 (k : Int → Hp → Prop) (K9 : Int → Int → Hp → Prop) (v1 : Int) (v2 : Int) (v3 : Int) (t0 : Int) (σ : Hp) : Prop :=
  zrg t0 ∧ ((t0 = 0 → k v2 σ) ∧ (¬ (t0 = 0) → zrg v1 ∧ ((v1 ≠ 12 → zrg v3 ∧ ((v3 ≠ 46 → wX7_fault_140 k K9 v1 v2 (v3 - 97) ((12 * (σ 17 12)) + v1) σ) ∧ (¬ (v3 ≠ 46) → wX7_fault_140 k K9 v1 v2 15 ((12 * (σ 17 12)) + v1) σ))) ∧ (¬ (v1 ≠ 12) → k v2 σ))))
set_option maxRecDepth 100000 in
theorem sX7_fault_97 {x : Cx} (C : zOk x cX7_fault RX7 (some .int) (1) (25)) (hN : x.2.2.2.2.1 = 5) {k : Int → Hp → Prop} (E : zEnd x (zPi k x.2.1)) {K9 : Int → Int → Hp → Prop} (H9 : ∀ (v1 : Int) (v2 : Int) (σ : Hp), K9 v1 v2 σ → zV x σ 9 [(0, za x (17)), (1, .int (zI (v1))), (2, .int (zI (v2)))] []) (v1 : Int) (v2 : Int) (v3 : Int) (t0 : Int) (σ : Hp) (h : wX7_fault_97 k K9 v1 v2 v3 t0 σ) : zV x σ 97 [(0, za x (17)), (1, .int (zI (v1))), (2, .int (zI (v2))), (3, .int (zI (v3)))] [.int (zI (t0))] := by
  unfold wX7_fault_97 at h
  refine z_istore C [(4, .int (zI (t0))), (0, za x (17)), (1, .int (zI (v1))), (2, .int (zI (v2))), (3, .int (zI (v3)))] dX7_fault_97 (by rw [hN]; decide) rfl ?_
  refine z_iload C 0 dX7_fault_99 rfl ?_
  obtain ⟨o1, h⟩ := h
  refine z_if_eq C 110 dX7_fault_101 (by decide) o1 (fun c2 => ?_) (fun c2 => ?_)
  · have h := h.1 c2
    refine z_iload_n C 3 dX7_fault_110 rfl rfl ?_
    exact z_iret C E dX7_fault_111 ⟨_, rfl, h⟩
  · have h := h.2 c2
    refine z_iload_n C 2 dX7_fault_104 rfl rfl ?_
    refine z_bipush C dX7_fault_105 rfl ?_
    obtain ⟨o3, h⟩ := h
    refine z_icmp_ne C 112 dX7_fault_107 (by decide) o3 (zrg_d rfl) (fun c4 => ?_) (fun c4 => ?_)
    · have h := h.1 c4
      refine z_aload_n C 1 dX7_fault_112 rfl rfl ?_
      refine g_X7_10 C kf_X7_32 dX7_fault_113 ?_
      refine z_bipush C dX7_fault_116 rfl ?_
      refine z_aload_n C 1 dX7_fault_118 rfl rfl ?_
      refine g_X7_12 C kf_X7_64 dX7_fault_119 ?_
      refine z_imul C dX7_fault_122 ?_
      refine z_iload_n C 2 dX7_fault_123 rfl rfl ?_
      refine z_iadd C dX7_fault_124 ?_
      refine z_iload_n C 4 dX7_fault_125 rfl rfl ?_
      refine z_bipush C dX7_fault_126 rfl ?_
      obtain ⟨o5, h⟩ := h
      refine z_icmp_ne C 136 dX7_fault_128 (by decide) o5 (zrg_d rfl) (fun c6 => ?_) (fun c6 => ?_)
      · have h := h.1 c6
        refine z_iload_n C 4 dX7_fault_136 rfl rfl ?_
        refine z_bipush C dX7_fault_137 rfl ?_
        refine z_isub C dX7_fault_139 ?_
        refine z_sub C [1, 2, 3] [(0, za x (17)), (1, .int (zI (v1))), (2, .int (zI (v2)))] rfl ?_
        exact sX7_fault_140 C hN E H9 v1 v2 (v3 - 97) ((12 * (σ 17 12)) + v1)  σ h
      · have h := h.2 c6
        refine z_bipush C dX7_fault_131 rfl ?_
        refine z_goto C 140 dX7_fault_133 (by decide) ?_
        refine z_sub C [1, 2, 3] [(0, za x (17)), (1, .int (zI (v1))), (2, .int (zI (v2)))] rfl ?_
        exact sX7_fault_140 C hN E H9 v1 v2 15 ((12 * (σ 17 12)) + v1)  σ h
    · have h := h.2 c4
      refine z_iload_n C 3 dX7_fault_110 rfl rfl ?_
      exact z_iret C E dX7_fault_111 ⟨_, rfl, h⟩
def wX7_fault_9 (k : Int → Hp → Prop) : Nat → Int → Int → Hp → Prop
  | 0, _, _, _ => False
  | n + 1, v1, v2, σ => zrg v2 ∧ zrg (σ 17 3) ∧ ((σ 17 3 ≤ v2 → zrg v1 ∧ ((v1 ≤ 0 → k ((-4)) σ) ∧ (¬ (v1 ≤ 0) → k (σ 17 3) σ))) ∧ (¬ (σ 17 3 ≤ v2) → (0 ≤ v2 ∧ v2 < 60) ∧ zrg (σ 17 12) ∧ ((σ 17 12 ≠ 6 → zrg (σ 21 v2.toNat) ∧ ((σ 21 v2.toNat ≠ 59 → wX7_in (σ 21 v2.toNat) 97 108 σ (fun a12 σ11 => zrg a12 ∧ ((a12 ≠ 0 → wX7_fault_97 k (fun v1 v2 σ => wX7_fault_9 k n v1 v2 σ) v1 v2 (σ 21 v2.toNat) 1 σ11) ∧ (¬ (a12 ≠ 0) → ((σ 21 v2.toNat ≠ 46 → wX7_fault_97 k (fun v1 v2 σ => wX7_fault_9 k n v1 v2 σ) v1 v2 (σ 21 v2.toNat) 0 σ11) ∧ (¬ (σ 21 v2.toNat ≠ 46) → wX7_fault_97 k (fun v1 v2 σ => wX7_fault_9 k n v1 v2 σ) v1 v2 (σ 21 v2.toNat) 1 σ11)))))) ∧ (¬ (σ 21 v2.toNat ≠ 59) → zrg v1 ∧ ((v1 ≠ 0 → (0 ≤ σ 17 12 ∧ σ 17 12 < 6) ∧ wX7_fault_9 k n 0 (v2 + 1) (zst (zst σ 26 (σ 17 12).toNat v1) 17 12 (((zst σ 26 (σ 17 12).toNat v1) 17 12) + 1))) ∧ (¬ (v1 ≠ 0) → k v2 σ))))) ∧ (¬ (σ 17 12 ≠ 6) → k v2 σ))))
set_option maxRecDepth 100000 in
theorem sX7_fault_9 {x : Cx} (C : zOk x cX7_fault RX7 (some .int) (1) (25)) (hN : x.2.2.2.2.1 = 5) {k : Int → Hp → Prop} (E : zEnd x (zPi k x.2.1)) : ∀ (n : Nat) (v1 : Int) (v2 : Int) (σ : Hp), wX7_fault_9 k n v1 v2 σ → zV x σ 9 [(0, za x (17)), (1, .int (zI (v1))), (2, .int (zI (v2)))] [] := by
  intro n
  induction n with
  | zero => intro _ _ _ h; exact h.elim
  | succ n ih =>
    intro v1 v2 σ h
    unfold wX7_fault_9 at h
    refine z_iload_n C 2 dX7_fault_9 rfl rfl ?_
    refine z_aload_n C 0 dX7_fault_10 rfl rfl ?_
    refine g_X7_3 C kf_X7_60 dX7_fault_11 ?_
    obtain ⟨o1, h⟩ := h
    obtain ⟨o2, h⟩ := h
    refine z_icmp_ge C 150 dX7_fault_14 (by decide) o1 o2 (fun c3 => ?_) (fun c3 => ?_)
    · have h := h.1 c3
      refine z_iload_n C 1 dX7_fault_150 rfl rfl ?_
      obtain ⟨o4, h⟩ := h
      refine z_if_le C 161 dX7_fault_151 (by decide) o4 (fun c5 => ?_) (fun c5 => ?_)
      · have h := h.1 c5
        refine z_bipush C dX7_fault_161 rfl ?_
        exact z_iret C E dX7_fault_163 ⟨_, rfl, h⟩
      · have h := h.2 c5
        refine z_aload_n C 0 dX7_fault_154 rfl rfl ?_
        refine g_X7_3 C kf_X7_60 dX7_fault_155 ?_
        refine z_goto C 163 dX7_fault_158 (by decide) ?_
        exact z_iret C E dX7_fault_163 ⟨_, rfl, h⟩
    · have h := h.2 c3
      refine z_aload_n C 0 dX7_fault_17 rfl rfl ?_
      refine g_X7_4 C kf_X7_19 dX7_fault_18 ?_
      refine z_iload_n C 2 dX7_fault_21 rfl rfl ?_
      obtain ⟨o6, h⟩ := h
      refine z_bald C ia_21 dX7_fault_22 o6.1 o6.2 ?_
      refine z_istore_n C [(3, .int (zI (σ 21 v2.toNat))), (0, za x (17)), (1, .int (zI (v1))), (2, .int (zI (v2)))] dX7_fault_23 rfl (by rw [hN]; decide) rfl ?_
      refine z_aload_n C 1 dX7_fault_24 rfl rfl ?_
      refine g_X7_12 C kf_X7_64 dX7_fault_25 ?_
      refine z_bipush C dX7_fault_28 rfl ?_
      obtain ⟨o7, h⟩ := h
      refine z_icmp_ne C 35 dX7_fault_30 (by decide) o7 (zrg_d rfl) (fun c8 => ?_) (fun c8 => ?_)
      · have h := h.1 c8
        refine z_iload_n C 0 dX7_fault_35 rfl rfl ?_
        refine z_bipush C dX7_fault_36 rfl ?_
        obtain ⟨o9, h⟩ := h
        refine z_icmp_ne C 72 dX7_fault_38 (by decide) o9 (zrg_d rfl) (fun c10 => ?_) (fun c10 => ?_)
        · have h := h.1 c10
          refine z_iload_n C 0 dX7_fault_72 rfl rfl ?_
          refine z_i2l C dX7_fault_73 o9 ?_
          refine z_ldc2 (z := 97) C kl_X7_67 rfl dX7_fault_74 ?_
          refine z_ldc2 (z := 108) C kl_X7_69 rfl dX7_fault_77 ?_
          refine z_callS (av := fun w => [.long (zJ (σ 21 v2.toNat)), .long (zJ (97)), .long (zJ (108))]) C [] cs_X7_in (mX7_in (σ 21 v2.toNat) 97 108  σ _ h) km_X7_46 dX7_fault_80 rfl rfl ⟨rfl, rfl⟩ ⟨by decide, by decide⟩ (Nat.le_of_ble_eq_true rfl) (fun rv σ11 hp => ?_)
          obtain ⟨a12, rfl, h⟩ := hp
          change zV x σ11 83 [(3, .int (zI (σ 21 v2.toNat))), (0, za x (17)), (1, .int (zI (v1))), (2, .int (zI (v2)))] [.int (zI (a12))]
          obtain ⟨o13, h⟩ := h
          refine z_if_ne C 92 dX7_fault_83 (by decide) o13 (fun c14 => ?_) (fun c14 => ?_)
          · have h := h.1 c14
            refine z_iconst C dX7_fault_92 ?_
            refine z_goto C 97 dX7_fault_93 (by decide) ?_
            refine z_sub C [1, 2, 3, 0] [(0, za x (17)), (1, .int (zI (v1))), (2, .int (zI (v2))), (3, .int (zI (σ 21 v2.toNat)))] rfl ?_
            exact sX7_fault_97 C hN E (by intro v1 v2 σ h; exact ih v1 v2  σ h) v1 v2 (σ 21 v2.toNat) 1  σ11 h
          · have h := h.2 c14
            refine z_iload_n C 0 dX7_fault_86 rfl rfl ?_
            refine z_bipush C dX7_fault_87 rfl ?_
            refine z_icmp_ne C 96 dX7_fault_89 (by decide) o9 (zrg_d rfl) (fun c15 => ?_) (fun c15 => ?_)
            · have h := h.1 c15
              refine z_iconst C dX7_fault_96 ?_
              refine z_sub C [1, 2, 3, 0] [(0, za x (17)), (1, .int (zI (v1))), (2, .int (zI (v2))), (3, .int (zI (σ 21 v2.toNat)))] rfl ?_
              exact sX7_fault_97 C hN E (by intro v1 v2 σ h; exact ih v1 v2  σ h) v1 v2 (σ 21 v2.toNat) 0  σ11 h
            · have h := h.2 c15
              refine z_iconst C dX7_fault_92 ?_
              refine z_goto C 97 dX7_fault_93 (by decide) ?_
              refine z_sub C [1, 2, 3, 0] [(0, za x (17)), (1, .int (zI (v1))), (2, .int (zI (v2))), (3, .int (zI (σ 21 v2.toNat)))] rfl ?_
              exact sX7_fault_97 C hN E (by intro v1 v2 σ h; exact ih v1 v2  σ h) v1 v2 (σ 21 v2.toNat) 1  σ11 h
        · have h := h.2 c10
          refine z_iload_n C 2 dX7_fault_41 rfl rfl ?_
          obtain ⟨o16, h⟩ := h
          refine z_if_ne C 47 dX7_fault_42 (by decide) o16 (fun c17 => ?_) (fun c17 => ?_)
          · have h := h.1 c17
            refine z_aload_n C 1 dX7_fault_47 rfl rfl ?_
            refine g_X7_11 C kf_X7_35 dX7_fault_48 ?_
            refine z_aload_n C 1 dX7_fault_51 rfl rfl ?_
            refine g_X7_12 C kf_X7_64 dX7_fault_52 ?_
            refine z_iload_n C 2 dX7_fault_55 rfl rfl ?_
            obtain ⟨o18, h⟩ := h
            refine z_iast C ia_26 dX7_fault_56 o18.1 o18.2 ?_
            refine z_aload_n C 1 dX7_fault_57 rfl rfl ?_
            refine z_dup C dX7_fault_58 rfl ?_
            refine g_X7_12 C kf_X7_64 dX7_fault_59 ?_
            refine z_iconst C dX7_fault_62 ?_
            refine z_iadd C dX7_fault_63 ?_
            refine p_X7_12 C kf_X7_64 dX7_fault_64 ?_
            refine z_iconst C dX7_fault_67 ?_
            refine z_istore_n C [(1, .int (zI (0))), (3, .int (zI (σ 21 v2.toNat))), (0, za x (17)), (2, .int (zI (v2)))] dX7_fault_68 rfl (by rw [hN]; decide) rfl ?_
            refine z_goto C 144 dX7_fault_69 (by decide) ?_
            refine z_iinc C 3 [(2, .int (zI (v2 + 1))), (1, .int (zI (0))), (3, .int (zI (σ 21 v2.toNat))), (0, za x (17))] dX7_fault_144 rfl (by rw [hN]; decide) rfl ?_
            refine z_goto C 9 dX7_fault_147 (by decide) ?_
            refine z_sub C [3, 1, 0] [(0, za x (17)), (1, .int (zI (0))), (2, .int (zI (v2 + 1)))] rfl ?_
            exact ih 0 (v2 + 1)  (zst (zst σ 26 (σ 17 12).toNat v1) 17 12 (((zst σ 26 (σ 17 12).toNat v1) 17 12) + 1)) h
          · have h := h.2 c17
            refine z_iload_n C 3 dX7_fault_45 rfl rfl ?_
            exact z_iret C E dX7_fault_46 ⟨_, rfl, h⟩
      · have h := h.2 c8
        refine z_iload_n C 3 dX7_fault_33 rfl rfl ?_
        exact z_iret C E dX7_fault_34 ⟨_, rfl, h⟩
def wX7_fault (σ : Hp) (k : Int → Hp → Prop) : Prop :=
  (∃ N1, wX7_fault_9 k N1 0 0 (zst σ 17 12 0))
set_option maxRecDepth 100000 in
theorem mX7_fault (σ : Hp) (k : Int → Hp → Prop) (h : wX7_fault  σ k) (l : Launch) : zMt l yX7_fault cX7_fault 5 (some .int) { frames := 1, cells := 0, slots := 0, locals := 25 } (fun w => [.ref (w.2.1 (17))]) σ (zPi k) := by
  refine zMt_of (plainFor_of_name (by decide)) (fun w => Nat.le_of_ble_eq_true rfl) (fun x hl hN C E => ?_)
  change zV x σ 0 [(0, za x (17))] []
  change zOk x cX7_fault RX7 (some .int) (1) (25) at C
  unfold wX7_fault at h
  refine z_aload_n C 0 dX7_fault_0 rfl rfl ?_
  refine z_iconst C dX7_fault_1 ?_
  refine p_X7_12 C kf_X7_64 dX7_fault_2 ?_
  refine z_iconst C dX7_fault_5 ?_
  refine z_istore_n C [(1, .int (zI (0))), (0, za x (17))] dX7_fault_6 rfl (by rw [hN]; decide) rfl ?_
  refine z_iconst C dX7_fault_7 ?_
  refine z_istore_n C [(2, .int (zI (0))), (1, .int (zI (0))), (0, za x (17))] dX7_fault_8 rfl (by rw [hN]; decide) rfl ?_
  refine z_sub C [2, 1, 0] [(0, za x (17)), (1, .int (zI (0))), (2, .int (zI (0)))] rfl ?_
  obtain ⟨n1, h⟩ := h
  exact sX7_fault_9 C hN E n1 0 0  (zst σ 17 12 0) h
def wX7_found (v1 : Int) (v2 : Int) (σ : Hp) (k : Int → Hp → Prop) : Prop :=
  wX7_isRow v1 σ (fun a2 σ1 => zrg a2 ∧ ((a2 = 0 → k ((-100)) σ1) ∧ (¬ (a2 = 0) → zrg v2 ∧ wX7_in v2 0 2 σ1 (fun a7 σ6 => zrg a7 ∧ ((a7 ≠ 0 → wX7_finds v1 σ6 (fun σ10 => ((v2 ≠ 0 → ((v2 ≠ 1 → k (σ10 17 17) σ10) ∧ (¬ (v2 ≠ 1) → k (σ10 17 16) σ10))) ∧ (¬ (v2 ≠ 0) → k (σ10 17 15) σ10)))) ∧ (¬ (a7 ≠ 0) → k ((-100)) σ6))))))
set_option maxRecDepth 100000 in
theorem mX7_found (v1 : Int) (v2 : Int) (σ : Hp) (k : Int → Hp → Prop) (h : wX7_found v1 v2 σ k) (l : Launch) : zMt l yX7_found cX7_found 3 (some .int) { frames := 3, cells := 0, slots := 0, locals := 72 } (fun w => [.ref (w.2.1 (17)), .int (zI (v1)), .int (zI (v2))]) σ (zPi k) := by
  refine zMt_of (plainFor_of_name (by decide)) (fun w => Nat.le_of_ble_eq_true rfl) (fun x hl hN C E => ?_)
  change zV x σ 0 [(0, za x (17)), (1, .int (zI (v1))), (2, .int (zI (v2)))] []
  change zOk x cX7_found RX7 (some .int) (3) (72) at C
  unfold wX7_found at h
  refine z_iload_n C 1 dX7_found_0 rfl rfl ?_
  refine z_callS (av := fun w => [.int (zI (v1))]) C [] cs_X7_isRow (mX7_isRow v1  σ _ h) km_X7_50 dX7_found_1 rfl rfl ⟨rfl, rfl⟩ ⟨by decide, by decide⟩ (Nat.le_of_ble_eq_true rfl) (fun rv σ1 hp => ?_)
  obtain ⟨a2, rfl, h⟩ := hp
  change zV x σ1 4 [(0, za x (17)), (1, .int (zI (v1))), (2, .int (zI (v2)))] [.int (zI (a2))]
  obtain ⟨o3, h⟩ := h
  refine z_if_eq C 19 dX7_found_4 (by decide) o3 (fun c4 => ?_) (fun c4 => ?_)
  · have h := h.1 c4
    refine z_bipush C dX7_found_19 rfl ?_
    exact z_iret C E dX7_found_21 ⟨_, rfl, h⟩
  · have h := h.2 c4
    refine z_iload_n C 2 dX7_found_7 rfl rfl ?_
    obtain ⟨o5, h⟩ := h
    refine z_i2l C dX7_found_8 o5 ?_
    refine z_lconst (z := 0) C dX7_found_9 rfl ?_
    refine z_ldc2 (z := 2) C kl_X7_97 rfl dX7_found_10 ?_
    refine z_callS (av := fun w => [.long (zJ (v2)), .long (zJ (0)), .long (zJ (2))]) C [] cs_X7_in (mX7_in v2 0 2  σ1 _ h) km_X7_46 dX7_found_13 rfl rfl ⟨rfl, rfl⟩ ⟨by decide, by decide⟩ (Nat.le_of_ble_eq_true rfl) (fun rv σ6 hp => ?_)
    obtain ⟨a7, rfl, h⟩ := hp
    change zV x σ6 16 [(0, za x (17)), (1, .int (zI (v1))), (2, .int (zI (v2)))] [.int (zI (a7))]
    obtain ⟨o8, h⟩ := h
    refine z_if_ne C 22 dX7_found_16 (by decide) o8 (fun c9 => ?_) (fun c9 => ?_)
    · have h := h.1 c9
      refine z_aload_n C 0 dX7_found_22 rfl rfl ?_
      refine z_iload_n C 1 dX7_found_23 rfl rfl ?_
      refine z_callV (av := fun w => [.int (zI (v1))]) C [] cs_X7_finds (by decide) (fun _ _ => rfl) rfl (mX7_finds v1  σ6 _ h) km_X7_186 dX7_found_24 rfl rfl ⟨rfl, rfl⟩ ⟨by decide, by decide⟩ (Nat.le_of_ble_eq_true rfl) (fun rv σ10 hp => ?_)
      obtain ⟨rfl, h⟩ := hp
      change zV x σ10 27 [(0, za x (17)), (1, .int (zI (v1))), (2, .int (zI (v2)))] []
      refine z_iload_n C 2 dX7_found_27 rfl rfl ?_
      refine z_if_ne C 38 dX7_found_28 (by decide) o5 (fun c11 => ?_) (fun c11 => ?_)
      · have h := h.1 c11
        refine z_iload_n C 2 dX7_found_38 rfl rfl ?_
        refine z_iconst C dX7_found_39 ?_
        refine z_icmp_ne C 50 dX7_found_40 (by decide) o5 (zrg_d rfl) (fun c12 => ?_) (fun c12 => ?_)
        · have h := h.1 c12
          refine z_aload_n C 0 dX7_found_50 rfl rfl ?_
          refine g_X7_17 C kf_X7_183 dX7_found_51 ?_
          exact z_iret C E dX7_found_54 ⟨_, rfl, h⟩
        · have h := h.2 c12
          refine z_aload_n C 0 dX7_found_43 rfl rfl ?_
          refine g_X7_16 C kf_X7_180 dX7_found_44 ?_
          refine z_goto C 54 dX7_found_47 (by decide) ?_
          exact z_iret C E dX7_found_54 ⟨_, rfl, h⟩
      · have h := h.2 c11
        refine z_aload_n C 0 dX7_found_31 rfl rfl ?_
        refine g_X7_15 C kf_X7_177 dX7_found_32 ?_
        refine z_goto C 54 dX7_found_35 (by decide) ?_
        exact z_iret C E dX7_found_54 ⟨_, rfl, h⟩
    · have h := h.2 c9
      refine z_bipush C dX7_found_19 rfl ?_
      exact z_iret C E dX7_found_21 ⟨_, rfl, h⟩
def wX7_hear (v1 : Int) (v2 : Int) (σ : Hp) (k : Int → Hp → Prop) : Prop :=
  zrg v1 ∧ wX7_in v1 0 30 σ (fun a3 σ2 => zrg a3 ∧ ((a3 = 0 → k ((-1)) σ2) ∧ (¬ (a3 = 0) → zrg v2 ∧ wX7_in v2 ((-20)) 20 σ2 (fun a8 σ7 => zrg a8 ∧ ((a8 ≠ 0 → wX7_isHeard v1 v2 σ7 (fun a12 σ11 => zrg a12 ∧ ((a12 = 0 → zrg (σ11 17 5) ∧ ((σ11 17 5 ≠ 40 → (0 ≤ σ11 17 5 ∧ σ11 17 5 < 40) ∧ (0 ≤ (zst σ11 22 (σ11 17 5).toNat v1) 17 5 ∧ (zst σ11 22 (σ11 17 5).toNat v1) 17 5 < 40) ∧ k ((zst (zst (zst σ11 22 (σ11 17 5).toNat v1) 23 ((zst σ11 22 (σ11 17 5).toNat v1) 17 5).toNat v2) 17 5 (((zst (zst σ11 22 (σ11 17 5).toNat v1) 23 ((zst σ11 22 (σ11 17 5).toNat v1) 17 5).toNat v2) 17 5) + 1)) 17 5) (zst (zst (zst σ11 22 (σ11 17 5).toNat v1) 23 ((zst σ11 22 (σ11 17 5).toNat v1) 17 5).toNat v2) 17 5 (((zst (zst σ11 22 (σ11 17 5).toNat v1) 23 ((zst σ11 22 (σ11 17 5).toNat v1) 17 5).toNat v2) 17 5) + 1))) ∧ (¬ (σ11 17 5 ≠ 40) → k ((-3)) σ11))) ∧ (¬ (a12 = 0) → k ((-2)) σ11)))) ∧ (¬ (a8 ≠ 0) → k ((-1)) σ7))))))
set_option maxRecDepth 100000 in
theorem mX7_hear (v1 : Int) (v2 : Int) (σ : Hp) (k : Int → Hp → Prop) (h : wX7_hear v1 v2 σ k) (l : Launch) : zMt l yX7_hear cX7_hear 3 (some .int) { frames := 1, cells := 0, slots := 0, locals := 25 } (fun w => [.ref (w.2.1 (17)), .int (zI (v1)), .int (zI (v2))]) σ (zPi k) := by
  refine zMt_of (plainFor_of_name (by decide)) (fun w => Nat.le_of_ble_eq_true rfl) (fun x hl hN C E => ?_)
  change zV x σ 0 [(0, za x (17)), (1, .int (zI (v1))), (2, .int (zI (v2)))] []
  change zOk x cX7_hear RX7 (some .int) (1) (25) at C
  unfold wX7_hear at h
  refine z_iload_n C 1 dX7_hear_0 rfl rfl ?_
  obtain ⟨o1, h⟩ := h
  refine z_i2l C dX7_hear_1 o1 ?_
  refine z_lconst (z := 0) C dX7_hear_2 rfl ?_
  refine z_ldc2 (z := 30) C kl_X7_167 rfl dX7_hear_3 ?_
  refine z_callS (av := fun w => [.long (zJ (v1)), .long (zJ (0)), .long (zJ (30))]) C [] cs_X7_in (mX7_in v1 0 30  σ _ h) km_X7_46 dX7_hear_6 rfl rfl ⟨rfl, rfl⟩ ⟨by decide, by decide⟩ (Nat.le_of_ble_eq_true rfl) (fun rv σ2 hp => ?_)
  obtain ⟨a3, rfl, h⟩ := hp
  change zV x σ2 9 [(0, za x (17)), (1, .int (zI (v1))), (2, .int (zI (v2)))] [.int (zI (a3))]
  obtain ⟨o4, h⟩ := h
  refine z_if_eq C 26 dX7_hear_9 (by decide) o4 (fun c5 => ?_) (fun c5 => ?_)
  · have h := h.1 c5
    refine z_iconst C dX7_hear_26 ?_
    exact z_iret C E dX7_hear_27 ⟨_, rfl, h⟩
  · have h := h.2 c5
    refine z_iload_n C 2 dX7_hear_12 rfl rfl ?_
    obtain ⟨o6, h⟩ := h
    refine z_i2l C dX7_hear_13 o6 ?_
    refine z_ldc2 (z := -20) C kl_X7_169 rfl dX7_hear_14 ?_
    refine z_ldc2 (z := 20) C kl_X7_171 rfl dX7_hear_17 ?_
    refine z_callS (av := fun w => [.long (zJ (v2)), .long (zJ ((-20))), .long (zJ (20))]) C [] cs_X7_in (mX7_in v2 ((-20)) 20  σ2 _ h) km_X7_46 dX7_hear_20 rfl rfl ⟨rfl, rfl⟩ ⟨by decide, by decide⟩ (Nat.le_of_ble_eq_true rfl) (fun rv σ7 hp => ?_)
    obtain ⟨a8, rfl, h⟩ := hp
    change zV x σ7 23 [(0, za x (17)), (1, .int (zI (v1))), (2, .int (zI (v2)))] [.int (zI (a8))]
    obtain ⟨o9, h⟩ := h
    refine z_if_ne C 28 dX7_hear_23 (by decide) o9 (fun c10 => ?_) (fun c10 => ?_)
    · have h := h.1 c10
      refine z_aload_n C 0 dX7_hear_28 rfl rfl ?_
      refine z_iload_n C 1 dX7_hear_29 rfl rfl ?_
      refine z_iload_n C 2 dX7_hear_30 rfl rfl ?_
      refine z_callV (av := fun w => [.int (zI (v1)), .int (zI (v2))]) C [] cs_X7_isHeard (by decide) (fun _ _ => rfl) rfl (mX7_isHeard v1 v2  σ7 _ h) km_X7_173 dX7_hear_31 rfl rfl ⟨rfl, rfl⟩ ⟨by decide, by decide⟩ (Nat.le_of_ble_eq_true rfl) (fun rv σ11 hp => ?_)
      obtain ⟨a12, rfl, h⟩ := hp
      change zV x σ11 34 [(0, za x (17)), (1, .int (zI (v1))), (2, .int (zI (v2)))] [.int (zI (a12))]
      obtain ⟨o13, h⟩ := h
      refine z_if_eq C 40 dX7_hear_34 (by decide) o13 (fun c14 => ?_) (fun c14 => ?_)
      · have h := h.1 c14
        refine z_aload_n C 0 dX7_hear_40 rfl rfl ?_
        refine g_X7_5 C kf_X7_164 dX7_hear_41 ?_
        refine z_bipush C dX7_hear_44 rfl ?_
        obtain ⟨o15, h⟩ := h
        refine z_icmp_ne C 52 dX7_hear_46 (by decide) o15 (zrg_d rfl) (fun c16 => ?_) (fun c16 => ?_)
        · have h := h.1 c16
          refine z_aload_n C 0 dX7_hear_52 rfl rfl ?_
          refine g_X7_6 C kf_X7_23 dX7_hear_53 ?_
          refine z_aload_n C 0 dX7_hear_56 rfl rfl ?_
          refine g_X7_5 C kf_X7_164 dX7_hear_57 ?_
          refine z_iload_n C 1 dX7_hear_60 rfl rfl ?_
          obtain ⟨o17, h⟩ := h
          refine z_iast C ia_22 dX7_hear_61 o17.1 o17.2 ?_
          refine z_aload_n C 0 dX7_hear_62 rfl rfl ?_
          refine g_X7_7 C kf_X7_26 dX7_hear_63 ?_
          refine z_aload_n C 0 dX7_hear_66 rfl rfl ?_
          refine g_X7_5 C kf_X7_164 dX7_hear_67 ?_
          refine z_iload_n C 2 dX7_hear_70 rfl rfl ?_
          obtain ⟨o18, h⟩ := h
          refine z_iast C ia_23 dX7_hear_71 o18.1 o18.2 ?_
          refine z_aload_n C 0 dX7_hear_72 rfl rfl ?_
          refine z_dup C dX7_hear_73 rfl ?_
          refine g_X7_5 C kf_X7_164 dX7_hear_74 ?_
          refine z_iconst C dX7_hear_77 ?_
          refine z_iadd C dX7_hear_78 ?_
          refine p_X7_5 C kf_X7_164 dX7_hear_79 ?_
          refine z_aload_n C 0 dX7_hear_82 rfl rfl ?_
          refine g_X7_5 C kf_X7_164 dX7_hear_83 ?_
          exact z_iret C E dX7_hear_86 ⟨_, rfl, h⟩
        · have h := h.2 c16
          refine z_bipush C dX7_hear_49 rfl ?_
          exact z_iret C E dX7_hear_51 ⟨_, rfl, h⟩
      · have h := h.2 c14
        refine z_bipush C dX7_hear_37 rfl ?_
        exact z_iret C E dX7_hear_39 ⟨_, rfl, h⟩
    · have h := h.2 c10
      refine z_iconst C dX7_hear_26 ?_
      exact z_iret C E dX7_hear_27 ⟨_, rfl, h⟩
def wX7_hitsOf_6 (k : Int → Hp → Prop) : Nat → Int → Int → Int → Int → Int → Int → Hp → Prop
  | 0, _, _, _, _, _, _, _ => False
  | n + 1, v1, v2, v3, v4, v5, v6, σ => (0 ≤ v1 ∧ v1 < 6) ∧ zrg v6 ∧ zrg (σ 18 v1.toNat) ∧ ((σ 18 v1.toNat ≤ v6 → k v5 σ) ∧ (¬ (σ 18 v1.toNat ≤ v6) → wX7_at v1 v6 σ (fun a6 σ5 => zrg a6 ∧ ((15 ≤ a6 → wX7_hitsOf_6 k n v1 v2 v3 v4 (v5 + 0) (v6 + 1) σ5) ∧ (¬ (15 ≤ a6) → wX7_at v2 (v6 + v3) σ5 (fun a10 σ9 => zrg a10 ∧ ((15 ≤ a10 → wX7_hitsOf_6 k n v1 v2 v3 v4 (v5 + 0) (v6 + 1) σ9) ∧ (¬ (15 ≤ a10) → wX7_at v2 (v6 + v3) σ9 (fun a14 σ13 => zrg a14 ∧ zrg (a6 + v4) ∧ ((a14 ≠ a6 + v4 → wX7_hitsOf_6 k n v1 v2 v3 v4 (v5 + 0) (v6 + 1) σ13) ∧ (¬ (a14 ≠ a6 + v4) → wX7_hitsOf_6 k n v1 v2 v3 v4 (v5 + 1) (v6 + 1) σ13)))))))))))
set_option maxRecDepth 100000 in
theorem sX7_hitsOf_6 {x : Cx} (C : zOk x cX7_hitsOf RX7 (some .int) (2) (47)) (hN : x.2.2.2.2.1 = 8) {k : Int → Hp → Prop} (E : zEnd x (zPi k x.2.1)) : ∀ (n : Nat) (v1 : Int) (v2 : Int) (v3 : Int) (v4 : Int) (v5 : Int) (v6 : Int) (σ : Hp), wX7_hitsOf_6 k n v1 v2 v3 v4 v5 v6 σ → zV x σ 6 [(0, za x (17)), (1, .int (zI (v1))), (2, .int (zI (v2))), (3, .int (zI (v3))), (4, .int (zI (v4))), (5, .int (zI (v5))), (6, .int (zI (v6)))] [] := by
  intro n
  induction n with
  | zero => intro _ _ _ _ _ _ _ h; exact h.elim
  | succ n ih =>
    intro v1 v2 v3 v4 v5 v6 σ h
    unfold wX7_hitsOf_6 at h
    refine z_iload C 6 dX7_hitsOf_6 rfl ?_
    refine z_aload_n C 0 dX7_hitsOf_8 rfl rfl ?_
    refine g_X7_0 C kf_X7_7 dX7_hitsOf_9 ?_
    refine z_iload_n C 1 dX7_hitsOf_12 rfl rfl ?_
    obtain ⟨o1, h⟩ := h
    refine z_iald C ia_18 dX7_hitsOf_13 o1.1 o1.2 ?_
    obtain ⟨o2, h⟩ := h
    obtain ⟨o3, h⟩ := h
    refine z_icmp_ge C 80 dX7_hitsOf_14 (by decide) o2 o3 (fun c4 => ?_) (fun c4 => ?_)
    · have h := h.1 c4
      refine z_iload C 5 dX7_hitsOf_80 rfl ?_
      exact z_iret C E dX7_hitsOf_82 ⟨_, rfl, h⟩
    · have h := h.2 c4
      refine z_aload_n C 0 dX7_hitsOf_17 rfl rfl ?_
      refine z_iload_n C 1 dX7_hitsOf_18 rfl rfl ?_
      refine z_iload C 6 dX7_hitsOf_19 rfl ?_
      refine z_callV (av := fun w => [.int (zI (v1)), .int (zI (v6))]) C [] cs_X7_at (by decide) (fun _ _ => rfl) rfl (mX7_at v1 v6  σ _ h) km_X7_79 dX7_hitsOf_21 rfl rfl ⟨rfl, rfl⟩ ⟨by decide, by decide⟩ (Nat.le_of_ble_eq_true rfl) (fun rv σ5 hp => ?_)
      obtain ⟨a6, rfl, h⟩ := hp
      change zV x σ5 24 [(0, za x (17)), (1, .int (zI (v1))), (2, .int (zI (v2))), (3, .int (zI (v3))), (4, .int (zI (v4))), (5, .int (zI (v5))), (6, .int (zI (v6)))] [.int (zI (a6))]
      refine z_istore C [(7, .int (zI (a6))), (0, za x (17)), (1, .int (zI (v1))), (2, .int (zI (v2))), (3, .int (zI (v3))), (4, .int (zI (v4))), (5, .int (zI (v5))), (6, .int (zI (v6)))] dX7_hitsOf_24 (by rw [hN]; decide) rfl ?_
      refine z_iload C 6 dX7_hitsOf_26 rfl ?_
      refine z_iload C 0 dX7_hitsOf_28 rfl ?_
      refine z_bipush C dX7_hitsOf_30 rfl ?_
      obtain ⟨o7, h⟩ := h
      refine z_icmp_ge C 70 dX7_hitsOf_32 (by decide) o7 (zrg_d rfl) (fun c8 => ?_) (fun c8 => ?_)
      · have h := h.1 c8
        refine z_iconst C dX7_hitsOf_70 ?_
        refine z_iadd C dX7_hitsOf_71 ?_
        refine z_istore C [(5, .int (zI (v5 + 0))), (7, .int (zI (a6))), (0, za x (17)), (1, .int (zI (v1))), (2, .int (zI (v2))), (3, .int (zI (v3))), (4, .int (zI (v4))), (6, .int (zI (v6)))] dX7_hitsOf_72 (by rw [hN]; decide) rfl ?_
        refine z_iinc C 7 [(6, .int (zI (v6 + 1))), (5, .int (zI (v5 + 0))), (7, .int (zI (a6))), (0, za x (17)), (1, .int (zI (v1))), (2, .int (zI (v2))), (3, .int (zI (v3))), (4, .int (zI (v4)))] dX7_hitsOf_74 rfl (by rw [hN]; decide) rfl ?_
        refine z_goto C 6 dX7_hitsOf_77 (by decide) ?_
        refine z_sub C [3, 4, 5, 6, 7, 1, 0] [(0, za x (17)), (1, .int (zI (v1))), (2, .int (zI (v2))), (3, .int (zI (v3))), (4, .int (zI (v4))), (5, .int (zI (v5 + 0))), (6, .int (zI (v6 + 1)))] rfl ?_
        exact ih v1 v2 v3 v4 (v5 + 0) (v6 + 1)  σ5 h
      · have h := h.2 c8
        refine z_aload_n C 1 dX7_hitsOf_35 rfl rfl ?_
        refine z_iload_n C 3 dX7_hitsOf_36 rfl rfl ?_
        refine z_iload C 7 dX7_hitsOf_37 rfl ?_
        refine z_iload_n C 4 dX7_hitsOf_39 rfl rfl ?_
        refine z_iadd C dX7_hitsOf_40 ?_
        refine z_callV (av := fun w => [.int (zI (v2)), .int (zI (v6 + v3))]) C [.int (zI (v5))] cs_X7_at (by decide) (fun _ _ => rfl) rfl (mX7_at v2 (v6 + v3)  σ5 _ h) km_X7_79 dX7_hitsOf_41 rfl rfl ⟨rfl, rfl⟩ ⟨by decide, by decide⟩ (Nat.le_of_ble_eq_true rfl) (fun rv σ9 hp => ?_)
        obtain ⟨a10, rfl, h⟩ := hp
        change zV x σ9 44 [(7, .int (zI (a6))), (0, za x (17)), (1, .int (zI (v1))), (2, .int (zI (v2))), (3, .int (zI (v3))), (4, .int (zI (v4))), (5, .int (zI (v5))), (6, .int (zI (v6)))] [.int (zI (a10)), .int (zI (v5))]
        refine z_bipush C dX7_hitsOf_44 rfl ?_
        obtain ⟨o11, h⟩ := h
        refine z_icmp_ge C 70 dX7_hitsOf_46 (by decide) o11 (zrg_d rfl) (fun c12 => ?_) (fun c12 => ?_)
        · have h := h.1 c12
          refine z_iconst C dX7_hitsOf_70 ?_
          refine z_iadd C dX7_hitsOf_71 ?_
          refine z_istore C [(5, .int (zI (v5 + 0))), (7, .int (zI (a6))), (0, za x (17)), (1, .int (zI (v1))), (2, .int (zI (v2))), (3, .int (zI (v3))), (4, .int (zI (v4))), (6, .int (zI (v6)))] dX7_hitsOf_72 (by rw [hN]; decide) rfl ?_
          refine z_iinc C 7 [(6, .int (zI (v6 + 1))), (5, .int (zI (v5 + 0))), (7, .int (zI (a6))), (0, za x (17)), (1, .int (zI (v1))), (2, .int (zI (v2))), (3, .int (zI (v3))), (4, .int (zI (v4)))] dX7_hitsOf_74 rfl (by rw [hN]; decide) rfl ?_
          refine z_goto C 6 dX7_hitsOf_77 (by decide) ?_
          refine z_sub C [3, 4, 5, 6, 7, 1, 0] [(0, za x (17)), (1, .int (zI (v1))), (2, .int (zI (v2))), (3, .int (zI (v3))), (4, .int (zI (v4))), (5, .int (zI (v5 + 0))), (6, .int (zI (v6 + 1)))] rfl ?_
          exact ih v1 v2 v3 v4 (v5 + 0) (v6 + 1)  σ9 h
        · have h := h.2 c12
          refine z_aload_n C 1 dX7_hitsOf_49 rfl rfl ?_
          refine z_iload_n C 3 dX7_hitsOf_50 rfl rfl ?_
          refine z_iload C 7 dX7_hitsOf_51 rfl ?_
          refine z_iload_n C 4 dX7_hitsOf_53 rfl rfl ?_
          refine z_iadd C dX7_hitsOf_54 ?_
          refine z_callV (av := fun w => [.int (zI (v2)), .int (zI (v6 + v3))]) C [.int (zI (v5))] cs_X7_at (by decide) (fun _ _ => rfl) rfl (mX7_at v2 (v6 + v3)  σ9 _ h) km_X7_79 dX7_hitsOf_55 rfl rfl ⟨rfl, rfl⟩ ⟨by decide, by decide⟩ (Nat.le_of_ble_eq_true rfl) (fun rv σ13 hp => ?_)
          obtain ⟨a14, rfl, h⟩ := hp
          change zV x σ13 58 [(7, .int (zI (a6))), (0, za x (17)), (1, .int (zI (v1))), (2, .int (zI (v2))), (3, .int (zI (v3))), (4, .int (zI (v4))), (5, .int (zI (v5))), (6, .int (zI (v6)))] [.int (zI (a14)), .int (zI (v5))]
          refine z_iload C 0 dX7_hitsOf_58 rfl ?_
          refine z_iload C 5 dX7_hitsOf_60 rfl ?_
          refine z_iadd C dX7_hitsOf_62 ?_
          obtain ⟨o15, h⟩ := h
          obtain ⟨o16, h⟩ := h
          refine z_icmp_ne C 70 dX7_hitsOf_63 (by decide) o15 o16 (fun c17 => ?_) (fun c17 => ?_)
          · have h := h.1 c17
            refine z_iconst C dX7_hitsOf_70 ?_
            refine z_iadd C dX7_hitsOf_71 ?_
            refine z_istore C [(5, .int (zI (v5 + 0))), (7, .int (zI (a6))), (0, za x (17)), (1, .int (zI (v1))), (2, .int (zI (v2))), (3, .int (zI (v3))), (4, .int (zI (v4))), (6, .int (zI (v6)))] dX7_hitsOf_72 (by rw [hN]; decide) rfl ?_
            refine z_iinc C 7 [(6, .int (zI (v6 + 1))), (5, .int (zI (v5 + 0))), (7, .int (zI (a6))), (0, za x (17)), (1, .int (zI (v1))), (2, .int (zI (v2))), (3, .int (zI (v3))), (4, .int (zI (v4)))] dX7_hitsOf_74 rfl (by rw [hN]; decide) rfl ?_
            refine z_goto C 6 dX7_hitsOf_77 (by decide) ?_
            refine z_sub C [3, 4, 5, 6, 7, 1, 0] [(0, za x (17)), (1, .int (zI (v1))), (2, .int (zI (v2))), (3, .int (zI (v3))), (4, .int (zI (v4))), (5, .int (zI (v5 + 0))), (6, .int (zI (v6 + 1)))] rfl ?_
            exact ih v1 v2 v3 v4 (v5 + 0) (v6 + 1)  σ13 h
          · have h := h.2 c17
            refine z_iconst C dX7_hitsOf_66 ?_
            refine z_goto C 71 dX7_hitsOf_67 (by decide) ?_
            refine z_iadd C dX7_hitsOf_71 ?_
            refine z_istore C [(5, .int (zI (v5 + 1))), (7, .int (zI (a6))), (0, za x (17)), (1, .int (zI (v1))), (2, .int (zI (v2))), (3, .int (zI (v3))), (4, .int (zI (v4))), (6, .int (zI (v6)))] dX7_hitsOf_72 (by rw [hN]; decide) rfl ?_
            refine z_iinc C 7 [(6, .int (zI (v6 + 1))), (5, .int (zI (v5 + 1))), (7, .int (zI (a6))), (0, za x (17)), (1, .int (zI (v1))), (2, .int (zI (v2))), (3, .int (zI (v3))), (4, .int (zI (v4)))] dX7_hitsOf_74 rfl (by rw [hN]; decide) rfl ?_
            refine z_goto C 6 dX7_hitsOf_77 (by decide) ?_
            refine z_sub C [3, 4, 5, 6, 7, 1, 0] [(0, za x (17)), (1, .int (zI (v1))), (2, .int (zI (v2))), (3, .int (zI (v3))), (4, .int (zI (v4))), (5, .int (zI (v5 + 1))), (6, .int (zI (v6 + 1)))] rfl ?_
            exact ih v1 v2 v3 v4 (v5 + 1) (v6 + 1)  σ13 h
def wX7_hitsOf (v1 : Int) (v2 : Int) (v3 : Int) (v4 : Int) (σ : Hp) (k : Int → Hp → Prop) : Prop :=
  (∃ N1, wX7_hitsOf_6 k N1 v1 v2 v3 v4 0 0 σ)
set_option maxRecDepth 100000 in
theorem mX7_hitsOf (v1 : Int) (v2 : Int) (v3 : Int) (v4 : Int) (σ : Hp) (k : Int → Hp → Prop) (h : wX7_hitsOf v1 v2 v3 v4 σ k) (l : Launch) : zMt l yX7_hitsOf cX7_hitsOf 8 (some .int) { frames := 2, cells := 0, slots := 0, locals := 47 } (fun w => [.ref (w.2.1 (17)), .int (zI (v1)), .int (zI (v2)), .int (zI (v3)), .int (zI (v4))]) σ (zPi k) := by
  refine zMt_of (plainFor_of_name (by decide)) (fun w => Nat.le_of_ble_eq_true rfl) (fun x hl hN C E => ?_)
  change zV x σ 0 [(0, za x (17)), (1, .int (zI (v1))), (2, .int (zI (v2))), (3, .int (zI (v3))), (4, .int (zI (v4)))] []
  change zOk x cX7_hitsOf RX7 (some .int) (2) (47) at C
  unfold wX7_hitsOf at h
  refine z_iconst C dX7_hitsOf_0 ?_
  refine z_istore C [(5, .int (zI (0))), (0, za x (17)), (1, .int (zI (v1))), (2, .int (zI (v2))), (3, .int (zI (v3))), (4, .int (zI (v4)))] dX7_hitsOf_1 (by rw [hN]; decide) rfl ?_
  refine z_iconst C dX7_hitsOf_3 ?_
  refine z_istore C [(6, .int (zI (0))), (5, .int (zI (0))), (0, za x (17)), (1, .int (zI (v1))), (2, .int (zI (v2))), (3, .int (zI (v3))), (4, .int (zI (v4)))] dX7_hitsOf_4 (by rw [hN]; decide) rfl ?_
  refine z_sub C [2, 3, 4, 5, 6, 1, 0] [(0, za x (17)), (1, .int (zI (v1))), (2, .int (zI (v2))), (3, .int (zI (v3))), (4, .int (zI (v4))), (5, .int (zI (0))), (6, .int (zI (0)))] rfl ?_
  obtain ⟨n1, h⟩ := h
  exact sX7_hitsOf_6 C hN E n1 v1 v2 v3 v4 0 0  σ h
def wX7_roundOf_6 (k : Int → Hp → Prop) : Nat → Int → Int → Int → Int → Int → Int → Hp → Prop
  | 0, _, _, _, _, _, _, _ => False
  | n + 1, v1, v2, v3, v4, v5, v6, σ => (0 ≤ v1 ∧ v1 < 6) ∧ zrg v6 ∧ zrg (σ 18 v1.toNat) ∧ ((σ 18 v1.toNat ≤ v6 → k v5 σ) ∧ (¬ (σ 18 v1.toNat ≤ v6) → (0 ≤ v2 ∧ v2 < 6) ∧ zrg (σ 18 v2.toNat) ∧ ((σ 18 v2.toNat ≤ v6 → k v5 σ) ∧ (¬ (σ 18 v2.toNat ≤ v6) → wX7_at v1 v6 σ (fun a9 σ8 => zrg ((v6 + v3) + (12 * (σ8 18 v2.toNat))) ∧ zrg (σ8 18 v2.toNat) ∧ 0 < (σ8 18 v2.toNat) ∧ zrg a9 ∧ zrg (σ8 19 v2.toNat) ∧ ((σ8 19 v2.toNat ≤ a9 → wX7_roundOf_6 k n v1 v2 v3 v4 (v5 + 0) (v6 + 1) σ8) ∧ (¬ (σ8 19 v2.toNat ≤ a9) → wX7_at v2 (Int.tmod ((v6 + v3) + (12 * (σ8 18 v2.toNat))) (σ8 18 v2.toNat)) σ8 (fun a17 σ16 => zrg ((a9 + v4) + (12 * (σ16 19 v2.toNat))) ∧ zrg (σ16 19 v2.toNat) ∧ 0 < (σ16 19 v2.toNat) ∧ zrg a17 ∧ zrg (Int.tmod ((a9 + v4) + (12 * (σ16 19 v2.toNat))) (σ16 19 v2.toNat)) ∧ ((a17 ≠ Int.tmod ((a9 + v4) + (12 * (σ16 19 v2.toNat))) (σ16 19 v2.toNat) → wX7_roundOf_6 k n v1 v2 v3 v4 (v5 + 0) (v6 + 1) σ16) ∧ (¬ (a17 ≠ Int.tmod ((a9 + v4) + (12 * (σ16 19 v2.toNat))) (σ16 19 v2.toNat)) → wX7_roundOf_6 k n v1 v2 v3 v4 (v5 + 1) (v6 + 1) σ16))))))))))
set_option maxRecDepth 100000 in
theorem sX7_roundOf_6 {x : Cx} (C : zOk x cX7_roundOf RX7 (some .int) (2) (47)) (hN : x.2.2.2.2.1 = 9) {k : Int → Hp → Prop} (E : zEnd x (zPi k x.2.1)) : ∀ (n : Nat) (v1 : Int) (v2 : Int) (v3 : Int) (v4 : Int) (v5 : Int) (v6 : Int) (σ : Hp), wX7_roundOf_6 k n v1 v2 v3 v4 v5 v6 σ → zV x σ 6 [(0, za x (17)), (1, .int (zI (v1))), (2, .int (zI (v2))), (3, .int (zI (v3))), (4, .int (zI (v4))), (5, .int (zI (v5))), (6, .int (zI (v6)))] [] := by
  intro n
  induction n with
  | zero => intro _ _ _ _ _ _ _ h; exact h.elim
  | succ n ih =>
    intro v1 v2 v3 v4 v5 v6 σ h
    unfold wX7_roundOf_6 at h
    refine z_iload C 6 dX7_roundOf_6 rfl ?_
    refine z_aload_n C 0 dX7_roundOf_8 rfl rfl ?_
    refine g_X7_0 C kf_X7_7 dX7_roundOf_9 ?_
    refine z_iload_n C 1 dX7_roundOf_12 rfl rfl ?_
    obtain ⟨o1, h⟩ := h
    refine z_iald C ia_18 dX7_roundOf_13 o1.1 o1.2 ?_
    obtain ⟨o2, h⟩ := h
    obtain ⟨o3, h⟩ := h
    refine z_icmp_ge C 119 dX7_roundOf_14 (by decide) o2 o3 (fun c4 => ?_) (fun c4 => ?_)
    · have h := h.1 c4
      refine z_iload C 5 dX7_roundOf_119 rfl ?_
      exact z_iret C E dX7_roundOf_121 ⟨_, rfl, h⟩
    · have h := h.2 c4
      refine z_iload C 6 dX7_roundOf_17 rfl ?_
      refine z_aload_n C 0 dX7_roundOf_19 rfl rfl ?_
      refine g_X7_0 C kf_X7_7 dX7_roundOf_20 ?_
      refine z_iload_n C 2 dX7_roundOf_23 rfl rfl ?_
      obtain ⟨o5, h⟩ := h
      refine z_iald C ia_18 dX7_roundOf_24 o5.1 o5.2 ?_
      obtain ⟨o6, h⟩ := h
      refine z_icmp_ge C 119 dX7_roundOf_25 (by decide) o2 o6 (fun c7 => ?_) (fun c7 => ?_)
      · have h := h.1 c7
        refine z_iload C 5 dX7_roundOf_119 rfl ?_
        exact z_iret C E dX7_roundOf_121 ⟨_, rfl, h⟩
      · have h := h.2 c7
        refine z_aload_n C 0 dX7_roundOf_28 rfl rfl ?_
        refine z_iload_n C 1 dX7_roundOf_29 rfl rfl ?_
        refine z_iload C 6 dX7_roundOf_30 rfl ?_
        refine z_callV (av := fun w => [.int (zI (v1)), .int (zI (v6))]) C [] cs_X7_at (by decide) (fun _ _ => rfl) rfl (mX7_at v1 v6  σ _ h) km_X7_79 dX7_roundOf_32 rfl rfl ⟨rfl, rfl⟩ ⟨by decide, by decide⟩ (Nat.le_of_ble_eq_true rfl) (fun rv σ8 hp => ?_)
        obtain ⟨a9, rfl, h⟩ := hp
        change zV x σ8 35 [(0, za x (17)), (1, .int (zI (v1))), (2, .int (zI (v2))), (3, .int (zI (v3))), (4, .int (zI (v4))), (5, .int (zI (v5))), (6, .int (zI (v6)))] [.int (zI (a9))]
        refine z_istore C [(7, .int (zI (a9))), (0, za x (17)), (1, .int (zI (v1))), (2, .int (zI (v2))), (3, .int (zI (v3))), (4, .int (zI (v4))), (5, .int (zI (v5))), (6, .int (zI (v6)))] dX7_roundOf_35 (by rw [hN]; decide) rfl ?_
        refine z_iload C 7 dX7_roundOf_37 rfl ?_
        refine z_iload_n C 4 dX7_roundOf_39 rfl rfl ?_
        refine z_iadd C dX7_roundOf_40 ?_
        refine z_bipush C dX7_roundOf_41 rfl ?_
        refine z_aload_n C 1 dX7_roundOf_43 rfl rfl ?_
        refine g_X7_0 C kf_X7_7 dX7_roundOf_44 ?_
        refine z_iload_n C 3 dX7_roundOf_47 rfl rfl ?_
        refine z_iald C ia_18 dX7_roundOf_48 o5.1 o5.2 ?_
        refine z_imul C dX7_roundOf_49 ?_
        refine z_iadd C dX7_roundOf_50 ?_
        refine z_aload_n C 1 dX7_roundOf_51 rfl rfl ?_
        refine g_X7_0 C kf_X7_7 dX7_roundOf_52 ?_
        refine z_iload_n C 3 dX7_roundOf_55 rfl rfl ?_
        refine z_iald C ia_18 dX7_roundOf_56 o5.1 o5.2 ?_
        obtain ⟨o10, h⟩ := h
        obtain ⟨o11, h⟩ := h
        obtain ⟨o12, h⟩ := h
        refine z_irem C dX7_roundOf_57 o10 o11 o12 ?_
        refine z_istore C [(8, .int (zI (Int.tmod ((v6 + v3) + (12 * (σ8 18 v2.toNat))) (σ8 18 v2.toNat)))), (7, .int (zI (a9))), (0, za x (17)), (1, .int (zI (v1))), (2, .int (zI (v2))), (3, .int (zI (v3))), (4, .int (zI (v4))), (5, .int (zI (v5))), (6, .int (zI (v6)))] dX7_roundOf_58 (by rw [hN]; decide) rfl ?_
        refine z_iload C 7 dX7_roundOf_60 rfl ?_
        refine z_iload C 1 dX7_roundOf_62 rfl ?_
        refine z_aload_n C 2 dX7_roundOf_64 rfl rfl ?_
        refine g_X7_1 C kf_X7_13 dX7_roundOf_65 ?_
        refine z_iload_n C 4 dX7_roundOf_68 rfl rfl ?_
        refine z_iald C ia_19 dX7_roundOf_69 o5.1 o5.2 ?_
        obtain ⟨o13, h⟩ := h
        obtain ⟨o14, h⟩ := h
        refine z_icmp_ge C 109 dX7_roundOf_70 (by decide) o13 o14 (fun c15 => ?_) (fun c15 => ?_)
        · have h := h.1 c15
          refine z_iconst C dX7_roundOf_109 ?_
          refine z_iadd C dX7_roundOf_110 ?_
          refine z_istore C [(5, .int (zI (v5 + 0))), (8, .int (zI (Int.tmod ((v6 + v3) + (12 * (σ8 18 v2.toNat))) (σ8 18 v2.toNat)))), (7, .int (zI (a9))), (0, za x (17)), (1, .int (zI (v1))), (2, .int (zI (v2))), (3, .int (zI (v3))), (4, .int (zI (v4))), (6, .int (zI (v6)))] dX7_roundOf_111 (by rw [hN]; decide) rfl ?_
          refine z_iinc C 8 [(6, .int (zI (v6 + 1))), (5, .int (zI (v5 + 0))), (8, .int (zI (Int.tmod ((v6 + v3) + (12 * (σ8 18 v2.toNat))) (σ8 18 v2.toNat)))), (7, .int (zI (a9))), (0, za x (17)), (1, .int (zI (v1))), (2, .int (zI (v2))), (3, .int (zI (v3))), (4, .int (zI (v4)))] dX7_roundOf_113 rfl (by rw [hN]; decide) rfl ?_
          refine z_goto C 6 dX7_roundOf_116 (by decide) ?_
          refine z_sub C [4, 5, 6, 7, 8, 1, 0] [(0, za x (17)), (1, .int (zI (v1))), (2, .int (zI (v2))), (3, .int (zI (v3))), (4, .int (zI (v4))), (5, .int (zI (v5 + 0))), (6, .int (zI (v6 + 1)))] rfl ?_
          exact ih v1 v2 v3 v4 (v5 + 0) (v6 + 1)  σ8 h
        · have h := h.2 c15
          refine z_aload_n C 2 dX7_roundOf_73 rfl rfl ?_
          refine z_iload_n C 4 dX7_roundOf_74 rfl rfl ?_
          refine z_iload C 0 dX7_roundOf_75 rfl ?_
          refine z_callV (av := fun w => [.int (zI (v2)), .int (zI (Int.tmod ((v6 + v3) + (12 * (σ8 18 v2.toNat))) (σ8 18 v2.toNat)))]) C [.int (zI (v5))] cs_X7_at (by decide) (fun _ _ => rfl) rfl (mX7_at v2 (Int.tmod ((v6 + v3) + (12 * (σ8 18 v2.toNat))) (σ8 18 v2.toNat))  σ8 _ h) km_X7_79 dX7_roundOf_77 rfl rfl ⟨rfl, rfl⟩ ⟨by decide, by decide⟩ (Nat.le_of_ble_eq_true rfl) (fun rv σ16 hp => ?_)
          obtain ⟨a17, rfl, h⟩ := hp
          change zV x σ16 80 [(8, .int (zI (Int.tmod ((v6 + v3) + (12 * (σ8 18 v2.toNat))) (σ8 18 v2.toNat)))), (7, .int (zI (a9))), (0, za x (17)), (1, .int (zI (v1))), (2, .int (zI (v2))), (3, .int (zI (v3))), (4, .int (zI (v4))), (5, .int (zI (v5))), (6, .int (zI (v6)))] [.int (zI (a17)), .int (zI (v5))]
          refine z_iload C 1 dX7_roundOf_80 rfl ?_
          refine z_iload C 6 dX7_roundOf_82 rfl ?_
          refine z_iadd C dX7_roundOf_84 ?_
          refine z_bipush C dX7_roundOf_85 rfl ?_
          refine z_aload_n C 2 dX7_roundOf_87 rfl rfl ?_
          refine g_X7_1 C kf_X7_13 dX7_roundOf_88 ?_
          refine z_iload_n C 4 dX7_roundOf_91 rfl rfl ?_
          refine z_iald C ia_19 dX7_roundOf_92 o5.1 o5.2 ?_
          refine z_imul C dX7_roundOf_93 ?_
          refine z_iadd C dX7_roundOf_94 ?_
          refine z_aload_n C 2 dX7_roundOf_95 rfl rfl ?_
          refine g_X7_1 C kf_X7_13 dX7_roundOf_96 ?_
          refine z_iload_n C 4 dX7_roundOf_99 rfl rfl ?_
          refine z_iald C ia_19 dX7_roundOf_100 o5.1 o5.2 ?_
          obtain ⟨o18, h⟩ := h
          obtain ⟨o19, h⟩ := h
          obtain ⟨o20, h⟩ := h
          refine z_irem C dX7_roundOf_101 o18 o19 o20 ?_
          obtain ⟨o21, h⟩ := h
          obtain ⟨o22, h⟩ := h
          refine z_icmp_ne C 109 dX7_roundOf_102 (by decide) o21 o22 (fun c23 => ?_) (fun c23 => ?_)
          · have h := h.1 c23
            refine z_iconst C dX7_roundOf_109 ?_
            refine z_iadd C dX7_roundOf_110 ?_
            refine z_istore C [(5, .int (zI (v5 + 0))), (8, .int (zI (Int.tmod ((v6 + v3) + (12 * (σ8 18 v2.toNat))) (σ8 18 v2.toNat)))), (7, .int (zI (a9))), (0, za x (17)), (1, .int (zI (v1))), (2, .int (zI (v2))), (3, .int (zI (v3))), (4, .int (zI (v4))), (6, .int (zI (v6)))] dX7_roundOf_111 (by rw [hN]; decide) rfl ?_
            refine z_iinc C 8 [(6, .int (zI (v6 + 1))), (5, .int (zI (v5 + 0))), (8, .int (zI (Int.tmod ((v6 + v3) + (12 * (σ8 18 v2.toNat))) (σ8 18 v2.toNat)))), (7, .int (zI (a9))), (0, za x (17)), (1, .int (zI (v1))), (2, .int (zI (v2))), (3, .int (zI (v3))), (4, .int (zI (v4)))] dX7_roundOf_113 rfl (by rw [hN]; decide) rfl ?_
            refine z_goto C 6 dX7_roundOf_116 (by decide) ?_
            refine z_sub C [4, 5, 6, 7, 8, 1, 0] [(0, za x (17)), (1, .int (zI (v1))), (2, .int (zI (v2))), (3, .int (zI (v3))), (4, .int (zI (v4))), (5, .int (zI (v5 + 0))), (6, .int (zI (v6 + 1)))] rfl ?_
            exact ih v1 v2 v3 v4 (v5 + 0) (v6 + 1)  σ16 h
          · have h := h.2 c23
            refine z_iconst C dX7_roundOf_105 ?_
            refine z_goto C 110 dX7_roundOf_106 (by decide) ?_
            refine z_iadd C dX7_roundOf_110 ?_
            refine z_istore C [(5, .int (zI (v5 + 1))), (8, .int (zI (Int.tmod ((v6 + v3) + (12 * (σ8 18 v2.toNat))) (σ8 18 v2.toNat)))), (7, .int (zI (a9))), (0, za x (17)), (1, .int (zI (v1))), (2, .int (zI (v2))), (3, .int (zI (v3))), (4, .int (zI (v4))), (6, .int (zI (v6)))] dX7_roundOf_111 (by rw [hN]; decide) rfl ?_
            refine z_iinc C 8 [(6, .int (zI (v6 + 1))), (5, .int (zI (v5 + 1))), (8, .int (zI (Int.tmod ((v6 + v3) + (12 * (σ8 18 v2.toNat))) (σ8 18 v2.toNat)))), (7, .int (zI (a9))), (0, za x (17)), (1, .int (zI (v1))), (2, .int (zI (v2))), (3, .int (zI (v3))), (4, .int (zI (v4)))] dX7_roundOf_113 rfl (by rw [hN]; decide) rfl ?_
            refine z_goto C 6 dX7_roundOf_116 (by decide) ?_
            refine z_sub C [4, 5, 6, 7, 8, 1, 0] [(0, za x (17)), (1, .int (zI (v1))), (2, .int (zI (v2))), (3, .int (zI (v3))), (4, .int (zI (v4))), (5, .int (zI (v5 + 1))), (6, .int (zI (v6 + 1)))] rfl ?_
            exact ih v1 v2 v3 v4 (v5 + 1) (v6 + 1)  σ16 h
def wX7_roundOf (v1 : Int) (v2 : Int) (v3 : Int) (v4 : Int) (σ : Hp) (k : Int → Hp → Prop) : Prop :=
  (∃ N1, wX7_roundOf_6 k N1 v1 v2 v3 v4 0 0 σ)
set_option maxRecDepth 100000 in
theorem mX7_roundOf (v1 : Int) (v2 : Int) (v3 : Int) (v4 : Int) (σ : Hp) (k : Int → Hp → Prop) (h : wX7_roundOf v1 v2 v3 v4 σ k) (l : Launch) : zMt l yX7_roundOf cX7_roundOf 9 (some .int) { frames := 2, cells := 0, slots := 0, locals := 47 } (fun w => [.ref (w.2.1 (17)), .int (zI (v1)), .int (zI (v2)), .int (zI (v3)), .int (zI (v4))]) σ (zPi k) := by
  refine zMt_of (plainFor_of_name (by decide)) (fun w => Nat.le_of_ble_eq_true rfl) (fun x hl hN C E => ?_)
  change zV x σ 0 [(0, za x (17)), (1, .int (zI (v1))), (2, .int (zI (v2))), (3, .int (zI (v3))), (4, .int (zI (v4)))] []
  change zOk x cX7_roundOf RX7 (some .int) (2) (47) at C
  unfold wX7_roundOf at h
  refine z_iconst C dX7_roundOf_0 ?_
  refine z_istore C [(5, .int (zI (0))), (0, za x (17)), (1, .int (zI (v1))), (2, .int (zI (v2))), (3, .int (zI (v3))), (4, .int (zI (v4)))] dX7_roundOf_1 (by rw [hN]; decide) rfl ?_
  refine z_iconst C dX7_roundOf_3 ?_
  refine z_istore C [(6, .int (zI (0))), (5, .int (zI (0))), (0, za x (17)), (1, .int (zI (v1))), (2, .int (zI (v2))), (3, .int (zI (v3))), (4, .int (zI (v4)))] dX7_roundOf_4 (by rw [hN]; decide) rfl ?_
  refine z_sub C [2, 3, 4, 5, 6, 1, 0] [(0, za x (17)), (1, .int (zI (v1))), (2, .int (zI (v2))), (3, .int (zI (v3))), (4, .int (zI (v4))), (5, .int (zI (0))), (6, .int (zI (0)))] rfl ?_
  obtain ⟨n1, h⟩ := h
  exact sX7_roundOf_6 C hN E n1 v1 v2 v3 v4 0 0  σ h
def wX7_hits (v1 : Int) (v2 : Int) (v3 : Int) (v4 : Int) (v5 : Int) (σ : Hp) (k : Int → Hp → Prop) : Prop :=
  wX7_isRow v1 σ (fun a2 σ1 => zrg a2 ∧ ((a2 = 0 → k ((-1)) σ1) ∧ (¬ (a2 = 0) → wX7_isRow v2 σ1 (fun a6 σ5 => zrg a6 ∧ ((a6 = 0 → k ((-1)) σ5) ∧ (¬ (a6 = 0) → zrg v3 ∧ wX7_in v3 ((-12)) 12 σ5 (fun a11 σ10 => zrg a11 ∧ ((a11 = 0 → k ((-1)) σ10) ∧ (¬ (a11 = 0) → zrg v4 ∧ wX7_in v4 ((-12)) 12 σ10 (fun a16 σ15 => zrg a16 ∧ ((a16 ≠ 0 → zrg v5 ∧ ((v5 = 0 → wX7_hitsOf v1 v2 v3 v4 σ15 (fun a22 σ21 => k a22 σ21)) ∧ (¬ (v5 = 0) → wX7_roundOf v1 v2 v3 v4 σ15 (fun a24 σ23 => k a24 σ23)))) ∧ (¬ (a16 ≠ 0) → k ((-1)) σ15))))))))))))
set_option maxRecDepth 100000 in
theorem mX7_hits (v1 : Int) (v2 : Int) (v3 : Int) (v4 : Int) (v5 : Int) (σ : Hp) (k : Int → Hp → Prop) (h : wX7_hits v1 v2 v3 v4 v5 σ k) (l : Launch) : zMt l yX7_hits cX7_hits 6 (some .int) { frames := 3, cells := 0, slots := 0, locals := 75 } (fun w => [.ref (w.2.1 (17)), .int (zI (v1)), .int (zI (v2)), .int (zI (v3)), .int (zI (v4)), .int (zI (v5))]) σ (zPi k) := by
  refine zMt_of (plainFor_of_name (by decide)) (fun w => Nat.le_of_ble_eq_true rfl) (fun x hl hN C E => ?_)
  change zV x σ 0 [(0, za x (17)), (1, .int (zI (v1))), (2, .int (zI (v2))), (3, .int (zI (v3))), (4, .int (zI (v4))), (5, .int (zI (v5)))] []
  change zOk x cX7_hits RX7 (some .int) (3) (75) at C
  unfold wX7_hits at h
  refine z_iload_n C 1 dX7_hits_0 rfl rfl ?_
  refine z_callS (av := fun w => [.int (zI (v1))]) C [] cs_X7_isRow (mX7_isRow v1  σ _ h) km_X7_50 dX7_hits_1 rfl rfl ⟨rfl, rfl⟩ ⟨by decide, by decide⟩ (Nat.le_of_ble_eq_true rfl) (fun rv σ1 hp => ?_)
  obtain ⟨a2, rfl, h⟩ := hp
  change zV x σ1 4 [(0, za x (17)), (1, .int (zI (v1))), (2, .int (zI (v2))), (3, .int (zI (v3))), (4, .int (zI (v4))), (5, .int (zI (v5)))] [.int (zI (a2))]
  obtain ⟨o3, h⟩ := h
  refine z_if_eq C 43 dX7_hits_4 (by decide) o3 (fun c4 => ?_) (fun c4 => ?_)
  · have h := h.1 c4
    refine z_iconst C dX7_hits_43 ?_
    exact z_iret C E dX7_hits_44 ⟨_, rfl, h⟩
  · have h := h.2 c4
    refine z_iload_n C 2 dX7_hits_7 rfl rfl ?_
    refine z_callS (av := fun w => [.int (zI (v2))]) C [] cs_X7_isRow (mX7_isRow v2  σ1 _ h) km_X7_50 dX7_hits_8 rfl rfl ⟨rfl, rfl⟩ ⟨by decide, by decide⟩ (Nat.le_of_ble_eq_true rfl) (fun rv σ5 hp => ?_)
    obtain ⟨a6, rfl, h⟩ := hp
    change zV x σ5 11 [(0, za x (17)), (1, .int (zI (v1))), (2, .int (zI (v2))), (3, .int (zI (v3))), (4, .int (zI (v4))), (5, .int (zI (v5)))] [.int (zI (a6))]
    obtain ⟨o7, h⟩ := h
    refine z_if_eq C 43 dX7_hits_11 (by decide) o7 (fun c8 => ?_) (fun c8 => ?_)
    · have h := h.1 c8
      refine z_iconst C dX7_hits_43 ?_
      exact z_iret C E dX7_hits_44 ⟨_, rfl, h⟩
    · have h := h.2 c8
      refine z_iload_n C 3 dX7_hits_14 rfl rfl ?_
      obtain ⟨o9, h⟩ := h
      refine z_i2l C dX7_hits_15 o9 ?_
      refine z_ldc2 (z := -12) C kl_X7_99 rfl dX7_hits_16 ?_
      refine z_ldc2 (z := 12) C kl_X7_54 rfl dX7_hits_19 ?_
      refine z_callS (av := fun w => [.long (zJ (v3)), .long (zJ ((-12))), .long (zJ (12))]) C [] cs_X7_in (mX7_in v3 ((-12)) 12  σ5 _ h) km_X7_46 dX7_hits_22 rfl rfl ⟨rfl, rfl⟩ ⟨by decide, by decide⟩ (Nat.le_of_ble_eq_true rfl) (fun rv σ10 hp => ?_)
      obtain ⟨a11, rfl, h⟩ := hp
      change zV x σ10 25 [(0, za x (17)), (1, .int (zI (v1))), (2, .int (zI (v2))), (3, .int (zI (v3))), (4, .int (zI (v4))), (5, .int (zI (v5)))] [.int (zI (a11))]
      obtain ⟨o12, h⟩ := h
      refine z_if_eq C 43 dX7_hits_25 (by decide) o12 (fun c13 => ?_) (fun c13 => ?_)
      · have h := h.1 c13
        refine z_iconst C dX7_hits_43 ?_
        exact z_iret C E dX7_hits_44 ⟨_, rfl, h⟩
      · have h := h.2 c13
        refine z_iload C 4 dX7_hits_28 rfl ?_
        obtain ⟨o14, h⟩ := h
        refine z_i2l C dX7_hits_30 o14 ?_
        refine z_ldc2 (z := -12) C kl_X7_99 rfl dX7_hits_31 ?_
        refine z_ldc2 (z := 12) C kl_X7_54 rfl dX7_hits_34 ?_
        refine z_callS (av := fun w => [.long (zJ (v4)), .long (zJ ((-12))), .long (zJ (12))]) C [] cs_X7_in (mX7_in v4 ((-12)) 12  σ10 _ h) km_X7_46 dX7_hits_37 rfl rfl ⟨rfl, rfl⟩ ⟨by decide, by decide⟩ (Nat.le_of_ble_eq_true rfl) (fun rv σ15 hp => ?_)
        obtain ⟨a16, rfl, h⟩ := hp
        change zV x σ15 40 [(0, za x (17)), (1, .int (zI (v1))), (2, .int (zI (v2))), (3, .int (zI (v3))), (4, .int (zI (v4))), (5, .int (zI (v5)))] [.int (zI (a16))]
        obtain ⟨o17, h⟩ := h
        refine z_if_ne C 45 dX7_hits_40 (by decide) o17 (fun c18 => ?_) (fun c18 => ?_)
        · have h := h.1 c18
          refine z_iload C 5 dX7_hits_45 rfl ?_
          obtain ⟨o19, h⟩ := h
          refine z_if_eq C 62 dX7_hits_47 (by decide) o19 (fun c20 => ?_) (fun c20 => ?_)
          · have h := h.1 c20
            refine z_aload_n C 0 dX7_hits_62 rfl rfl ?_
            refine z_iload_n C 1 dX7_hits_63 rfl rfl ?_
            refine z_iload_n C 2 dX7_hits_64 rfl rfl ?_
            refine z_iload_n C 3 dX7_hits_65 rfl rfl ?_
            refine z_iload C 4 dX7_hits_66 rfl ?_
            refine z_callV (av := fun w => [.int (zI (v1)), .int (zI (v2)), .int (zI (v3)), .int (zI (v4))]) C [] cs_X7_hitsOf (by decide) (fun _ _ => rfl) rfl (mX7_hitsOf v1 v2 v3 v4  σ15 _ h) km_X7_104 dX7_hits_68 rfl rfl ⟨rfl, rfl⟩ ⟨by decide, by decide⟩ (Nat.le_of_ble_eq_true rfl) (fun rv σ21 hp => ?_)
            obtain ⟨a22, rfl, h⟩ := hp
            change zV x σ21 71 [(0, za x (17)), (1, .int (zI (v1))), (2, .int (zI (v2))), (3, .int (zI (v3))), (4, .int (zI (v4))), (5, .int (zI (v5)))] [.int (zI (a22))]
            exact z_iret C E dX7_hits_71 ⟨_, rfl, h⟩
          · have h := h.2 c20
            refine z_aload_n C 0 dX7_hits_50 rfl rfl ?_
            refine z_iload_n C 1 dX7_hits_51 rfl rfl ?_
            refine z_iload_n C 2 dX7_hits_52 rfl rfl ?_
            refine z_iload_n C 3 dX7_hits_53 rfl rfl ?_
            refine z_iload C 4 dX7_hits_54 rfl ?_
            refine z_callV (av := fun w => [.int (zI (v1)), .int (zI (v2)), .int (zI (v3)), .int (zI (v4))]) C [] cs_X7_roundOf (by decide) (fun _ _ => rfl) rfl (mX7_roundOf v1 v2 v3 v4  σ15 _ h) km_X7_101 dX7_hits_56 rfl rfl ⟨rfl, rfl⟩ ⟨by decide, by decide⟩ (Nat.le_of_ble_eq_true rfl) (fun rv σ23 hp => ?_)
            obtain ⟨a24, rfl, h⟩ := hp
            change zV x σ23 59 [(0, za x (17)), (1, .int (zI (v1))), (2, .int (zI (v2))), (3, .int (zI (v3))), (4, .int (zI (v4))), (5, .int (zI (v5)))] [.int (zI (a24))]
            refine z_goto C 71 dX7_hits_59 (by decide) ?_
            exact z_iret C E dX7_hits_71 ⟨_, rfl, h⟩
        · have h := h.2 c18
          refine z_iconst C dX7_hits_43 ?_
          exact z_iret C E dX7_hits_44 ⟨_, rfl, h⟩
def wX7_isLean_31 (k : Int → Hp → Prop) (K3 : Int → Int → Int → Int → Hp → Prop) : Nat → Int → Int → Int → Int → Int → Int → Hp → Prop
  | 0, _, _, _, _, _, _, _ => False
  | n + 1, v1, v2, v3, v4, v5, v6, σ => zrg v6 ∧ zrg v1 ∧ ((v1 ≤ v6 → K3 v1 v2 v3 (v4 + 1) σ) ∧ (¬ (v1 ≤ v6) → (0 ≤ v6 ∧ v6 < 12) ∧ (0 ≤ v6 - v4 ∧ v6 - v4 < 12) ∧ zrg v3 ∧ ((v3 ≠ 0 → zrg (v5 - ((σ 24 v6.toNat) - (σ 24 (v6 - v4).toNat))) ∧ zrg v2 ∧ 0 < v2 ∧ zrg (Int.tmod (v5 - ((σ 24 v6.toNat) - (σ 24 (v6 - v4).toNat))) v2) ∧ ((Int.tmod (v5 - ((σ 24 v6.toNat) - (σ 24 (v6 - v4).toNat))) v2 ≠ 0 → wX7_isLean_31 k K3 n v1 v2 v3 v4 v5 (v6 + 1) σ) ∧ (¬ (Int.tmod (v5 - ((σ 24 v6.toNat) - (σ 24 (v6 - v4).toNat))) v2 ≠ 0) → k 0 σ))) ∧ (¬ (v3 ≠ 0) → zrg v5 ∧ zrg ((σ 24 v6.toNat) - (σ 24 (v6 - v4).toNat)) ∧ ((v5 ≠ (σ 24 v6.toNat) - (σ 24 (v6 - v4).toNat) → wX7_isLean_31 k K3 n v1 v2 v3 v4 v5 (v6 + 1) σ) ∧ (¬ (v5 ≠ (σ 24 v6.toNat) - (σ 24 (v6 - v4).toNat)) → k 0 σ))))))
set_option maxRecDepth 100000 in
theorem sX7_isLean_31 {x : Cx} (C : zOk x cX7_isLean RX7 (some .boolean) (0) (0)) (hN : x.2.2.2.2.1 = 8) {k : Int → Hp → Prop} (E : zEnd x (zPi k x.2.1)) {K3 : Int → Int → Int → Int → Hp → Prop} (H3 : ∀ (v1 : Int) (v2 : Int) (v3 : Int) (v4 : Int) (σ : Hp), K3 v1 v2 v3 v4 σ → zV x σ 3 [(0, za x (17)), (1, .int (zI (v1))), (2, .int (zI (v2))), (3, .int (zI (v3))), (4, .int (zI (v4)))] []) : ∀ (n : Nat) (v1 : Int) (v2 : Int) (v3 : Int) (v4 : Int) (v5 : Int) (v6 : Int) (σ : Hp), wX7_isLean_31 k K3 n v1 v2 v3 v4 v5 v6 σ → zV x σ 31 [(0, za x (17)), (1, .int (zI (v1))), (2, .int (zI (v2))), (3, .int (zI (v3))), (4, .int (zI (v4))), (5, .int (zI (v5))), (6, .int (zI (v6)))] [] := by
  intro n
  induction n with
  | zero => intro _ _ _ _ _ _ _ h; exact h.elim
  | succ n ih =>
    intro v1 v2 v3 v4 v5 v6 σ h
    unfold wX7_isLean_31 at h
    refine z_iload C 6 dX7_isLean_31 rfl ?_
    refine z_iload_n C 1 dX7_isLean_33 rfl rfl ?_
    obtain ⟨o1, h⟩ := h
    obtain ⟨o2, h⟩ := h
    refine z_icmp_ge C 89 dX7_isLean_34 (by decide) o1 o2 (fun c3 => ?_) (fun c3 => ?_)
    · have h := h.1 c3
      refine z_iinc C 4 [(4, .int (zI (v4 + 1))), (0, za x (17)), (1, .int (zI (v1))), (2, .int (zI (v2))), (3, .int (zI (v3))), (5, .int (zI (v5))), (6, .int (zI (v6)))] dX7_isLean_89 rfl (by rw [hN]; decide) rfl ?_
      refine z_goto C 3 dX7_isLean_92 (by decide) ?_
      refine z_sub C [1, 2, 3, 4, 0] [(0, za x (17)), (1, .int (zI (v1))), (2, .int (zI (v2))), (3, .int (zI (v3))), (4, .int (zI (v4 + 1)))] rfl ?_
      exact H3 v1 v2 v3 (v4 + 1)  σ h
    · have h := h.2 c3
      refine z_aload_n C 0 dX7_isLean_37 rfl rfl ?_
      refine g_X7_8 C kf_X7_29 dX7_isLean_38 ?_
      refine z_iload C 6 dX7_isLean_41 rfl ?_
      obtain ⟨o4, h⟩ := h
      refine z_iald C ia_24 dX7_isLean_43 o4.1 o4.2 ?_
      refine z_aload_n C 0 dX7_isLean_44 rfl rfl ?_
      refine g_X7_8 C kf_X7_29 dX7_isLean_45 ?_
      refine z_iload C 6 dX7_isLean_48 rfl ?_
      refine z_iload C 4 dX7_isLean_50 rfl ?_
      refine z_isub C dX7_isLean_52 ?_
      obtain ⟨o5, h⟩ := h
      refine z_iald C ia_24 dX7_isLean_53 o5.1 o5.2 ?_
      refine z_isub C dX7_isLean_54 ?_
      refine z_istore C [(7, .int (zI ((σ 24 v6.toNat) - (σ 24 (v6 - v4).toNat)))), (0, za x (17)), (1, .int (zI (v1))), (2, .int (zI (v2))), (3, .int (zI (v3))), (4, .int (zI (v4))), (5, .int (zI (v5))), (6, .int (zI (v6)))] dX7_isLean_55 (by rw [hN]; decide) rfl ?_
      refine z_iload_n C 4 dX7_isLean_57 rfl rfl ?_
      obtain ⟨o6, h⟩ := h
      refine z_if_ne C 71 dX7_isLean_58 (by decide) o6 (fun c7 => ?_) (fun c7 => ?_)
      · have h := h.1 c7
        refine z_iload C 6 dX7_isLean_71 rfl ?_
        refine z_iload C 0 dX7_isLean_73 rfl ?_
        refine z_isub C dX7_isLean_75 ?_
        refine z_iload_n C 3 dX7_isLean_76 rfl rfl ?_
        obtain ⟨o8, h⟩ := h
        obtain ⟨o9, h⟩ := h
        obtain ⟨o10, h⟩ := h
        refine z_irem C dX7_isLean_77 o8 o9 o10 ?_
        obtain ⟨o11, h⟩ := h
        refine z_if_ne C 83 dX7_isLean_78 (by decide) o11 (fun c12 => ?_) (fun c12 => ?_)
        · have h := h.1 c12
          refine z_iinc C 7 [(6, .int (zI (v6 + 1))), (7, .int (zI ((σ 24 v6.toNat) - (σ 24 (v6 - v4).toNat)))), (0, za x (17)), (1, .int (zI (v1))), (2, .int (zI (v2))), (3, .int (zI (v3))), (4, .int (zI (v4))), (5, .int (zI (v5)))] dX7_isLean_83 rfl (by rw [hN]; decide) rfl ?_
          refine z_goto C 31 dX7_isLean_86 (by decide) ?_
          refine z_sub C [2, 3, 4, 5, 6, 7, 0] [(0, za x (17)), (1, .int (zI (v1))), (2, .int (zI (v2))), (3, .int (zI (v3))), (4, .int (zI (v4))), (5, .int (zI (v5))), (6, .int (zI (v6 + 1)))] rfl ?_
          exact ih v1 v2 v3 v4 v5 (v6 + 1)  σ h
        · have h := h.2 c12
          refine z_iconst C dX7_isLean_81 ?_
          exact z_zret C E dX7_isLean_82 (by decide) ⟨_, rfl, h⟩
      · have h := h.2 c7
        refine z_iload C 6 dX7_isLean_61 rfl ?_
        refine z_iload C 0 dX7_isLean_63 rfl ?_
        obtain ⟨o13, h⟩ := h
        obtain ⟨o14, h⟩ := h
        refine z_icmp_ne C 83 dX7_isLean_65 (by decide) o13 o14 (fun c15 => ?_) (fun c15 => ?_)
        · have h := h.1 c15
          refine z_iinc C 7 [(6, .int (zI (v6 + 1))), (7, .int (zI ((σ 24 v6.toNat) - (σ 24 (v6 - v4).toNat)))), (0, za x (17)), (1, .int (zI (v1))), (2, .int (zI (v2))), (3, .int (zI (v3))), (4, .int (zI (v4))), (5, .int (zI (v5)))] dX7_isLean_83 rfl (by rw [hN]; decide) rfl ?_
          refine z_goto C 31 dX7_isLean_86 (by decide) ?_
          refine z_sub C [2, 3, 4, 5, 6, 7, 0] [(0, za x (17)), (1, .int (zI (v1))), (2, .int (zI (v2))), (3, .int (zI (v3))), (4, .int (zI (v4))), (5, .int (zI (v5))), (6, .int (zI (v6 + 1)))] rfl ?_
          exact ih v1 v2 v3 v4 v5 (v6 + 1)  σ h
        · have h := h.2 c15
          refine z_goto C 81 dX7_isLean_68 (by decide) ?_
          refine z_iconst C dX7_isLean_81 ?_
          exact z_zret C E dX7_isLean_82 (by decide) ⟨_, rfl, h⟩
def wX7_isLean_3 (k : Int → Hp → Prop) : Nat → Int → Int → Int → Int → Hp → Prop
  | 0, _, _, _, _, _ => False
  | n + 1, v1, v2, v3, v4, σ => zrg v4 ∧ zrg v1 ∧ ((v1 ≤ v4 → k 1 σ) ∧ (¬ (v1 ≤ v4) → (0 ≤ v1 ∧ v1 < 12) ∧ (0 ≤ v1 - v4 ∧ v1 - v4 < 12) ∧ (∃ N6, wX7_isLean_31 k (fun v1 v2 v3 v4 σ => wX7_isLean_3 k n v1 v2 v3 v4 σ) N6 v1 v2 v3 v4 ((σ 24 v1.toNat) - (σ 24 (v1 - v4).toNat)) v4 σ)))
set_option maxRecDepth 100000 in
theorem sX7_isLean_3 {x : Cx} (C : zOk x cX7_isLean RX7 (some .boolean) (0) (0)) (hN : x.2.2.2.2.1 = 8) {k : Int → Hp → Prop} (E : zEnd x (zPi k x.2.1)) : ∀ (n : Nat) (v1 : Int) (v2 : Int) (v3 : Int) (v4 : Int) (σ : Hp), wX7_isLean_3 k n v1 v2 v3 v4 σ → zV x σ 3 [(0, za x (17)), (1, .int (zI (v1))), (2, .int (zI (v2))), (3, .int (zI (v3))), (4, .int (zI (v4)))] [] := by
  intro n
  induction n with
  | zero => intro _ _ _ _ _ h; exact h.elim
  | succ n ih =>
    intro v1 v2 v3 v4 σ h
    unfold wX7_isLean_3 at h
    refine z_iload C 4 dX7_isLean_3 rfl ?_
    refine z_iload_n C 1 dX7_isLean_5 rfl rfl ?_
    obtain ⟨o1, h⟩ := h
    obtain ⟨o2, h⟩ := h
    refine z_icmp_ge C 95 dX7_isLean_6 (by decide) o1 o2 (fun c3 => ?_) (fun c3 => ?_)
    · have h := h.1 c3
      refine z_iconst C dX7_isLean_95 ?_
      exact z_zret C E dX7_isLean_96 (by decide) ⟨_, rfl, h⟩
    · have h := h.2 c3
      refine z_aload_n C 0 dX7_isLean_9 rfl rfl ?_
      refine g_X7_8 C kf_X7_29 dX7_isLean_10 ?_
      refine z_iload_n C 1 dX7_isLean_13 rfl rfl ?_
      obtain ⟨o4, h⟩ := h
      refine z_iald C ia_24 dX7_isLean_14 o4.1 o4.2 ?_
      refine z_aload_n C 0 dX7_isLean_15 rfl rfl ?_
      refine g_X7_8 C kf_X7_29 dX7_isLean_16 ?_
      refine z_iload_n C 1 dX7_isLean_19 rfl rfl ?_
      refine z_iload C 4 dX7_isLean_20 rfl ?_
      refine z_isub C dX7_isLean_22 ?_
      obtain ⟨o5, h⟩ := h
      refine z_iald C ia_24 dX7_isLean_23 o5.1 o5.2 ?_
      refine z_isub C dX7_isLean_24 ?_
      refine z_istore C [(5, .int (zI ((σ 24 v1.toNat) - (σ 24 (v1 - v4).toNat)))), (0, za x (17)), (1, .int (zI (v1))), (2, .int (zI (v2))), (3, .int (zI (v3))), (4, .int (zI (v4)))] dX7_isLean_25 (by rw [hN]; decide) rfl ?_
      refine z_iload C 5 dX7_isLean_27 rfl ?_
      refine z_istore C [(6, .int (zI (v4))), (5, .int (zI ((σ 24 v1.toNat) - (σ 24 (v1 - v4).toNat)))), (0, za x (17)), (1, .int (zI (v1))), (2, .int (zI (v2))), (3, .int (zI (v3))), (4, .int (zI (v4)))] dX7_isLean_29 (by rw [hN]; decide) rfl ?_
      refine z_sub C [2, 3, 4, 5, 6, 1, 0] [(0, za x (17)), (1, .int (zI (v1))), (2, .int (zI (v2))), (3, .int (zI (v3))), (4, .int (zI (v4))), (5, .int (zI ((σ 24 v1.toNat) - (σ 24 (v1 - v4).toNat)))), (6, .int (zI (v4)))] rfl ?_
      obtain ⟨n6, h⟩ := h
      exact sX7_isLean_31 C hN E (by intro v1 v2 v3 v4 σ h; exact ih v1 v2 v3 v4  σ h) n6 v1 v2 v3 v4 ((σ 24 v1.toNat) - (σ 24 (v1 - v4).toNat)) v4  σ h
def wX7_isLean (v1 : Int) (v2 : Int) (v3 : Int) (σ : Hp) (k : Int → Hp → Prop) : Prop :=
  (∃ N1, wX7_isLean_3 k N1 v1 v2 v3 1 σ)
set_option maxRecDepth 100000 in
theorem mX7_isLean (v1 : Int) (v2 : Int) (v3 : Int) (σ : Hp) (k : Int → Hp → Prop) (h : wX7_isLean v1 v2 v3 σ k) (l : Launch) : zMt l yX7_isLean cX7_isLean 8 (some .boolean) { frames := 0, cells := 0, slots := 0, locals := 0 } (fun w => [.ref (w.2.1 (17)), .int (zI (v1)), .int (zI (v2)), .int (zI (v3))]) σ (zPi k) := by
  refine zMt_of (plainFor_of_name (by decide)) (fun w => Nat.le_of_ble_eq_true rfl) (fun x hl hN C E => ?_)
  change zV x σ 0 [(0, za x (17)), (1, .int (zI (v1))), (2, .int (zI (v2))), (3, .int (zI (v3)))] []
  change zOk x cX7_isLean RX7 (some .boolean) (0) (0) at C
  unfold wX7_isLean at h
  refine z_iconst C dX7_isLean_0 ?_
  refine z_istore C [(4, .int (zI (1))), (0, za x (17)), (1, .int (zI (v1))), (2, .int (zI (v2))), (3, .int (zI (v3)))] dX7_isLean_1 (by rw [hN]; decide) rfl ?_
  refine z_sub C [1, 2, 3, 4, 0] [(0, za x (17)), (1, .int (zI (v1))), (2, .int (zI (v2))), (3, .int (zI (v3))), (4, .int (zI (1)))] rfl ?_
  obtain ⟨n1, h⟩ := h
  exact sX7_isLean_3 C hN E n1 v1 v2 v3 1  σ h
def wX7_may_58 (k : Int → Hp → Prop) (v1 : Int) (v2 : Int) (v3 : Int) (σ : Hp) : Prop :=
  wX7_isLean v1 v2 v3 σ (fun a2 σ1 => zrg a2 ∧ ((a2 = 0 → k 0 σ1) ∧ (¬ (a2 = 0) → k 1 σ1)))
set_option maxRecDepth 100000 in
theorem sX7_may_58 {x : Cx} (C : zOk x cX7_may RX7 (some .boolean) (2) (47)) (hN : x.2.2.2.2.1 = 7) {k : Int → Hp → Prop} (E : zEnd x (zPi k x.2.1)) (v1 : Int) (v2 : Int) (v3 : Int) (σ : Hp) (h : wX7_may_58 k v1 v2 v3 σ) : zV x σ 58 [(0, za x (17)), (1, .int (zI (v1))), (2, .int (zI (v2))), (3, .int (zI (v3)))] [] := by
  unfold wX7_may_58 at h
  refine z_aload_n C 0 dX7_may_58 rfl rfl ?_
  refine z_iload_n C 1 dX7_may_59 rfl rfl ?_
  refine z_iload_n C 2 dX7_may_60 rfl rfl ?_
  refine z_iload_n C 3 dX7_may_61 rfl rfl ?_
  refine z_callV (av := fun w => [.int (zI (v1)), .int (zI (v2)), .int (zI (v3))]) C [] cs_X7_isLean (by decide) (fun _ _ => rfl) rfl (mX7_isLean v1 v2 v3  σ _ h) km_X7_112 dX7_may_62 rfl rfl ⟨rfl, rfl⟩ ⟨by decide, by decide⟩ (Nat.le_of_ble_eq_true rfl) (fun rv σ1 hp => ?_)
  obtain ⟨a2, rfl, h⟩ := hp
  change zV x σ1 65 [(0, za x (17)), (1, .int (zI (v1))), (2, .int (zI (v2))), (3, .int (zI (v3)))] [.int (zI (a2))]
  obtain ⟨o3, h⟩ := h
  refine z_if_eq C 72 dX7_may_65 (by decide) o3 (fun c4 => ?_) (fun c4 => ?_)
  · have h := h.1 c4
    refine z_iconst C dX7_may_72 ?_
    exact z_zret C E dX7_may_73 (by decide) ⟨_, rfl, h⟩
  · have h := h.2 c4
    refine z_iconst C dX7_may_68 ?_
    refine z_goto C 73 dX7_may_69 (by decide) ?_
    exact z_zret C E dX7_may_73 (by decide) ⟨_, rfl, h⟩
def wX7_may_38 (k : Int → Hp → Prop) (v1 : Int) (v2 : Int) (v3 : Int) (v4 : Int) (t0 : Int) (σ : Hp) : Prop :=
  zrg t0 ∧ ((t0 = 0 → k 0 σ) ∧ (¬ (t0 = 0) → zrg v4 ∧ ((v4 = 0 → wX7_may_58 k v1 v2 v3 σ) ∧ (¬ (v4 = 0) → wX7_isUnlike v1 σ (fun a6 σ5 => zrg a6 ∧ ((a6 = 0 → k 0 σ5) ∧ (¬ (a6 = 0) → wX7_may_58 k v1 v2 v3 σ5)))))))
set_option maxRecDepth 100000 in
theorem sX7_may_38 {x : Cx} (C : zOk x cX7_may RX7 (some .boolean) (2) (47)) (hN : x.2.2.2.2.1 = 7) {k : Int → Hp → Prop} (E : zEnd x (zPi k x.2.1)) (v1 : Int) (v2 : Int) (v3 : Int) (v4 : Int) (t0 : Int) (σ : Hp) (h : wX7_may_38 k v1 v2 v3 v4 t0 σ) : zV x σ 38 [(0, za x (17)), (1, .int (zI (v1))), (2, .int (zI (v2))), (3, .int (zI (v3))), (4, .int (zI (v4)))] [.int (zI (t0))] := by
  unfold wX7_may_38 at h
  refine z_istore C [(6, .int (zI (t0))), (0, za x (17)), (1, .int (zI (v1))), (2, .int (zI (v2))), (3, .int (zI (v3))), (4, .int (zI (v4)))] dX7_may_38 (by rw [hN]; decide) rfl ?_
  refine z_iload C 0 dX7_may_40 rfl ?_
  obtain ⟨o1, h⟩ := h
  refine z_if_eq C 72 dX7_may_42 (by decide) o1 (fun c2 => ?_) (fun c2 => ?_)
  · have h := h.1 c2
    refine z_iconst C dX7_may_72 ?_
    exact z_zret C E dX7_may_73 (by decide) ⟨_, rfl, h⟩
  · have h := h.2 c2
    refine z_iload C 5 dX7_may_45 rfl ?_
    obtain ⟨o3, h⟩ := h
    refine z_if_eq C 58 dX7_may_47 (by decide) o3 (fun c4 => ?_) (fun c4 => ?_)
    · have h := h.1 c4
      refine z_sub C [1, 2, 3, 4] [(0, za x (17)), (1, .int (zI (v1))), (2, .int (zI (v2))), (3, .int (zI (v3)))] rfl ?_
      exact sX7_may_58 C hN E v1 v2 v3  σ h
    · have h := h.2 c4
      refine z_aload_n C 1 dX7_may_50 rfl rfl ?_
      refine z_iload_n C 2 dX7_may_51 rfl rfl ?_
      refine z_callV (av := fun w => [.int (zI (v1))]) C [] cs_X7_isUnlike (by decide) (fun _ _ => rfl) rfl (mX7_isUnlike v1  σ _ h) km_X7_109 dX7_may_52 rfl rfl ⟨rfl, rfl⟩ ⟨by decide, by decide⟩ (Nat.le_of_ble_eq_true rfl) (fun rv σ5 hp => ?_)
      obtain ⟨a6, rfl, h⟩ := hp
      change zV x σ5 55 [(6, .int (zI (t0))), (0, za x (17)), (1, .int (zI (v1))), (2, .int (zI (v2))), (3, .int (zI (v3))), (4, .int (zI (v4)))] [.int (zI (a6))]
      obtain ⟨o7, h⟩ := h
      refine z_if_eq C 72 dX7_may_55 (by decide) o7 (fun c8 => ?_) (fun c8 => ?_)
      · have h := h.1 c8
        refine z_iconst C dX7_may_72 ?_
        exact z_zret C E dX7_may_73 (by decide) ⟨_, rfl, h⟩
      · have h := h.2 c8
        refine z_sub C [1, 2, 3, 4] [(0, za x (17)), (1, .int (zI (v1))), (2, .int (zI (v2))), (3, .int (zI (v3)))] rfl ?_
        exact sX7_may_58 C hN E v1 v2 v3  σ5 h
def wX7_may (v1 : Int) (v2 : Int) (v3 : Int) (v4 : Int) (v5 : Int) (σ : Hp) (k : Int → Hp → Prop) : Prop :=
  zrg v5 ∧ ((v5 < 0 → wX7_may_38 k v1 v2 v3 v4 1 σ) ∧ (¬ (v5 < 0) → wX7_at v5 v1 σ (fun a4 σ3 => zrg a4 ∧ ((a4 = 15 → wX7_may_38 k v1 v2 v3 v4 1 σ3) ∧ (¬ (a4 = 15) → wX7_at v5 v1 σ3 (fun a8 σ7 => (0 ≤ v1 ∧ v1 < 12) ∧ zrg a8 ∧ zrg (σ7 24 v1.toNat) ∧ ((a8 ≠ σ7 24 v1.toNat → wX7_may_38 k v1 v2 v3 v4 0 σ7) ∧ (¬ (a8 ≠ σ7 24 v1.toNat) → wX7_may_38 k v1 v2 v3 v4 1 σ7))))))))
set_option maxRecDepth 100000 in
theorem mX7_may (v1 : Int) (v2 : Int) (v3 : Int) (v4 : Int) (v5 : Int) (σ : Hp) (k : Int → Hp → Prop) (h : wX7_may v1 v2 v3 v4 v5 σ k) (l : Launch) : zMt l yX7_may cX7_may 7 (some .boolean) { frames := 2, cells := 0, slots := 0, locals := 47 } (fun w => [.ref (w.2.1 (17)), .int (zI (v1)), .int (zI (v2)), .int (zI (v3)), .int (zI (v4)), .int (zI (v5))]) σ (zPi k) := by
  refine zMt_of (plainFor_of_name (by decide)) (fun w => Nat.le_of_ble_eq_true rfl) (fun x hl hN C E => ?_)
  change zV x σ 0 [(0, za x (17)), (1, .int (zI (v1))), (2, .int (zI (v2))), (3, .int (zI (v3))), (4, .int (zI (v4))), (5, .int (zI (v5)))] []
  change zOk x cX7_may RX7 (some .boolean) (2) (47) at C
  unfold wX7_may at h
  refine z_iload C 5 dX7_may_0 rfl ?_
  obtain ⟨o1, h⟩ := h
  refine z_if_lt C 33 dX7_may_2 (by decide) o1 (fun c2 => ?_) (fun c2 => ?_)
  · have h := h.1 c2
    refine z_iconst C dX7_may_33 ?_
    refine z_goto C 38 dX7_may_34 (by decide) ?_
    refine z_sub C [0, 1, 2, 3, 4] [(0, za x (17)), (1, .int (zI (v1))), (2, .int (zI (v2))), (3, .int (zI (v3))), (4, .int (zI (v4)))] rfl ?_
    exact sX7_may_38 C hN E v1 v2 v3 v4 1  σ h
  · have h := h.2 c2
    refine z_aload_n C 0 dX7_may_5 rfl rfl ?_
    refine z_iload C 5 dX7_may_6 rfl ?_
    refine z_iload_n C 1 dX7_may_8 rfl rfl ?_
    refine z_callV (av := fun w => [.int (zI (v5)), .int (zI (v1))]) C [] cs_X7_at (by decide) (fun _ _ => rfl) rfl (mX7_at v5 v1  σ _ h) km_X7_79 dX7_may_9 rfl rfl ⟨rfl, rfl⟩ ⟨by decide, by decide⟩ (Nat.le_of_ble_eq_true rfl) (fun rv σ3 hp => ?_)
    obtain ⟨a4, rfl, h⟩ := hp
    change zV x σ3 12 [(0, za x (17)), (1, .int (zI (v1))), (2, .int (zI (v2))), (3, .int (zI (v3))), (4, .int (zI (v4))), (5, .int (zI (v5)))] [.int (zI (a4))]
    refine z_bipush C dX7_may_12 rfl ?_
    obtain ⟨o5, h⟩ := h
    refine z_icmp_eq C 33 dX7_may_14 (by decide) o5 (zrg_d rfl) (fun c6 => ?_) (fun c6 => ?_)
    · have h := h.1 c6
      refine z_iconst C dX7_may_33 ?_
      refine z_goto C 38 dX7_may_34 (by decide) ?_
      refine z_sub C [0, 1, 2, 3, 4] [(0, za x (17)), (1, .int (zI (v1))), (2, .int (zI (v2))), (3, .int (zI (v3))), (4, .int (zI (v4)))] rfl ?_
      exact sX7_may_38 C hN E v1 v2 v3 v4 1  σ3 h
    · have h := h.2 c6
      refine z_aload_n C 0 dX7_may_17 rfl rfl ?_
      refine z_iload C 5 dX7_may_18 rfl ?_
      refine z_iload_n C 1 dX7_may_20 rfl rfl ?_
      refine z_callV (av := fun w => [.int (zI (v5)), .int (zI (v1))]) C [] cs_X7_at (by decide) (fun _ _ => rfl) rfl (mX7_at v5 v1  σ3 _ h) km_X7_79 dX7_may_21 rfl rfl ⟨rfl, rfl⟩ ⟨by decide, by decide⟩ (Nat.le_of_ble_eq_true rfl) (fun rv σ7 hp => ?_)
      obtain ⟨a8, rfl, h⟩ := hp
      change zV x σ7 24 [(0, za x (17)), (1, .int (zI (v1))), (2, .int (zI (v2))), (3, .int (zI (v3))), (4, .int (zI (v4))), (5, .int (zI (v5)))] [.int (zI (a8))]
      refine z_aload_n C 0 dX7_may_24 rfl rfl ?_
      refine g_X7_8 C kf_X7_29 dX7_may_25 ?_
      refine z_iload_n C 1 dX7_may_28 rfl rfl ?_
      obtain ⟨o9, h⟩ := h
      refine z_iald C ia_24 dX7_may_29 o9.1 o9.2 ?_
      obtain ⟨o10, h⟩ := h
      obtain ⟨o11, h⟩ := h
      refine z_icmp_ne C 37 dX7_may_30 (by decide) o10 o11 (fun c12 => ?_) (fun c12 => ?_)
      · have h := h.1 c12
        refine z_iconst C dX7_may_37 ?_
        refine z_sub C [0, 1, 2, 3, 4] [(0, za x (17)), (1, .int (zI (v1))), (2, .int (zI (v2))), (3, .int (zI (v3))), (4, .int (zI (v4)))] rfl ?_
        exact sX7_may_38 C hN E v1 v2 v3 v4 0  σ7 h
      · have h := h.2 c12
        refine z_iconst C dX7_may_33 ?_
        refine z_goto C 38 dX7_may_34 (by decide) ?_
        refine z_sub C [0, 1, 2, 3, 4] [(0, za x (17)), (1, .int (zI (v1))), (2, .int (zI (v2))), (3, .int (zI (v3))), (4, .int (zI (v4)))] rfl ?_
        exact sX7_may_38 C hN E v1 v2 v3 v4 1  σ7 h
def wX7_lays_18 (k : Int → Hp → Prop) : Nat → Int → Int → Int → Int → Int → Int → Int → Int → Hp → Prop
  | 0, _, _, _, _, _, _, _, _, _ => False
  | n + 1, v1, v2, v3, v4, v5, v6, v7, v8, σ => zrg v8 ∧ ((v8 < 0 → k v7 σ) ∧ (¬ (v8 < 0) → (0 ≤ v8 ∧ v8 < 12) ∧ zrg ((zst σ 24 v8.toNat ((σ 24 v8.toNat) + 1)) 24 v8.toNat) ∧ zrg v2 ∧ (((zst σ 24 v8.toNat ((σ 24 v8.toNat) + 1)) 24 v8.toNat ≠ v2 → wX7_may v8 v2 v3 v4 v5 (zst σ 24 v8.toNat ((σ 24 v8.toNat) + 1)) (fun a8 σ7 => zrg a8 ∧ ((a8 = 0 → wX7_lays_18 k n v1 v2 v3 v4 v5 v6 v7 v8 σ7) ∧ (¬ (a8 = 0) → zrg (v1 - 1) ∧ ((v1 - 1 ≤ v8 → zrg v7 ∧ zrg v6 ∧ ((v7 ≠ v6 → wX7_lays_18 k n v1 v2 v3 v4 v5 v6 (v7 + 1) v8 σ7) ∧ (¬ (v7 ≠ v6) → k v7 (zst σ7 17 9 1)))) ∧ (¬ (v1 - 1 ≤ v8) → (0 ≤ v8 + 1 ∧ v8 + 1 < 12) ∧ wX7_lays_18 k n v1 v2 v3 v4 v5 v6 v7 (v8 + 1) (zst σ7 24 (v8 + 1).toNat ((-1))))))))) ∧ (¬ ((zst σ 24 v8.toNat ((σ 24 v8.toNat) + 1)) 24 v8.toNat ≠ v2) → wX7_lays_18 k n v1 v2 v3 v4 v5 v6 v7 (v8 + (-1)) (zst σ 24 v8.toNat ((σ 24 v8.toNat) + 1))))))
set_option maxRecDepth 100000 in
theorem sX7_lays_18 {x : Cx} (C : zOk x cX7_lays RX7 (some .int) (3) (73)) (hN : x.2.2.2.2.1 = 9) {k : Int → Hp → Prop} (E : zEnd x (zPi k x.2.1)) : ∀ (n : Nat) (v1 : Int) (v2 : Int) (v3 : Int) (v4 : Int) (v5 : Int) (v6 : Int) (v7 : Int) (v8 : Int) (σ : Hp), wX7_lays_18 k n v1 v2 v3 v4 v5 v6 v7 v8 σ → zV x σ 18 [(0, za x (17)), (1, .int (zI (v1))), (2, .int (zI (v2))), (3, .int (zI (v3))), (4, .int (zI (v4))), (5, .int (zI (v5))), (6, .int (zI (v6))), (7, .int (zI (v7))), (8, .int (zI (v8)))] [] := by
  intro n
  induction n with
  | zero => intro _ _ _ _ _ _ _ _ _ h; exact h.elim
  | succ n ih =>
    intro v1 v2 v3 v4 v5 v6 v7 v8 σ h
    unfold wX7_lays_18 at h
    refine z_iload C 8 dX7_lays_18 rfl ?_
    obtain ⟨o1, h⟩ := h
    refine z_if_lt C 109 dX7_lays_20 (by decide) o1 (fun c2 => ?_) (fun c2 => ?_)
    · have h := h.1 c2
      refine z_iload C 7 dX7_lays_109 rfl ?_
      exact z_iret C E dX7_lays_111 ⟨_, rfl, h⟩
    · have h := h.2 c2
      refine z_aload_n C 0 dX7_lays_23 rfl rfl ?_
      refine g_X7_8 C kf_X7_29 dX7_lays_24 ?_
      refine z_iload C 8 dX7_lays_27 rfl ?_
      refine z_dup2 C dX7_lays_29 rfl rfl ?_
      obtain ⟨o3, h⟩ := h
      refine z_iald C ia_24 dX7_lays_30 o3.1 o3.2 ?_
      refine z_iconst C dX7_lays_31 ?_
      refine z_iadd C dX7_lays_32 ?_
      refine z_iast C ia_24 dX7_lays_33 o3.1 o3.2 ?_
      refine z_aload_n C 0 dX7_lays_34 rfl rfl ?_
      refine g_X7_8 C kf_X7_29 dX7_lays_35 ?_
      refine z_iload C 8 dX7_lays_38 rfl ?_
      refine z_iald C ia_24 dX7_lays_40 o3.1 o3.2 ?_
      refine z_iload_n C 2 dX7_lays_41 rfl rfl ?_
      obtain ⟨o4, h⟩ := h
      obtain ⟨o5, h⟩ := h
      refine z_icmp_ne C 51 dX7_lays_42 (by decide) o4 o5 (fun c6 => ?_) (fun c6 => ?_)
      · have h := h.1 c6
        refine z_aload_n C 0 dX7_lays_51 rfl rfl ?_
        refine z_iload C 8 dX7_lays_52 rfl ?_
        refine z_iload_n C 2 dX7_lays_54 rfl rfl ?_
        refine z_iload_n C 3 dX7_lays_55 rfl rfl ?_
        refine z_iload C 4 dX7_lays_56 rfl ?_
        refine z_iload C 5 dX7_lays_58 rfl ?_
        refine z_callV (av := fun w => [.int (zI (v8)), .int (zI (v2)), .int (zI (v3)), .int (zI (v4)), .int (zI (v5))]) C [] cs_X7_may (by decide) (fun _ _ => rfl) rfl (mX7_may v8 v2 v3 v4 v5  (zst σ 24 v8.toNat ((σ 24 v8.toNat) + 1)) _ h) km_X7_118 dX7_lays_60 rfl rfl ⟨rfl, rfl⟩ ⟨by decide, by decide⟩ (Nat.le_of_ble_eq_true rfl) (fun rv σ7 hp => ?_)
        obtain ⟨a8, rfl, h⟩ := hp
        change zV x σ7 63 [(0, za x (17)), (1, .int (zI (v1))), (2, .int (zI (v2))), (3, .int (zI (v3))), (4, .int (zI (v4))), (5, .int (zI (v5))), (6, .int (zI (v6))), (7, .int (zI (v7))), (8, .int (zI (v8)))] [.int (zI (a8))]
        obtain ⟨o9, h⟩ := h
        refine z_if_eq C 18 dX7_lays_63 (by decide) o9 (fun c10 => ?_) (fun c10 => ?_)
        · have h := h.1 c10
          exact ih v1 v2 v3 v4 v5 v6 v7 v8  σ7 h
        · have h := h.2 c10
          refine z_iload C 8 dX7_lays_66 rfl ?_
          refine z_iload_n C 1 dX7_lays_68 rfl rfl ?_
          refine z_iconst C dX7_lays_69 ?_
          refine z_isub C dX7_lays_70 ?_
          obtain ⟨o11, h⟩ := h
          refine z_icmp_ge C 88 dX7_lays_71 (by decide) o1 o11 (fun c12 => ?_) (fun c12 => ?_)
          · have h := h.1 c12
            refine z_iload C 7 dX7_lays_88 rfl ?_
            refine z_iload C 6 dX7_lays_90 rfl ?_
            obtain ⟨o13, h⟩ := h
            obtain ⟨o14, h⟩ := h
            refine z_icmp_ne C 103 dX7_lays_92 (by decide) o13 o14 (fun c15 => ?_) (fun c15 => ?_)
            · have h := h.1 c15
              refine z_iinc C 7 [(7, .int (zI (v7 + 1))), (0, za x (17)), (1, .int (zI (v1))), (2, .int (zI (v2))), (3, .int (zI (v3))), (4, .int (zI (v4))), (5, .int (zI (v5))), (6, .int (zI (v6))), (8, .int (zI (v8)))] dX7_lays_103 rfl (by rw [hN]; decide) rfl ?_
              refine z_goto C 18 dX7_lays_106 (by decide) ?_
              refine z_sub C [1, 2, 3, 4, 5, 6, 7, 0, 8] [(0, za x (17)), (1, .int (zI (v1))), (2, .int (zI (v2))), (3, .int (zI (v3))), (4, .int (zI (v4))), (5, .int (zI (v5))), (6, .int (zI (v6))), (7, .int (zI (v7 + 1))), (8, .int (zI (v8)))] rfl ?_
              exact ih v1 v2 v3 v4 v5 v6 (v7 + 1) v8  σ7 h
            · have h := h.2 c15
              refine z_aload_n C 0 dX7_lays_95 rfl rfl ?_
              refine z_iconst C dX7_lays_96 ?_
              refine p_X7_9 C kf_X7_115 dX7_lays_97 ?_
              refine z_iload C 7 dX7_lays_100 rfl ?_
              exact z_iret C E dX7_lays_102 ⟨_, rfl, h⟩
          · have h := h.2 c12
            refine z_iinc C 8 [(8, .int (zI (v8 + 1))), (0, za x (17)), (1, .int (zI (v1))), (2, .int (zI (v2))), (3, .int (zI (v3))), (4, .int (zI (v4))), (5, .int (zI (v5))), (6, .int (zI (v6))), (7, .int (zI (v7)))] dX7_lays_74 rfl (by rw [hN]; decide) rfl ?_
            refine z_aload_n C 1 dX7_lays_77 rfl rfl ?_
            refine g_X7_8 C kf_X7_29 dX7_lays_78 ?_
            refine z_iload C 0 dX7_lays_81 rfl ?_
            refine z_iconst C dX7_lays_83 ?_
            obtain ⟨o16, h⟩ := h
            refine z_iast C ia_24 dX7_lays_84 o16.1 o16.2 ?_
            refine z_goto C 18 dX7_lays_85 (by decide) ?_
            refine z_sub C [1, 2, 3, 4, 5, 6, 7, 8, 0] [(0, za x (17)), (1, .int (zI (v1))), (2, .int (zI (v2))), (3, .int (zI (v3))), (4, .int (zI (v4))), (5, .int (zI (v5))), (6, .int (zI (v6))), (7, .int (zI (v7))), (8, .int (zI (v8 + 1)))] rfl ?_
            exact ih v1 v2 v3 v4 v5 v6 v7 (v8 + 1)  (zst σ7 24 (v8 + 1).toNat ((-1))) h
      · have h := h.2 c6
        refine z_iinc C 8 [(8, .int (zI (v8 + (-1)))), (0, za x (17)), (1, .int (zI (v1))), (2, .int (zI (v2))), (3, .int (zI (v3))), (4, .int (zI (v4))), (5, .int (zI (v5))), (6, .int (zI (v6))), (7, .int (zI (v7)))] dX7_lays_45 rfl (by rw [hN]; decide) rfl ?_
        refine z_goto C 18 dX7_lays_48 (by decide) ?_
        refine z_sub C [1, 2, 3, 4, 5, 6, 7, 8, 0] [(0, za x (17)), (1, .int (zI (v1))), (2, .int (zI (v2))), (3, .int (zI (v3))), (4, .int (zI (v4))), (5, .int (zI (v5))), (6, .int (zI (v6))), (7, .int (zI (v7))), (8, .int (zI (v8 + (-1))))] rfl ?_
        exact ih v1 v2 v3 v4 v5 v6 v7 (v8 + (-1))  (zst σ 24 v8.toNat ((σ 24 v8.toNat) + 1)) h
def wX7_lays (v1 : Int) (v2 : Int) (v3 : Int) (v4 : Int) (v5 : Int) (v6 : Int) (σ : Hp) (k : Int → Hp → Prop) : Prop :=
  (0 ≤ (0 : Int) ∧ (0 : Int) < 12) ∧ (∃ N2, wX7_lays_18 k N2 v1 v2 v3 v4 v5 v6 0 0 (zst (zst σ 17 9 0) 24 (Int.toNat 0) ((-1))))
set_option maxRecDepth 100000 in
theorem mX7_lays (v1 : Int) (v2 : Int) (v3 : Int) (v4 : Int) (v5 : Int) (v6 : Int) (σ : Hp) (k : Int → Hp → Prop) (h : wX7_lays v1 v2 v3 v4 v5 v6 σ k) (l : Launch) : zMt l yX7_lays cX7_lays 9 (some .int) { frames := 3, cells := 0, slots := 0, locals := 73 } (fun w => [.ref (w.2.1 (17)), .int (zI (v1)), .int (zI (v2)), .int (zI (v3)), .int (zI (v4)), .int (zI (v5)), .int (zI (v6))]) σ (zPi k) := by
  refine zMt_of (plainFor_of_name (by decide)) (fun w => Nat.le_of_ble_eq_true rfl) (fun x hl hN C E => ?_)
  change zV x σ 0 [(0, za x (17)), (1, .int (zI (v1))), (2, .int (zI (v2))), (3, .int (zI (v3))), (4, .int (zI (v4))), (5, .int (zI (v5))), (6, .int (zI (v6)))] []
  change zOk x cX7_lays RX7 (some .int) (3) (73) at C
  unfold wX7_lays at h
  refine z_iconst C dX7_lays_0 ?_
  refine z_istore C [(7, .int (zI (0))), (0, za x (17)), (1, .int (zI (v1))), (2, .int (zI (v2))), (3, .int (zI (v3))), (4, .int (zI (v4))), (5, .int (zI (v5))), (6, .int (zI (v6)))] dX7_lays_1 (by rw [hN]; decide) rfl ?_
  refine z_iconst C dX7_lays_3 ?_
  refine z_istore C [(8, .int (zI (0))), (7, .int (zI (0))), (0, za x (17)), (1, .int (zI (v1))), (2, .int (zI (v2))), (3, .int (zI (v3))), (4, .int (zI (v4))), (5, .int (zI (v5))), (6, .int (zI (v6)))] dX7_lays_4 (by rw [hN]; decide) rfl ?_
  refine z_aload_n C 2 dX7_lays_6 rfl rfl ?_
  refine z_iconst C dX7_lays_7 ?_
  refine p_X7_9 C kf_X7_115 dX7_lays_8 ?_
  refine z_aload_n C 2 dX7_lays_11 rfl rfl ?_
  refine g_X7_8 C kf_X7_29 dX7_lays_12 ?_
  refine z_iconst C dX7_lays_15 ?_
  refine z_iconst C dX7_lays_16 ?_
  obtain ⟨o1, h⟩ := h
  refine z_iast C ia_24 dX7_lays_17 o1.1 o1.2 ?_
  refine z_sub C [2, 3, 4, 5, 6, 7, 8, 1, 0] [(0, za x (17)), (1, .int (zI (v1))), (2, .int (zI (v2))), (3, .int (zI (v3))), (4, .int (zI (v4))), (5, .int (zI (v5))), (6, .int (zI (v6))), (7, .int (zI (0))), (8, .int (zI (0)))] rfl ?_
  obtain ⟨n2, h⟩ := h
  exact sX7_lays_18 C hN E n2 v1 v2 v3 v4 v5 v6 0 0  (zst (zst σ 17 9 0) 24 (Int.toNat 0) ((-1))) h
def wX7_holding (v1 : Int) (v2 : Int) (v3 : Int) (σ : Hp) (k : Int → Hp → Prop) : Prop :=
  wX7_isRow v1 σ (fun a2 σ1 => zrg a2 ∧ ((a2 = 0 → k ((-1)) σ1) ∧ (¬ (a2 = 0) → zrg v2 ∧ ((v2 < (-1) → k ((-1)) σ1) ∧ (¬ (v2 < (-1)) → wX7_isRow v3 σ1 (fun a8 σ7 => zrg a8 ∧ ((a8 ≠ 0 → (0 ≤ v1 ∧ v1 < 6) ∧ zrg (σ7 18 v1.toNat) ∧ ((8 < σ7 18 v1.toNat → k ((-2)) σ7) ∧ (¬ (8 < σ7 18 v1.toNat) → zrg (σ7 19 v1.toNat) ∧ ((σ7 19 v1.toNat = σ7 18 v1.toNat → wX7_lays (σ7 18 v1.toNat) (σ7 18 v1.toNat) 0 1 v1 v2 σ7 (fun a17 σ16 => wX7_becomes v3 (σ7 18 v1.toNat) (σ7 18 v1.toNat) a17 v2 σ16 (fun a19 σ18 => k a19 σ18))) ∧ (¬ (σ7 19 v1.toNat = σ7 18 v1.toNat) → k ((-2)) σ7))))) ∧ (¬ (a8 ≠ 0) → k ((-1)) σ7))))))))
set_option maxRecDepth 100000 in
theorem mX7_holding (v1 : Int) (v2 : Int) (v3 : Int) (σ : Hp) (k : Int → Hp → Prop) (h : wX7_holding v1 v2 v3 σ k) (l : Launch) : zMt l yX7_holding cX7_holding 5 (some .int) { frames := 4, cells := 0, slots := 0, locals := 101 } (fun w => [.ref (w.2.1 (17)), .int (zI (v1)), .int (zI (v2)), .int (zI (v3))]) σ (zPi k) := by
  refine zMt_of (plainFor_of_name (by decide)) (fun w => Nat.le_of_ble_eq_true rfl) (fun x hl hN C E => ?_)
  change zV x σ 0 [(0, za x (17)), (1, .int (zI (v1))), (2, .int (zI (v2))), (3, .int (zI (v3)))] []
  change zOk x cX7_holding RX7 (some .int) (4) (101) at C
  unfold wX7_holding at h
  refine z_iload_n C 1 dX7_holding_0 rfl rfl ?_
  refine z_callS (av := fun w => [.int (zI (v1))]) C [] cs_X7_isRow (mX7_isRow v1  σ _ h) km_X7_50 dX7_holding_1 rfl rfl ⟨rfl, rfl⟩ ⟨by decide, by decide⟩ (Nat.le_of_ble_eq_true rfl) (fun rv σ1 hp => ?_)
  obtain ⟨a2, rfl, h⟩ := hp
  change zV x σ1 4 [(0, za x (17)), (1, .int (zI (v1))), (2, .int (zI (v2))), (3, .int (zI (v3)))] [.int (zI (a2))]
  obtain ⟨o3, h⟩ := h
  refine z_if_eq C 19 dX7_holding_4 (by decide) o3 (fun c4 => ?_) (fun c4 => ?_)
  · have h := h.1 c4
    refine z_iconst C dX7_holding_19 ?_
    exact z_iret C E dX7_holding_20 ⟨_, rfl, h⟩
  · have h := h.2 c4
    refine z_iload_n C 2 dX7_holding_7 rfl rfl ?_
    refine z_iconst C dX7_holding_8 ?_
    obtain ⟨o5, h⟩ := h
    refine z_icmp_lt C 19 dX7_holding_9 (by decide) o5 (zrg_d rfl) (fun c6 => ?_) (fun c6 => ?_)
    · have h := h.1 c6
      refine z_iconst C dX7_holding_19 ?_
      exact z_iret C E dX7_holding_20 ⟨_, rfl, h⟩
    · have h := h.2 c6
      refine z_iload_n C 3 dX7_holding_12 rfl rfl ?_
      refine z_callS (av := fun w => [.int (zI (v3))]) C [] cs_X7_isRow (mX7_isRow v3  σ1 _ h) km_X7_50 dX7_holding_13 rfl rfl ⟨rfl, rfl⟩ ⟨by decide, by decide⟩ (Nat.le_of_ble_eq_true rfl) (fun rv σ7 hp => ?_)
      obtain ⟨a8, rfl, h⟩ := hp
      change zV x σ7 16 [(0, za x (17)), (1, .int (zI (v1))), (2, .int (zI (v2))), (3, .int (zI (v3)))] [.int (zI (a8))]
      obtain ⟨o9, h⟩ := h
      refine z_if_ne C 21 dX7_holding_16 (by decide) o9 (fun c10 => ?_) (fun c10 => ?_)
      · have h := h.1 c10
        refine z_aload_n C 0 dX7_holding_21 rfl rfl ?_
        refine g_X7_0 C kf_X7_7 dX7_holding_22 ?_
        refine z_iload_n C 1 dX7_holding_25 rfl rfl ?_
        obtain ⟨o11, h⟩ := h
        refine z_iald C ia_18 dX7_holding_26 o11.1 o11.2 ?_
        refine z_istore C [(4, .int (zI (σ7 18 v1.toNat))), (0, za x (17)), (1, .int (zI (v1))), (2, .int (zI (v2))), (3, .int (zI (v3)))] dX7_holding_27 (by rw [hN]; decide) rfl ?_
        refine z_iload C 0 dX7_holding_29 rfl ?_
        refine z_bipush C dX7_holding_31 rfl ?_
        obtain ⟨o12, h⟩ := h
        refine z_icmp_gt C 47 dX7_holding_33 (by decide) o12 (zrg_d rfl) (fun c13 => ?_) (fun c13 => ?_)
        · have h := h.1 c13
          refine z_bipush C dX7_holding_47 rfl ?_
          exact z_iret C E dX7_holding_49 ⟨_, rfl, h⟩
        · have h := h.2 c13
          refine z_aload_n C 1 dX7_holding_36 rfl rfl ?_
          refine g_X7_1 C kf_X7_13 dX7_holding_37 ?_
          refine z_iload_n C 2 dX7_holding_40 rfl rfl ?_
          refine z_iald C ia_19 dX7_holding_41 o11.1 o11.2 ?_
          refine z_iload C 0 dX7_holding_42 rfl ?_
          obtain ⟨o14, h⟩ := h
          refine z_icmp_eq C 50 dX7_holding_44 (by decide) o14 o12 (fun c15 => ?_) (fun c15 => ?_)
          · have h := h.1 c15
            refine z_aload_n C 1 dX7_holding_50 rfl rfl ?_
            refine z_iload_n C 4 dX7_holding_51 rfl rfl ?_
            refine z_iload C 0 dX7_holding_52 rfl ?_
            refine z_iload C 0 dX7_holding_54 rfl ?_
            refine z_aload_n C 1 dX7_holding_56 rfl rfl ?_
            refine z_iload C 0 dX7_holding_57 rfl ?_
            refine z_iload C 0 dX7_holding_59 rfl ?_
            refine z_iconst C dX7_holding_61 ?_
            refine z_iconst C dX7_holding_62 ?_
            refine z_iload_n C 2 dX7_holding_63 rfl rfl ?_
            refine z_iload_n C 3 dX7_holding_64 rfl rfl ?_
            refine z_callV (av := fun w => [.int (zI (σ7 18 v1.toNat)), .int (zI (σ7 18 v1.toNat)), .int (zI (0)), .int (zI (1)), .int (zI (v1)), .int (zI (v2))]) C [.int (zI (σ7 18 v1.toNat)), .int (zI (σ7 18 v1.toNat)), .int (zI (v3)), za x (17)] cs_X7_lays (by decide) (fun _ _ => rfl) rfl (mX7_lays (σ7 18 v1.toNat) (σ7 18 v1.toNat) 0 1 v1 v2  σ7 _ h) km_X7_122 dX7_holding_65 rfl rfl ⟨rfl, rfl⟩ ⟨by decide, by decide⟩ (Nat.le_of_ble_eq_true rfl) (fun rv σ16 hp => ?_)
            obtain ⟨a17, rfl, h⟩ := hp
            change zV x σ16 68 [(4, .int (zI (σ7 18 v1.toNat))), (0, za x (17)), (1, .int (zI (v1))), (2, .int (zI (v2))), (3, .int (zI (v3)))] [.int (zI (a17)), .int (zI (σ7 18 v1.toNat)), .int (zI (σ7 18 v1.toNat)), .int (zI (v3)), za x (17)]
            refine z_iload_n C 3 dX7_holding_68 rfl rfl ?_
            refine z_callV (av := fun w => [.int (zI (v3)), .int (zI (σ7 18 v1.toNat)), .int (zI (σ7 18 v1.toNat)), .int (zI (a17)), .int (zI (v2))]) C [] cs_X7_becomes (by decide) (fun _ _ => rfl) rfl (mX7_becomes v3 (σ7 18 v1.toNat) (σ7 18 v1.toNat) a17 v2  σ16 _ h) km_X7_126 dX7_holding_69 rfl rfl ⟨rfl, rfl⟩ ⟨by decide, by decide⟩ (Nat.le_of_ble_eq_true rfl) (fun rv σ18 hp => ?_)
            obtain ⟨a19, rfl, h⟩ := hp
            change zV x σ18 72 [(4, .int (zI (σ7 18 v1.toNat))), (0, za x (17)), (1, .int (zI (v1))), (2, .int (zI (v2))), (3, .int (zI (v3)))] [.int (zI (a19))]
            exact z_iret C E dX7_holding_72 ⟨_, rfl, h⟩
          · have h := h.2 c15
            refine z_bipush C dX7_holding_47 rfl ?_
            exact z_iret C E dX7_holding_49 ⟨_, rfl, h⟩
      · have h := h.2 c10
        refine z_iconst C dX7_holding_19 ?_
        exact z_iret C E dX7_holding_20 ⟨_, rfl, h⟩
def wX7_isPrime (v0 : Int) (σ : Hp) (k : Int → Hp → Prop) : Prop :=
  zrg v0 ∧ ((v0 = 3 → k 1 σ) ∧ (¬ (v0 = 3) → ((v0 = 5 → k 1 σ) ∧ (¬ (v0 = 5) → ((v0 = 7 → k 1 σ) ∧ (¬ (v0 = 7) → ((v0 = 11 → k 1 σ) ∧ (¬ (v0 = 11) → ((v0 ≠ 13 → k 0 σ) ∧ (¬ (v0 ≠ 13) → k 1 σ))))))))))
set_option maxRecDepth 100000 in
theorem mX7_isPrime (v0 : Int) (σ : Hp) (k : Int → Hp → Prop) (h : wX7_isPrime v0 σ k) (l : Launch) : zMt l yX7_isPrime cX7_isPrime 1 (some .boolean) { frames := 0, cells := 0, slots := 0, locals := 0 } (fun w => [.int (zI (v0))]) σ (zPi k) := by
  refine zMt_of (plainFor_of_name (by decide)) (fun w => Nat.le_of_ble_eq_true rfl) (fun x hl hN C E => ?_)
  change zV x σ 0 [(0, .int (zI (v0)))] []
  change zOk x cX7_isPrime RX7 (some .boolean) (0) (0) at C
  unfold wX7_isPrime at h
  refine z_iload_n C 0 dX7_isPrime_0 rfl rfl ?_
  refine z_iconst C dX7_isPrime_1 ?_
  obtain ⟨o1, h⟩ := h
  refine z_icmp_eq C 28 dX7_isPrime_2 (by decide) o1 (zrg_d rfl) (fun c2 => ?_) (fun c2 => ?_)
  · have h := h.1 c2
    refine z_iconst C dX7_isPrime_28 ?_
    refine z_goto C 33 dX7_isPrime_29 (by decide) ?_
    exact z_zret C E dX7_isPrime_33 (by decide) ⟨_, rfl, h⟩
  · have h := h.2 c2
    refine z_iload_n C 0 dX7_isPrime_5 rfl rfl ?_
    refine z_iconst C dX7_isPrime_6 ?_
    refine z_icmp_eq C 28 dX7_isPrime_7 (by decide) o1 (zrg_d rfl) (fun c3 => ?_) (fun c3 => ?_)
    · have h := h.1 c3
      refine z_iconst C dX7_isPrime_28 ?_
      refine z_goto C 33 dX7_isPrime_29 (by decide) ?_
      exact z_zret C E dX7_isPrime_33 (by decide) ⟨_, rfl, h⟩
    · have h := h.2 c3
      refine z_iload_n C 0 dX7_isPrime_10 rfl rfl ?_
      refine z_bipush C dX7_isPrime_11 rfl ?_
      refine z_icmp_eq C 28 dX7_isPrime_13 (by decide) o1 (zrg_d rfl) (fun c4 => ?_) (fun c4 => ?_)
      · have h := h.1 c4
        refine z_iconst C dX7_isPrime_28 ?_
        refine z_goto C 33 dX7_isPrime_29 (by decide) ?_
        exact z_zret C E dX7_isPrime_33 (by decide) ⟨_, rfl, h⟩
      · have h := h.2 c4
        refine z_iload_n C 0 dX7_isPrime_16 rfl rfl ?_
        refine z_bipush C dX7_isPrime_17 rfl ?_
        refine z_icmp_eq C 28 dX7_isPrime_19 (by decide) o1 (zrg_d rfl) (fun c5 => ?_) (fun c5 => ?_)
        · have h := h.1 c5
          refine z_iconst C dX7_isPrime_28 ?_
          refine z_goto C 33 dX7_isPrime_29 (by decide) ?_
          exact z_zret C E dX7_isPrime_33 (by decide) ⟨_, rfl, h⟩
        · have h := h.2 c5
          refine z_iload_n C 0 dX7_isPrime_22 rfl rfl ?_
          refine z_bipush C dX7_isPrime_23 rfl ?_
          refine z_icmp_ne C 32 dX7_isPrime_25 (by decide) o1 (zrg_d rfl) (fun c6 => ?_) (fun c6 => ?_)
          · have h := h.1 c6
            refine z_iconst C dX7_isPrime_32 ?_
            exact z_zret C E dX7_isPrime_33 (by decide) ⟨_, rfl, h⟩
          · have h := h.2 c6
            refine z_iconst C dX7_isPrime_28 ?_
            refine z_goto C 33 dX7_isPrime_29 (by decide) ?_
            exact z_zret C E dX7_isPrime_33 (by decide) ⟨_, rfl, h⟩
def wX7_lay_117 (k : Int → Hp → Prop) (K88 : Int → Int → Hp → Prop) : Nat → Int → Int → Int → Hp → Prop
  | 0, _, _, _, _ => False
  | n + 1, v1, v2, v3, σ => (0 ≤ v2 ∧ v2 < 6) ∧ zrg v3 ∧ zrg (σ 26 v2.toNat) ∧ ((σ 26 v2.toNat ≤ v3 → K88 v1 (v2 + 1) σ) ∧ (¬ (σ 26 v2.toNat ≤ v3) → (0 ≤ (12 * v2) + v3 ∧ (12 * v2) + v3 < 72) ∧ wX7_lay_117 k K88 n v1 v2 (v3 + 1) (zst σ 20 ((12 * v2) + v3).toNat (σ 25 ((12 * v2) + v3).toNat))))
set_option maxRecDepth 100000 in
theorem sX7_lay_117 {x : Cx} (C : zOk x cX7_lay RX7 (some .int) (2) (49)) (hN : x.2.2.2.2.1 = 4) {k : Int → Hp → Prop} (E : zEnd x (zPi k x.2.1)) {K88 : Int → Int → Hp → Prop} (H88 : ∀ (v1 : Int) (v2 : Int) (σ : Hp), K88 v1 v2 σ → zV x σ 88 [(0, za x (17)), (1, .int (zI (v1))), (2, .int (zI (v2)))] []) : ∀ (n : Nat) (v1 : Int) (v2 : Int) (v3 : Int) (σ : Hp), wX7_lay_117 k K88 n v1 v2 v3 σ → zV x σ 117 [(0, za x (17)), (1, .int (zI (v1))), (2, .int (zI (v2))), (3, .int (zI (v3)))] [] := by
  intro n
  induction n with
  | zero => intro _ _ _ _ h; exact h.elim
  | succ n ih =>
    intro v1 v2 v3 σ h
    unfold wX7_lay_117 at h
    refine z_iload_n C 3 dX7_lay_117 rfl rfl ?_
    refine z_aload_n C 0 dX7_lay_118 rfl rfl ?_
    refine g_X7_11 C kf_X7_35 dX7_lay_119 ?_
    refine z_iload_n C 2 dX7_lay_122 rfl rfl ?_
    obtain ⟨o1, h⟩ := h
    refine z_iald C ia_26 dX7_lay_123 o1.1 o1.2 ?_
    obtain ⟨o2, h⟩ := h
    obtain ⟨o3, h⟩ := h
    refine z_icmp_ge C 155 dX7_lay_124 (by decide) o2 o3 (fun c4 => ?_) (fun c4 => ?_)
    · have h := h.1 c4
      refine z_iinc C 2 [(2, .int (zI (v2 + 1))), (0, za x (17)), (1, .int (zI (v1))), (3, .int (zI (v3)))] dX7_lay_155 rfl (by rw [hN]; decide) rfl ?_
      refine z_goto C 88 dX7_lay_158 (by decide) ?_
      refine z_sub C [1, 2, 0] [(0, za x (17)), (1, .int (zI (v1))), (2, .int (zI (v2 + 1)))] rfl ?_
      exact H88 v1 (v2 + 1)  σ h
    · have h := h.2 c4
      refine z_aload_n C 0 dX7_lay_127 rfl rfl ?_
      refine g_X7_2 C kf_X7_16 dX7_lay_128 ?_
      refine z_bipush C dX7_lay_131 rfl ?_
      refine z_iload_n C 2 dX7_lay_133 rfl rfl ?_
      refine z_imul C dX7_lay_134 ?_
      refine z_iload_n C 3 dX7_lay_135 rfl rfl ?_
      refine z_iadd C dX7_lay_136 ?_
      refine z_aload_n C 0 dX7_lay_137 rfl rfl ?_
      refine g_X7_10 C kf_X7_32 dX7_lay_138 ?_
      refine z_bipush C dX7_lay_141 rfl ?_
      refine z_iload_n C 2 dX7_lay_143 rfl rfl ?_
      refine z_imul C dX7_lay_144 ?_
      refine z_iload_n C 3 dX7_lay_145 rfl rfl ?_
      refine z_iadd C dX7_lay_146 ?_
      obtain ⟨o5, h⟩ := h
      refine z_iald C ia_25 dX7_lay_147 o5.1 o5.2 ?_
      refine z_iast C ia_20 dX7_lay_148 o5.1 o5.2 ?_
      refine z_iinc C 3 [(3, .int (zI (v3 + 1))), (0, za x (17)), (1, .int (zI (v1))), (2, .int (zI (v2)))] dX7_lay_149 rfl (by rw [hN]; decide) rfl ?_
      refine z_goto C 117 dX7_lay_152 (by decide) ?_
      refine z_sub C [1, 2, 3, 0] [(0, za x (17)), (1, .int (zI (v1))), (2, .int (zI (v2))), (3, .int (zI (v3 + 1)))] rfl ?_
      exact ih v1 v2 (v3 + 1)  (zst σ 20 ((12 * v2) + v3).toNat (σ 25 ((12 * v2) + v3).toNat)) h
def wX7_lay_88 (k : Int → Hp → Prop) : Nat → Int → Int → Hp → Prop
  | 0, _, _, _ => False
  | n + 1, v1, v2, σ => zrg v2 ∧ zrg (σ 17 12) ∧ ((σ 17 12 ≤ v2 → k (σ 17 12) σ) ∧ (¬ (σ 17 12 ≤ v2) → (0 ≤ v2 ∧ v2 < 6) ∧ (∃ N5, wX7_lay_117 k (fun v1 v2 σ => wX7_lay_88 k n v1 v2 σ) N5 v1 v2 0 (zst (zst σ 18 v2.toNat (σ 26 v2.toNat)) 19 v2.toNat v1))))
set_option maxRecDepth 100000 in
theorem sX7_lay_88 {x : Cx} (C : zOk x cX7_lay RX7 (some .int) (2) (49)) (hN : x.2.2.2.2.1 = 4) {k : Int → Hp → Prop} (E : zEnd x (zPi k x.2.1)) : ∀ (n : Nat) (v1 : Int) (v2 : Int) (σ : Hp), wX7_lay_88 k n v1 v2 σ → zV x σ 88 [(0, za x (17)), (1, .int (zI (v1))), (2, .int (zI (v2)))] [] := by
  intro n
  induction n with
  | zero => intro _ _ _ h; exact h.elim
  | succ n ih =>
    intro v1 v2 σ h
    unfold wX7_lay_88 at h
    refine z_iload_n C 2 dX7_lay_88 rfl rfl ?_
    refine z_aload_n C 0 dX7_lay_89 rfl rfl ?_
    refine g_X7_12 C kf_X7_64 dX7_lay_90 ?_
    obtain ⟨o1, h⟩ := h
    obtain ⟨o2, h⟩ := h
    refine z_icmp_ge C 161 dX7_lay_93 (by decide) o1 o2 (fun c3 => ?_) (fun c3 => ?_)
    · have h := h.1 c3
      refine z_aload_n C 0 dX7_lay_161 rfl rfl ?_
      refine g_X7_12 C kf_X7_64 dX7_lay_162 ?_
      exact z_iret C E dX7_lay_165 ⟨_, rfl, h⟩
    · have h := h.2 c3
      refine z_aload_n C 0 dX7_lay_96 rfl rfl ?_
      refine g_X7_0 C kf_X7_7 dX7_lay_97 ?_
      refine z_iload_n C 2 dX7_lay_100 rfl rfl ?_
      refine z_aload_n C 0 dX7_lay_101 rfl rfl ?_
      refine g_X7_11 C kf_X7_35 dX7_lay_102 ?_
      refine z_iload_n C 2 dX7_lay_105 rfl rfl ?_
      obtain ⟨o4, h⟩ := h
      refine z_iald C ia_26 dX7_lay_106 o4.1 o4.2 ?_
      refine z_iast C ia_18 dX7_lay_107 o4.1 o4.2 ?_
      refine z_aload_n C 0 dX7_lay_108 rfl rfl ?_
      refine g_X7_1 C kf_X7_13 dX7_lay_109 ?_
      refine z_iload_n C 2 dX7_lay_112 rfl rfl ?_
      refine z_iload_n C 1 dX7_lay_113 rfl rfl ?_
      refine z_iast C ia_19 dX7_lay_114 o4.1 o4.2 ?_
      refine z_iconst C dX7_lay_115 ?_
      refine z_istore_n C [(3, .int (zI (0))), (0, za x (17)), (1, .int (zI (v1))), (2, .int (zI (v2)))] dX7_lay_116 rfl (by rw [hN]; decide) rfl ?_
      refine z_sub C [1, 2, 3, 0] [(0, za x (17)), (1, .int (zI (v1))), (2, .int (zI (v2))), (3, .int (zI (0)))] rfl ?_
      obtain ⟨n5, h⟩ := h
      exact sX7_lay_117 C hN E (by intro v1 v2 σ h; exact ih v1 v2  σ h) n5 v1 v2 0  (zst (zst σ 18 v2.toNat (σ 26 v2.toNat)) 19 v2.toNat v1) h
def wX7_lay_38 (k : Int → Hp → Prop) (K28 : Int → Int → Hp → Prop) : Nat → Int → Int → Int → Hp → Prop
  | 0, _, _, _, _ => False
  | n + 1, v1, v2, v3, σ => (0 ≤ v2 ∧ v2 < 6) ∧ zrg v3 ∧ zrg (σ 26 v2.toNat) ∧ ((σ 26 v2.toNat ≤ v3 → K28 v1 (v2 + 1) σ) ∧ (¬ (σ 26 v2.toNat ≤ v3) → (0 ≤ (12 * v2) + v3 ∧ (12 * v2) + v3 < 72) ∧ zrg (σ 25 ((12 * v2) + v3).toNat) ∧ zrg v1 ∧ wX7_in (σ 25 ((12 * v2) + v3).toNat) v1 14 σ (fun a9 σ8 => zrg a9 ∧ ((a9 = 0 → wX7_lay_38 k K28 n v1 v2 (v3 + 1) σ8) ∧ (¬ (a9 = 0) → k ((-2)) σ8)))))
set_option maxRecDepth 100000 in
theorem sX7_lay_38 {x : Cx} (C : zOk x cX7_lay RX7 (some .int) (2) (49)) (hN : x.2.2.2.2.1 = 4) {k : Int → Hp → Prop} (E : zEnd x (zPi k x.2.1)) {K28 : Int → Int → Hp → Prop} (H28 : ∀ (v1 : Int) (v2 : Int) (σ : Hp), K28 v1 v2 σ → zV x σ 28 [(0, za x (17)), (1, .int (zI (v1))), (2, .int (zI (v2)))] []) : ∀ (n : Nat) (v1 : Int) (v2 : Int) (v3 : Int) (σ : Hp), wX7_lay_38 k K28 n v1 v2 v3 σ → zV x σ 38 [(0, za x (17)), (1, .int (zI (v1))), (2, .int (zI (v2))), (3, .int (zI (v3)))] [] := by
  intro n
  induction n with
  | zero => intro _ _ _ _ h; exact h.elim
  | succ n ih =>
    intro v1 v2 v3 σ h
    unfold wX7_lay_38 at h
    refine z_iload_n C 3 dX7_lay_38 rfl rfl ?_
    refine z_aload_n C 0 dX7_lay_39 rfl rfl ?_
    refine g_X7_11 C kf_X7_35 dX7_lay_40 ?_
    refine z_iload_n C 2 dX7_lay_43 rfl rfl ?_
    obtain ⟨o1, h⟩ := h
    refine z_iald C ia_26 dX7_lay_44 o1.1 o1.2 ?_
    obtain ⟨o2, h⟩ := h
    obtain ⟨o3, h⟩ := h
    refine z_icmp_ge C 80 dX7_lay_45 (by decide) o2 o3 (fun c4 => ?_) (fun c4 => ?_)
    · have h := h.1 c4
      refine z_iinc C 2 [(2, .int (zI (v2 + 1))), (0, za x (17)), (1, .int (zI (v1))), (3, .int (zI (v3)))] dX7_lay_80 rfl (by rw [hN]; decide) rfl ?_
      refine z_goto C 28 dX7_lay_83 (by decide) ?_
      refine z_sub C [1, 2, 0] [(0, za x (17)), (1, .int (zI (v1))), (2, .int (zI (v2 + 1)))] rfl ?_
      exact H28 v1 (v2 + 1)  σ h
    · have h := h.2 c4
      refine z_aload_n C 0 dX7_lay_48 rfl rfl ?_
      refine g_X7_10 C kf_X7_32 dX7_lay_49 ?_
      refine z_bipush C dX7_lay_52 rfl ?_
      refine z_iload_n C 2 dX7_lay_54 rfl rfl ?_
      refine z_imul C dX7_lay_55 ?_
      refine z_iload_n C 3 dX7_lay_56 rfl rfl ?_
      refine z_iadd C dX7_lay_57 ?_
      obtain ⟨o5, h⟩ := h
      refine z_iald C ia_25 dX7_lay_58 o5.1 o5.2 ?_
      obtain ⟨o6, h⟩ := h
      refine z_i2l C dX7_lay_59 o6 ?_
      refine z_iload_n C 1 dX7_lay_60 rfl rfl ?_
      obtain ⟨o7, h⟩ := h
      refine z_i2l C dX7_lay_61 o7 ?_
      refine z_ldc2 (z := 14) C kl_X7_75 rfl dX7_lay_62 ?_
      refine z_callS (av := fun w => [.long (zJ (σ 25 ((12 * v2) + v3).toNat)), .long (zJ (v1)), .long (zJ (14))]) C [] cs_X7_in (mX7_in (σ 25 ((12 * v2) + v3).toNat) v1 14  σ _ h) km_X7_46 dX7_lay_65 rfl rfl ⟨rfl, rfl⟩ ⟨by decide, by decide⟩ (Nat.le_of_ble_eq_true rfl) (fun rv σ8 hp => ?_)
      obtain ⟨a9, rfl, h⟩ := hp
      change zV x σ8 68 [(0, za x (17)), (1, .int (zI (v1))), (2, .int (zI (v2))), (3, .int (zI (v3)))] [.int (zI (a9))]
      obtain ⟨o10, h⟩ := h
      refine z_if_eq C 74 dX7_lay_68 (by decide) o10 (fun c11 => ?_) (fun c11 => ?_)
      · have h := h.1 c11
        refine z_iinc C 3 [(3, .int (zI (v3 + 1))), (0, za x (17)), (1, .int (zI (v1))), (2, .int (zI (v2)))] dX7_lay_74 rfl (by rw [hN]; decide) rfl ?_
        refine z_goto C 38 dX7_lay_77 (by decide) ?_
        refine z_sub C [1, 2, 3, 0] [(0, za x (17)), (1, .int (zI (v1))), (2, .int (zI (v2))), (3, .int (zI (v3 + 1)))] rfl ?_
        exact ih v1 v2 (v3 + 1)  σ8 h
      · have h := h.2 c11
        refine z_bipush C dX7_lay_71 rfl ?_
        exact z_iret C E dX7_lay_73 ⟨_, rfl, h⟩
def wX7_lay_28 (k : Int → Hp → Prop) : Nat → Int → Int → Hp → Prop
  | 0, _, _, _ => False
  | n + 1, v1, v2, σ => zrg v2 ∧ zrg (σ 17 12) ∧ ((σ 17 12 ≤ v2 → (∃ N4, wX7_lay_88 k N4 v1 0 σ)) ∧ (¬ (σ 17 12 ≤ v2) → (∃ N5, wX7_lay_38 k (fun v1 v2 σ => wX7_lay_28 k n v1 v2 σ) N5 v1 v2 0 σ)))
set_option maxRecDepth 100000 in
theorem sX7_lay_28 {x : Cx} (C : zOk x cX7_lay RX7 (some .int) (2) (49)) (hN : x.2.2.2.2.1 = 4) {k : Int → Hp → Prop} (E : zEnd x (zPi k x.2.1)) : ∀ (n : Nat) (v1 : Int) (v2 : Int) (σ : Hp), wX7_lay_28 k n v1 v2 σ → zV x σ 28 [(0, za x (17)), (1, .int (zI (v1))), (2, .int (zI (v2)))] [] := by
  intro n
  induction n with
  | zero => intro _ _ _ h; exact h.elim
  | succ n ih =>
    intro v1 v2 σ h
    unfold wX7_lay_28 at h
    refine z_iload_n C 2 dX7_lay_28 rfl rfl ?_
    refine z_aload_n C 0 dX7_lay_29 rfl rfl ?_
    refine g_X7_12 C kf_X7_64 dX7_lay_30 ?_
    obtain ⟨o1, h⟩ := h
    obtain ⟨o2, h⟩ := h
    refine z_icmp_ge C 86 dX7_lay_33 (by decide) o1 o2 (fun c3 => ?_) (fun c3 => ?_)
    · have h := h.1 c3
      refine z_iconst C dX7_lay_86 ?_
      refine z_istore_n C [(2, .int (zI (0))), (0, za x (17)), (1, .int (zI (v1)))] dX7_lay_87 rfl (by rw [hN]; decide) rfl ?_
      refine z_sub C [1, 2, 0] [(0, za x (17)), (1, .int (zI (v1))), (2, .int (zI (0)))] rfl ?_
      obtain ⟨n4, h⟩ := h
      exact sX7_lay_88 C hN E n4 v1 0  σ h
    · have h := h.2 c3
      refine z_iconst C dX7_lay_36 ?_
      refine z_istore_n C [(3, .int (zI (0))), (0, za x (17)), (1, .int (zI (v1))), (2, .int (zI (v2)))] dX7_lay_37 rfl (by rw [hN]; decide) rfl ?_
      refine z_sub C [1, 2, 3, 0] [(0, za x (17)), (1, .int (zI (v1))), (2, .int (zI (v2))), (3, .int (zI (0)))] rfl ?_
      obtain ⟨n5, h⟩ := h
      exact sX7_lay_38 C hN E (by intro v1 v2 σ h; exact ih v1 v2  σ h) n5 v1 v2 0  σ h
def wX7_lay (v1 : Int) (σ : Hp) (k : Int → Hp → Prop) : Prop :=
  zrg v1 ∧ wX7_in v1 1 12 σ (fun a3 σ2 => zrg a3 ∧ ((a3 ≠ 0 → wX7_fault  σ2 (fun a7 σ6 => zrg a7 ∧ ((a7 = (-4) → (∃ N10, wX7_lay_28 k N10 v1 0 σ6)) ∧ (¬ (a7 = (-4)) → k ((-2)) σ6)))) ∧ (¬ (a3 ≠ 0) → k ((-1)) σ2)))
set_option maxRecDepth 100000 in
theorem mX7_lay (v1 : Int) (σ : Hp) (k : Int → Hp → Prop) (h : wX7_lay v1 σ k) (l : Launch) : zMt l yX7_lay cX7_lay 4 (some .int) { frames := 2, cells := 0, slots := 0, locals := 49 } (fun w => [.ref (w.2.1 (17)), .int (zI (v1))]) σ (zPi k) := by
  refine zMt_of (plainFor_of_name (by decide)) (fun w => Nat.le_of_ble_eq_true rfl) (fun x hl hN C E => ?_)
  change zV x σ 0 [(0, za x (17)), (1, .int (zI (v1)))] []
  change zOk x cX7_lay RX7 (some .int) (2) (49) at C
  unfold wX7_lay at h
  refine z_iload_n C 1 dX7_lay_0 rfl rfl ?_
  obtain ⟨o1, h⟩ := h
  refine z_i2l C dX7_lay_1 o1 ?_
  refine z_lconst (z := 1) C dX7_lay_2 rfl ?_
  refine z_ldc2 (z := 12) C kl_X7_54 rfl dX7_lay_3 ?_
  refine z_callS (av := fun w => [.long (zJ (v1)), .long (zJ (1)), .long (zJ (12))]) C [] cs_X7_in (mX7_in v1 1 12  σ _ h) km_X7_46 dX7_lay_6 rfl rfl ⟨rfl, rfl⟩ ⟨by decide, by decide⟩ (Nat.le_of_ble_eq_true rfl) (fun rv σ2 hp => ?_)
  obtain ⟨a3, rfl, h⟩ := hp
  change zV x σ2 9 [(0, za x (17)), (1, .int (zI (v1)))] [.int (zI (a3))]
  obtain ⟨o4, h⟩ := h
  refine z_if_ne C 14 dX7_lay_9 (by decide) o4 (fun c5 => ?_) (fun c5 => ?_)
  · have h := h.1 c5
    refine z_aload_n C 0 dX7_lay_14 rfl rfl ?_
    refine z_callV (av := fun w => []) C [] cs_X7_fault (by decide) (fun _ _ => rfl) rfl (mX7_fault   σ2 _ h) km_X7_71 dX7_lay_15 rfl rfl ⟨rfl, rfl⟩ ⟨by decide, by decide⟩ (Nat.le_of_ble_eq_true rfl) (fun rv σ6 hp => ?_)
    obtain ⟨a7, rfl, h⟩ := hp
    change zV x σ6 18 [(0, za x (17)), (1, .int (zI (v1)))] [.int (zI (a7))]
    refine z_bipush C dX7_lay_18 rfl ?_
    obtain ⟨o8, h⟩ := h
    refine z_icmp_eq C 26 dX7_lay_20 (by decide) o8 (zrg_d rfl) (fun c9 => ?_) (fun c9 => ?_)
    · have h := h.1 c9
      refine z_iconst C dX7_lay_26 ?_
      refine z_istore_n C [(2, .int (zI (0))), (0, za x (17)), (1, .int (zI (v1)))] dX7_lay_27 rfl (by rw [hN]; decide) rfl ?_
      refine z_sub C [1, 2, 0] [(0, za x (17)), (1, .int (zI (v1))), (2, .int (zI (0)))] rfl ?_
      obtain ⟨n10, h⟩ := h
      exact sX7_lay_28 C hN E n10 v1 0  σ6 h
    · have h := h.2 c9
      refine z_bipush C dX7_lay_23 rfl ?_
      exact z_iret C E dX7_lay_25 ⟨_, rfl, h⟩
  · have h := h.2 c5
    refine z_iconst C dX7_lay_12 ?_
    exact z_iret C E dX7_lay_13 ⟨_, rfl, h⟩
