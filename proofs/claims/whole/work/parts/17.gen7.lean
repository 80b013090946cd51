def wX7_row_124 (k : Int → Hp → Prop) : Nat → Int → Int → Int → Int → Int → Hp → Prop
  | 0, _, _, _, _, _, _ => False
  | n + 1, v1, v2, v4, v6, v7, σ => zrg v7 ∧ zrg v2 ∧ ((v2 ≤ v7 → k v6 σ) ∧ (¬ (v2 ≤ v7) → (0 ≤ (12 * v1) + v7 ∧ (12 * v1) + v7 < 72) ∧ wX7_row_124 k n v1 v2 v4 v6 (v7 + 1) (zst σ 20 ((12 * v1) + v7).toNat (zLand (zLshr v4 (4 * ((v2 - 1) - v7))) 15))))
set_option maxRecDepth 100000 in
theorem sX7_row_124 {x : Cx} (C : zOk x cX7_row RX7 (some .int) (2) (45)) (hN : x.2.2.2.2.1 = 8) {k : Int → Hp → Prop} (E : zEnd x (zPi k x.2.1)) : ∀ (n : Nat) (v1 : Int) (v2 : Int) (v4 : Int) (v6 : Int) (v7 : Int) (σ : Hp), wX7_row_124 k n v1 v2 v4 v6 v7 σ → zV x σ 124 [(0, za x (17)), (1, .int (zI (v1))), (2, .int (zI (v2))), (4, .long (zJ (v4))), (6, .int (zI (v6))), (7, .int (zI (v7)))] [] := by
  intro n
  induction n with
  | zero => intro _ _ _ _ _ _ h; exact h.elim
  | succ n ih =>
    intro v1 v2 v4 v6 v7 σ h
    unfold wX7_row_124 at h
    refine z_iload C 5 dX7_row_124 rfl ?_
    refine z_iload_n C 2 dX7_row_126 rfl rfl ?_
    obtain ⟨o1, h⟩ := h
    obtain ⟨o2, h⟩ := h
    refine z_icmp_ge C 164 dX7_row_127 (by decide) o1 o2 (fun c3 => ?_) (fun c3 => ?_)
    · have h := h.1 c3
      refine z_iload C 4 dX7_row_164 rfl ?_
      exact z_iret C E dX7_row_166 ⟨_, rfl, h⟩
    · have h := h.2 c3
      refine z_aload_n C 0 dX7_row_130 rfl rfl ?_
      refine g_X7_2 C kf_X7_16 dX7_row_131 ?_
      refine z_bipush C dX7_row_134 rfl ?_
      refine z_iload_n C 1 dX7_row_136 rfl rfl ?_
      refine z_imul C dX7_row_137 ?_
      refine z_iload C 5 dX7_row_138 rfl ?_
      refine z_iadd C dX7_row_140 ?_
      refine z_lload C 3 dX7_row_141 rfl ?_
      refine z_iconst C dX7_row_143 ?_
      refine z_iload_n C 2 dX7_row_144 rfl rfl ?_
      refine z_iconst C dX7_row_145 ?_
      refine z_isub C dX7_row_146 ?_
      refine z_iload C 5 dX7_row_147 rfl ?_
      refine z_isub C dX7_row_149 ?_
      refine z_imul C dX7_row_150 ?_
      refine z_lshr C dX7_row_151 ?_
      refine z_ldc2 (z := 15) C kl_X7_56 rfl dX7_row_152 ?_
      refine z_land C dX7_row_155 ?_
      refine z_l2i C dX7_row_156 ?_
      obtain ⟨o4, h⟩ := h
      refine z_iast C ia_20 dX7_row_157 o4.1 o4.2 ?_
      refine z_iinc C 5 [(7, .int (zI (v7 + 1))), (0, za x (17)), (1, .int (zI (v1))), (2, .int (zI (v2))), (4, .long (zJ (v4))), (6, .int (zI (v6)))] dX7_row_158 rfl (by rw [hN]; decide) rfl ?_
      refine z_goto C 124 dX7_row_161 (by decide) ?_
      refine z_sub C [1, 2, 3, 4, 5, 0] [(0, za x (17)), (1, .int (zI (v1))), (2, .int (zI (v2))), (4, .long (zJ (v4))), (6, .int (zI (v6))), (7, .int (zI (v7 + 1)))] rfl ?_
      exact ih v1 v2 v4 v6 (v7 + 1)  (zst σ 20 ((12 * v1) + v7).toNat (zLand (zLshr v4 (4 * ((v2 - 1) - v7))) 15)) h
def wX7_row_54 (k : Int → Hp → Prop) : Nat → Int → Int → Int → Int → Int → Hp → Prop
  | 0, _, _, _, _, _, _ => False
  | n + 1, v1, v2, v3, v4, v6, σ => zrg v6 ∧ zrg v2 ∧ ((v2 ≤ v6 → (0 ≤ v1 ∧ v1 < 6) ∧ (∃ N5, wX7_row_124 k N5 v1 v2 v4 (σ 18 v1.toNat) 0 (zst (zst σ 18 v1.toNat v2) 19 v1.toNat v3))) ∧ (¬ (v2 ≤ v6) → zrg (zLand (zLshr v4 (4 * ((v2 - 1) - v6))) 15) ∧ ((zLand (zLshr v4 (4 * ((v2 - 1) - v6))) 15 = 15 → wX7_row_54 k n v1 v2 v3 v4 (v6 + 1) σ) ∧ (¬ (zLand (zLshr v4 (4 * ((v2 - 1) - v6))) 15 = 15) → zrg v3 ∧ ((zLand (zLshr v4 (4 * ((v2 - 1) - v6))) 15 < v3 → wX7_row_54 k n v1 v2 v3 v4 (v6 + 1) σ) ∧ (¬ (zLand (zLshr v4 (4 * ((v2 - 1) - v6))) 15 < v3) → k ((-1)) σ))))))
set_option maxRecDepth 100000 in
theorem sX7_row_54 {x : Cx} (C : zOk x cX7_row RX7 (some .int) (2) (45)) (hN : x.2.2.2.2.1 = 8) {k : Int → Hp → Prop} (E : zEnd x (zPi k x.2.1)) : ∀ (n : Nat) (v1 : Int) (v2 : Int) (v3 : Int) (v4 : Int) (v6 : Int) (σ : Hp), wX7_row_54 k n v1 v2 v3 v4 v6 σ → zV x σ 54 [(0, za x (17)), (1, .int (zI (v1))), (2, .int (zI (v2))), (3, .int (zI (v3))), (4, .long (zJ (v4))), (6, .int (zI (v6)))] [] := by
  intro n
  induction n with
  | zero => intro _ _ _ _ _ _ h; exact h.elim
  | succ n ih =>
    intro v1 v2 v3 v4 v6 σ h
    unfold wX7_row_54 at h
    refine z_iload C 5 dX7_row_54 rfl ?_
    refine z_iload_n C 2 dX7_row_56 rfl rfl ?_
    obtain ⟨o1, h⟩ := h
    obtain ⟨o2, h⟩ := h
    refine z_icmp_ge C 99 dX7_row_57 (by decide) o1 o2 (fun c3 => ?_) (fun c3 => ?_)
    · have h := h.1 c3
      refine z_aload_n C 0 dX7_row_99 rfl rfl ?_
      refine g_X7_0 C kf_X7_7 dX7_row_100 ?_
      refine z_iload_n C 1 dX7_row_103 rfl rfl ?_
      obtain ⟨o4, h⟩ := h
      refine z_iald C ia_18 dX7_row_104 o4.1 o4.2 ?_
      refine z_istore C [(6, .int (zI (σ 18 v1.toNat))), (0, za x (17)), (1, .int (zI (v1))), (2, .int (zI (v2))), (3, .int (zI (v3))), (4, .long (zJ (v4)))] dX7_row_105 (by rw [hN]; decide) rfl ?_
      refine z_aload_n C 1 dX7_row_107 rfl rfl ?_
      refine g_X7_0 C kf_X7_7 dX7_row_108 ?_
      refine z_iload_n C 2 dX7_row_111 rfl rfl ?_
      refine z_iload_n C 3 dX7_row_112 rfl rfl ?_
      refine z_iast C ia_18 dX7_row_113 o4.1 o4.2 ?_
      refine z_aload_n C 1 dX7_row_114 rfl rfl ?_
      refine g_X7_1 C kf_X7_13 dX7_row_115 ?_
      refine z_iload_n C 2 dX7_row_118 rfl rfl ?_
      refine z_iload_n C 4 dX7_row_119 rfl rfl ?_
      refine z_iast C ia_19 dX7_row_120 o4.1 o4.2 ?_
      refine z_iconst C dX7_row_121 ?_
      refine z_istore C [(7, .int (zI (0))), (6, .int (zI (σ 18 v1.toNat))), (0, za x (17)), (1, .int (zI (v1))), (2, .int (zI (v2))), (3, .int (zI (v3))), (4, .long (zJ (v4)))] dX7_row_122 (by rw [hN]; decide) rfl ?_
      refine z_sub C [2, 3, 4, 6, 1, 0] [(0, za x (17)), (1, .int (zI (v1))), (2, .int (zI (v2))), (4, .long (zJ (v4))), (6, .int (zI (σ 18 v1.toNat))), (7, .int (zI (0)))] rfl ?_
      obtain ⟨n5, h⟩ := h
      exact sX7_row_124 C hN E n5 v1 v2 v4 (σ 18 v1.toNat) 0  (zst (zst σ 18 v1.toNat v2) 19 v1.toNat v3) h
    · have h := h.2 c3
      refine z_lload C 4 dX7_row_60 rfl ?_
      refine z_iconst C dX7_row_62 ?_
      refine z_iload_n C 2 dX7_row_63 rfl rfl ?_
      refine z_iconst C dX7_row_64 ?_
      refine z_isub C dX7_row_65 ?_
      refine z_iload C 5 dX7_row_66 rfl ?_
      refine z_isub C dX7_row_68 ?_
      refine z_imul C dX7_row_69 ?_
      refine z_lshr C dX7_row_70 ?_
      refine z_ldc2 (z := 15) C kl_X7_56 rfl dX7_row_71 ?_
      refine z_land C dX7_row_74 ?_
      refine z_l2i C dX7_row_75 ?_
      refine z_istore C [(7, .int (zI (zLand (zLshr v4 (4 * ((v2 - 1) - v6))) 15))), (0, za x (17)), (1, .int (zI (v1))), (2, .int (zI (v2))), (3, .int (zI (v3))), (4, .long (zJ (v4))), (6, .int (zI (v6)))] dX7_row_76 (by rw [hN]; decide) rfl ?_
      refine z_iload C 0 dX7_row_78 rfl ?_
      refine z_bipush C dX7_row_80 rfl ?_
      obtain ⟨o6, h⟩ := h
      refine z_icmp_eq C 93 dX7_row_82 (by decide) o6 (zrg_d rfl) (fun c7 => ?_) (fun c7 => ?_)
      · have h := h.1 c7
        refine z_iinc C 6 [(6, .int (zI (v6 + 1))), (7, .int (zI (zLand (zLshr v4 (4 * ((v2 - 1) - v6))) 15))), (0, za x (17)), (1, .int (zI (v1))), (2, .int (zI (v2))), (3, .int (zI (v3))), (4, .long (zJ (v4)))] dX7_row_93 rfl (by rw [hN]; decide) rfl ?_
        refine z_goto C 54 dX7_row_96 (by decide) ?_
        refine z_sub C [2, 3, 4, 5, 6, 0] [(0, za x (17)), (1, .int (zI (v1))), (2, .int (zI (v2))), (3, .int (zI (v3))), (4, .long (zJ (v4))), (6, .int (zI (v6 + 1)))] rfl ?_
        exact ih v1 v2 v3 v4 (v6 + 1)  σ h
      · have h := h.2 c7
        refine z_iload C 0 dX7_row_85 rfl ?_
        refine z_iload_n C 4 dX7_row_87 rfl rfl ?_
        obtain ⟨o8, h⟩ := h
        refine z_icmp_lt C 93 dX7_row_88 (by decide) o6 o8 (fun c9 => ?_) (fun c9 => ?_)
        · have h := h.1 c9
          refine z_iinc C 6 [(6, .int (zI (v6 + 1))), (7, .int (zI (zLand (zLshr v4 (4 * ((v2 - 1) - v6))) 15))), (0, za x (17)), (1, .int (zI (v1))), (2, .int (zI (v2))), (3, .int (zI (v3))), (4, .long (zJ (v4)))] dX7_row_93 rfl (by rw [hN]; decide) rfl ?_
          refine z_goto C 54 dX7_row_96 (by decide) ?_
          refine z_sub C [2, 3, 4, 5, 6, 0] [(0, za x (17)), (1, .int (zI (v1))), (2, .int (zI (v2))), (3, .int (zI (v3))), (4, .long (zJ (v4))), (6, .int (zI (v6 + 1)))] rfl ?_
          exact ih v1 v2 v3 v4 (v6 + 1)  σ h
        · have h := h.2 c9
          refine z_iconst C dX7_row_91 ?_
          exact z_iret C E dX7_row_92 ⟨_, rfl, h⟩
def wX7_row (v1 : Int) (v2 : Int) (v3 : Int) (v4 : Int) (σ : Hp) (k : Int → Hp → Prop) : Prop :=
  wX7_isRow v1 σ (fun a2 σ1 => zrg a2 ∧ ((a2 = 0 → k ((-1)) σ1) ∧ (¬ (a2 = 0) → zrg v2 ∧ wX7_in v2 1 12 σ1 (fun a7 σ6 => zrg a7 ∧ ((a7 = 0 → k ((-1)) σ6) ∧ (¬ (a7 = 0) → zrg v3 ∧ wX7_in v3 1 12 σ6 (fun a12 σ11 => zrg a12 ∧ ((a12 = 0 → k ((-1)) σ11) ∧ (¬ (a12 = 0) → zrl v4 ∧ ((v4 < 0 → k ((-1)) σ11) ∧ (¬ (v4 < 0) → zrl (zLshr v4 (4 * v2)) ∧ ((zLshr v4 (4 * v2) = 0 → (∃ N19, wX7_row_54 k N19 v1 v2 v3 v4 0 σ11)) ∧ (¬ (zLshr v4 (4 * v2) = 0) → k ((-1)) σ11)))))))))))))
set_option maxRecDepth 100000 in
theorem mX7_row (v1 : Int) (v2 : Int) (v3 : Int) (v4 : Int) (σ : Hp) (k : Int → Hp → Prop) (h : wX7_row v1 v2 v3 v4 σ k) (l : Launch) : zMt l yX7_row cX7_row 8 (some .int) { frames := 2, cells := 0, slots := 0, locals := 45 } (fun w => [.ref (w.2.1 (17)), .int (zI (v1)), .int (zI (v2)), .int (zI (v3)), .long (zJ (v4))]) σ (zPi k) := by
  refine zMt_of (plainFor_of_name (by decide)) (fun w => Nat.le_of_ble_eq_true rfl) (fun x hl hN C E => ?_)
  change zV x σ 0 [(0, za x (17)), (1, .int (zI (v1))), (2, .int (zI (v2))), (3, .int (zI (v3))), (4, .long (zJ (v4)))] []
  change zOk x cX7_row RX7 (some .int) (2) (45) at C
  unfold wX7_row at h
  refine z_iload_n C 1 dX7_row_0 rfl rfl ?_
  refine z_callS (av := fun w => [.int (zI (v1))]) C [] cs_X7_isRow (mX7_isRow v1  σ _ h) km_X7_50 dX7_row_1 rfl rfl ⟨rfl, rfl⟩ ⟨by decide, by decide⟩ (Nat.le_of_ble_eq_true rfl) (fun rv σ1 hp => ?_)
  obtain ⟨a2, rfl, h⟩ := hp
  change zV x σ1 4 [(0, za x (17)), (1, .int (zI (v1))), (2, .int (zI (v2))), (3, .int (zI (v3))), (4, .long (zJ (v4)))] [.int (zI (a2))]
  obtain ⟨o3, h⟩ := h
  refine z_if_eq C 49 dX7_row_4 (by decide) o3 (fun c4 => ?_) (fun c4 => ?_)
  · have h := h.1 c4
    refine z_iconst C dX7_row_49 ?_
    exact z_iret C E dX7_row_50 ⟨_, rfl, h⟩
  · have h := h.2 c4
    refine z_iload_n C 2 dX7_row_7 rfl rfl ?_
    obtain ⟨o5, h⟩ := h
    refine z_i2l C dX7_row_8 o5 ?_
    refine z_lconst (z := 1) C dX7_row_9 rfl ?_
    refine z_ldc2 (z := 12) C kl_X7_54 rfl dX7_row_10 ?_
    refine z_callS (av := fun w => [.long (zJ (v2)), .long (zJ (1)), .long (zJ (12))]) C [] cs_X7_in (mX7_in v2 1 12  σ1 _ h) km_X7_46 dX7_row_13 rfl rfl ⟨rfl, rfl⟩ ⟨by decide, by decide⟩ (Nat.le_of_ble_eq_true rfl) (fun rv σ6 hp => ?_)
    obtain ⟨a7, rfl, h⟩ := hp
    change zV x σ6 16 [(0, za x (17)), (1, .int (zI (v1))), (2, .int (zI (v2))), (3, .int (zI (v3))), (4, .long (zJ (v4)))] [.int (zI (a7))]
    obtain ⟨o8, h⟩ := h
    refine z_if_eq C 49 dX7_row_16 (by decide) o8 (fun c9 => ?_) (fun c9 => ?_)
    · have h := h.1 c9
      refine z_iconst C dX7_row_49 ?_
      exact z_iret C E dX7_row_50 ⟨_, rfl, h⟩
    · have h := h.2 c9
      refine z_iload_n C 3 dX7_row_19 rfl rfl ?_
      obtain ⟨o10, h⟩ := h
      refine z_i2l C dX7_row_20 o10 ?_
      refine z_lconst (z := 1) C dX7_row_21 rfl ?_
      refine z_ldc2 (z := 12) C kl_X7_54 rfl dX7_row_22 ?_
      refine z_callS (av := fun w => [.long (zJ (v3)), .long (zJ (1)), .long (zJ (12))]) C [] cs_X7_in (mX7_in v3 1 12  σ6 _ h) km_X7_46 dX7_row_25 rfl rfl ⟨rfl, rfl⟩ ⟨by decide, by decide⟩ (Nat.le_of_ble_eq_true rfl) (fun rv σ11 hp => ?_)
      obtain ⟨a12, rfl, h⟩ := hp
      change zV x σ11 28 [(0, za x (17)), (1, .int (zI (v1))), (2, .int (zI (v2))), (3, .int (zI (v3))), (4, .long (zJ (v4)))] [.int (zI (a12))]
      obtain ⟨o13, h⟩ := h
      refine z_if_eq C 49 dX7_row_28 (by decide) o13 (fun c14 => ?_) (fun c14 => ?_)
      · have h := h.1 c14
        refine z_iconst C dX7_row_49 ?_
        exact z_iret C E dX7_row_50 ⟨_, rfl, h⟩
      · have h := h.2 c14
        refine z_lload C 4 dX7_row_31 rfl ?_
        refine z_lconst (z := 0) C dX7_row_33 rfl ?_
        obtain ⟨o15, h⟩ := h
        refine z_lcmp_lt C 49 dX7_row_34 dX7_row_35 (by decide) o15 (zrl_d rfl) (fun c16 => ?_) (fun c16 => ?_)
        · have h := h.1 c16
          refine z_iconst C dX7_row_49 ?_
          exact z_iret C E dX7_row_50 ⟨_, rfl, h⟩
        · have h := h.2 c16
          refine z_lload C 4 dX7_row_38 rfl ?_
          refine z_iconst C dX7_row_40 ?_
          refine z_iload_n C 2 dX7_row_41 rfl rfl ?_
          refine z_imul C dX7_row_42 ?_
          refine z_lshr C dX7_row_43 ?_
          refine z_lconst (z := 0) C dX7_row_44 rfl ?_
          obtain ⟨o17, h⟩ := h
          refine z_lcmp_eq C 51 dX7_row_45 dX7_row_46 (by decide) o17 (zrl_d rfl) (fun c18 => ?_) (fun c18 => ?_)
          · have h := h.1 c18
            refine z_iconst C dX7_row_51 ?_
            refine z_istore C [(6, .int (zI (0))), (0, za x (17)), (1, .int (zI (v1))), (2, .int (zI (v2))), (3, .int (zI (v3))), (4, .long (zJ (v4)))] dX7_row_52 (by rw [hN]; decide) rfl ?_
            refine z_sub C [1, 2, 3, 4, 5, 0] [(0, za x (17)), (1, .int (zI (v1))), (2, .int (zI (v2))), (3, .int (zI (v3))), (4, .long (zJ (v4))), (6, .int (zI (0)))] rfl ?_
            obtain ⟨n19, h⟩ := h
            exact sX7_row_54 C hN E n19 v1 v2 v3 v4 0  σ11 h
          · have h := h.2 c18
            refine z_iconst C dX7_row_49 ?_
            exact z_iret C E dX7_row_50 ⟨_, rfl, h⟩
def wX7_rows (v1 : Int) (v2 : Int) (v3 : Int) (v4 : Int) (v5 : Int) (σ : Hp) (k : Int → Hp → Prop) : Prop :=
  zrg v1 ∧ wX7_in v1 1 8 σ (fun a3 σ2 => zrg a3 ∧ ((a3 = 0 → k ((-1)) σ2) ∧ (¬ (a3 = 0) → zrg v2 ∧ wX7_in v2 1 6 σ2 (fun a8 σ7 => zrg a8 ∧ ((a8 = 0 → k ((-1)) σ7) ∧ (¬ (a8 = 0) → zrg v3 ∧ wX7_in v3 0 1 σ7 (fun a13 σ12 => zrg a13 ∧ ((a13 = 0 → k ((-1)) σ12) ∧ (¬ (a13 = 0) → zrg v4 ∧ ((v4 < (-1) → k ((-1)) σ12) ∧ (¬ (v4 < (-1)) → wX7_isRow v5 σ12 (fun a19 σ18 => zrg a19 ∧ ((a19 ≠ 0 → wX7_lays v1 v2 v3 0 ((-1)) v4 σ18 (fun a23 σ22 => wX7_becomes v5 v1 v2 a23 v4 σ22 (fun a25 σ24 => k a25 σ24))) ∧ (¬ (a19 ≠ 0) → k ((-1)) σ18))))))))))))))
set_option maxRecDepth 100000 in
theorem mX7_rows (v1 : Int) (v2 : Int) (v3 : Int) (v4 : Int) (v5 : Int) (σ : Hp) (k : Int → Hp → Prop) (h : wX7_rows v1 v2 v3 v4 v5 σ k) (l : Launch) : zMt l yX7_rows cX7_rows 6 (some .int) { frames := 4, cells := 0, slots := 0, locals := 101 } (fun w => [.ref (w.2.1 (17)), .int (zI (v1)), .int (zI (v2)), .int (zI (v3)), .int (zI (v4)), .int (zI (v5))]) σ (zPi k) := by
  refine zMt_of (plainFor_of_name (by decide)) (fun w => Nat.le_of_ble_eq_true rfl) (fun x hl hN C E => ?_)
  change zV x σ 0 [(0, za x (17)), (1, .int (zI (v1))), (2, .int (zI (v2))), (3, .int (zI (v3))), (4, .int (zI (v4))), (5, .int (zI (v5)))] []
  change zOk x cX7_rows RX7 (some .int) (4) (101) at C
  unfold wX7_rows at h
  refine z_iload_n C 1 dX7_rows_0 rfl rfl ?_
  obtain ⟨o1, h⟩ := h
  refine z_i2l C dX7_rows_1 o1 ?_
  refine z_lconst (z := 1) C dX7_rows_2 rfl ?_
  refine z_ldc2 (z := 8) C kl_X7_58 rfl dX7_rows_3 ?_
  refine z_callS (av := fun w => [.long (zJ (v1)), .long (zJ (1)), .long (zJ (8))]) C [] cs_X7_in (mX7_in v1 1 8  σ _ h) km_X7_46 dX7_rows_6 rfl rfl ⟨rfl, rfl⟩ ⟨by decide, by decide⟩ (Nat.le_of_ble_eq_true rfl) (fun rv σ2 hp => ?_)
  obtain ⟨a3, rfl, h⟩ := hp
  change zV x σ2 9 [(0, za x (17)), (1, .int (zI (v1))), (2, .int (zI (v2))), (3, .int (zI (v3))), (4, .int (zI (v4))), (5, .int (zI (v5)))] [.int (zI (a3))]
  obtain ⟨o4, h⟩ := h
  refine z_if_eq C 48 dX7_rows_9 (by decide) o4 (fun c5 => ?_) (fun c5 => ?_)
  · have h := h.1 c5
    refine z_iconst C dX7_rows_48 ?_
    exact z_iret C E dX7_rows_49 ⟨_, rfl, h⟩
  · have h := h.2 c5
    refine z_iload_n C 2 dX7_rows_12 rfl rfl ?_
    obtain ⟨o6, h⟩ := h
    refine z_i2l C dX7_rows_13 o6 ?_
    refine z_lconst (z := 1) C dX7_rows_14 rfl ?_
    refine z_ldc2 (z := 6) C kl_X7_130 rfl dX7_rows_15 ?_
    refine z_callS (av := fun w => [.long (zJ (v2)), .long (zJ (1)), .long (zJ (6))]) C [] cs_X7_in (mX7_in v2 1 6  σ2 _ h) km_X7_46 dX7_rows_18 rfl rfl ⟨rfl, rfl⟩ ⟨by decide, by decide⟩ (Nat.le_of_ble_eq_true rfl) (fun rv σ7 hp => ?_)
    obtain ⟨a8, rfl, h⟩ := hp
    change zV x σ7 21 [(0, za x (17)), (1, .int (zI (v1))), (2, .int (zI (v2))), (3, .int (zI (v3))), (4, .int (zI (v4))), (5, .int (zI (v5)))] [.int (zI (a8))]
    obtain ⟨o9, h⟩ := h
    refine z_if_eq C 48 dX7_rows_21 (by decide) o9 (fun c10 => ?_) (fun c10 => ?_)
    · have h := h.1 c10
      refine z_iconst C dX7_rows_48 ?_
      exact z_iret C E dX7_rows_49 ⟨_, rfl, h⟩
    · have h := h.2 c10
      refine z_iload_n C 3 dX7_rows_24 rfl rfl ?_
      obtain ⟨o11, h⟩ := h
      refine z_i2l C dX7_rows_25 o11 ?_
      refine z_lconst (z := 0) C dX7_rows_26 rfl ?_
      refine z_lconst (z := 1) C dX7_rows_27 rfl ?_
      refine z_callS (av := fun w => [.long (zJ (v3)), .long (zJ (0)), .long (zJ (1))]) C [] cs_X7_in (mX7_in v3 0 1  σ7 _ h) km_X7_46 dX7_rows_28 rfl rfl ⟨rfl, rfl⟩ ⟨by decide, by decide⟩ (Nat.le_of_ble_eq_true rfl) (fun rv σ12 hp => ?_)
      obtain ⟨a13, rfl, h⟩ := hp
      change zV x σ12 31 [(0, za x (17)), (1, .int (zI (v1))), (2, .int (zI (v2))), (3, .int (zI (v3))), (4, .int (zI (v4))), (5, .int (zI (v5)))] [.int (zI (a13))]
      obtain ⟨o14, h⟩ := h
      refine z_if_eq C 48 dX7_rows_31 (by decide) o14 (fun c15 => ?_) (fun c15 => ?_)
      · have h := h.1 c15
        refine z_iconst C dX7_rows_48 ?_
        exact z_iret C E dX7_rows_49 ⟨_, rfl, h⟩
      · have h := h.2 c15
        refine z_iload C 4 dX7_rows_34 rfl ?_
        refine z_iconst C dX7_rows_36 ?_
        obtain ⟨o16, h⟩ := h
        refine z_icmp_lt C 48 dX7_rows_37 (by decide) o16 (zrg_d rfl) (fun c17 => ?_) (fun c17 => ?_)
        · have h := h.1 c17
          refine z_iconst C dX7_rows_48 ?_
          exact z_iret C E dX7_rows_49 ⟨_, rfl, h⟩
        · have h := h.2 c17
          refine z_iload C 5 dX7_rows_40 rfl ?_
          refine z_callS (av := fun w => [.int (zI (v5))]) C [] cs_X7_isRow (mX7_isRow v5  σ12 _ h) km_X7_50 dX7_rows_42 rfl rfl ⟨rfl, rfl⟩ ⟨by decide, by decide⟩ (Nat.le_of_ble_eq_true rfl) (fun rv σ18 hp => ?_)
          obtain ⟨a19, rfl, h⟩ := hp
          change zV x σ18 45 [(0, za x (17)), (1, .int (zI (v1))), (2, .int (zI (v2))), (3, .int (zI (v3))), (4, .int (zI (v4))), (5, .int (zI (v5)))] [.int (zI (a19))]
          obtain ⟨o20, h⟩ := h
          refine z_if_ne C 50 dX7_rows_45 (by decide) o20 (fun c21 => ?_) (fun c21 => ?_)
          · have h := h.1 c21
            refine z_aload_n C 0 dX7_rows_50 rfl rfl ?_
            refine z_iload C 5 dX7_rows_51 rfl ?_
            refine z_iload_n C 1 dX7_rows_53 rfl rfl ?_
            refine z_iload_n C 2 dX7_rows_54 rfl rfl ?_
            refine z_aload_n C 0 dX7_rows_55 rfl rfl ?_
            refine z_iload_n C 1 dX7_rows_56 rfl rfl ?_
            refine z_iload_n C 2 dX7_rows_57 rfl rfl ?_
            refine z_iload_n C 3 dX7_rows_58 rfl rfl ?_
            refine z_iconst C dX7_rows_59 ?_
            refine z_iconst C dX7_rows_60 ?_
            refine z_iload C 4 dX7_rows_61 rfl ?_
            refine z_callV (av := fun w => [.int (zI (v1)), .int (zI (v2)), .int (zI (v3)), .int (zI (0)), .int (zI ((-1))), .int (zI (v4))]) C [.int (zI (v2)), .int (zI (v1)), .int (zI (v5)), za x (17)] cs_X7_lays (by decide) (fun _ _ => rfl) rfl (mX7_lays v1 v2 v3 0 ((-1)) v4  σ18 _ h) km_X7_122 dX7_rows_63 rfl rfl ⟨rfl, rfl⟩ ⟨by decide, by decide⟩ (Nat.le_of_ble_eq_true rfl) (fun rv σ22 hp => ?_)
            obtain ⟨a23, rfl, h⟩ := hp
            change zV x σ22 66 [(0, za x (17)), (1, .int (zI (v1))), (2, .int (zI (v2))), (3, .int (zI (v3))), (4, .int (zI (v4))), (5, .int (zI (v5)))] [.int (zI (a23)), .int (zI (v2)), .int (zI (v1)), .int (zI (v5)), za x (17)]
            refine z_iload C 4 dX7_rows_66 rfl ?_
            refine z_callV (av := fun w => [.int (zI (v5)), .int (zI (v1)), .int (zI (v2)), .int (zI (a23)), .int (zI (v4))]) C [] cs_X7_becomes (by decide) (fun _ _ => rfl) rfl (mX7_becomes v5 v1 v2 a23 v4  σ22 _ h) km_X7_126 dX7_rows_68 rfl rfl ⟨rfl, rfl⟩ ⟨by decide, by decide⟩ (Nat.le_of_ble_eq_true rfl) (fun rv σ24 hp => ?_)
            obtain ⟨a25, rfl, h⟩ := hp
            change zV x σ24 71 [(0, za x (17)), (1, .int (zI (v1))), (2, .int (zI (v2))), (3, .int (zI (v3))), (4, .int (zI (v4))), (5, .int (zI (v5)))] [.int (zI (a25))]
            exact z_iret C E dX7_rows_71 ⟨_, rfl, h⟩
          · have h := h.2 c21
            refine z_iconst C dX7_rows_48 ?_
            exact z_iret C E dX7_rows_49 ⟨_, rfl, h⟩
def wX7_squares (v1 : Int) (v2 : Int) (v3 : Int) (σ : Hp) (k : Int → Hp → Prop) : Prop :=
  zrg v1 ∧ wX7_in v1 1 8 σ (fun a3 σ2 => zrg a3 ∧ ((a3 = 0 → k ((-1)) σ2) ∧ (¬ (a3 = 0) → zrg v2 ∧ ((v2 < (-1) → k ((-1)) σ2) ∧ (¬ (v2 < (-1)) → wX7_isRow v3 σ2 (fun a9 σ8 => zrg a9 ∧ ((a9 ≠ 0 → wX7_lays v1 v1 0 1 ((-1)) v2 σ8 (fun a13 σ12 => wX7_becomes v3 v1 v1 a13 v2 σ12 (fun a15 σ14 => k a15 σ14))) ∧ (¬ (a9 ≠ 0) → k ((-1)) σ8))))))))
set_option maxRecDepth 100000 in
theorem mX7_squares (v1 : Int) (v2 : Int) (v3 : Int) (σ : Hp) (k : Int → Hp → Prop) (h : wX7_squares v1 v2 v3 σ k) (l : Launch) : zMt l yX7_squares cX7_squares 4 (some .int) { frames := 4, cells := 0, slots := 0, locals := 101 } (fun w => [.ref (w.2.1 (17)), .int (zI (v1)), .int (zI (v2)), .int (zI (v3))]) σ (zPi k) := by
  refine zMt_of (plainFor_of_name (by decide)) (fun w => Nat.le_of_ble_eq_true rfl) (fun x hl hN C E => ?_)
  change zV x σ 0 [(0, za x (17)), (1, .int (zI (v1))), (2, .int (zI (v2))), (3, .int (zI (v3)))] []
  change zOk x cX7_squares RX7 (some .int) (4) (101) at C
  unfold wX7_squares at h
  refine z_iload_n C 1 dX7_squares_0 rfl rfl ?_
  obtain ⟨o1, h⟩ := h
  refine z_i2l C dX7_squares_1 o1 ?_
  refine z_lconst (z := 1) C dX7_squares_2 rfl ?_
  refine z_ldc2 (z := 8) C kl_X7_58 rfl dX7_squares_3 ?_
  refine z_callS (av := fun w => [.long (zJ (v1)), .long (zJ (1)), .long (zJ (8))]) C [] cs_X7_in (mX7_in v1 1 8  σ _ h) km_X7_46 dX7_squares_6 rfl rfl ⟨rfl, rfl⟩ ⟨by decide, by decide⟩ (Nat.le_of_ble_eq_true rfl) (fun rv σ2 hp => ?_)
  obtain ⟨a3, rfl, h⟩ := hp
  change zV x σ2 9 [(0, za x (17)), (1, .int (zI (v1))), (2, .int (zI (v2))), (3, .int (zI (v3)))] [.int (zI (a3))]
  obtain ⟨o4, h⟩ := h
  refine z_if_eq C 24 dX7_squares_9 (by decide) o4 (fun c5 => ?_) (fun c5 => ?_)
  · have h := h.1 c5
    refine z_iconst C dX7_squares_24 ?_
    exact z_iret C E dX7_squares_25 ⟨_, rfl, h⟩
  · have h := h.2 c5
    refine z_iload_n C 2 dX7_squares_12 rfl rfl ?_
    refine z_iconst C dX7_squares_13 ?_
    obtain ⟨o6, h⟩ := h
    refine z_icmp_lt C 24 dX7_squares_14 (by decide) o6 (zrg_d rfl) (fun c7 => ?_) (fun c7 => ?_)
    · have h := h.1 c7
      refine z_iconst C dX7_squares_24 ?_
      exact z_iret C E dX7_squares_25 ⟨_, rfl, h⟩
    · have h := h.2 c7
      refine z_iload_n C 3 dX7_squares_17 rfl rfl ?_
      refine z_callS (av := fun w => [.int (zI (v3))]) C [] cs_X7_isRow (mX7_isRow v3  σ2 _ h) km_X7_50 dX7_squares_18 rfl rfl ⟨rfl, rfl⟩ ⟨by decide, by decide⟩ (Nat.le_of_ble_eq_true rfl) (fun rv σ8 hp => ?_)
      obtain ⟨a9, rfl, h⟩ := hp
      change zV x σ8 21 [(0, za x (17)), (1, .int (zI (v1))), (2, .int (zI (v2))), (3, .int (zI (v3)))] [.int (zI (a9))]
      obtain ⟨o10, h⟩ := h
      refine z_if_ne C 26 dX7_squares_21 (by decide) o10 (fun c11 => ?_) (fun c11 => ?_)
      · have h := h.1 c11
        refine z_aload_n C 0 dX7_squares_26 rfl rfl ?_
        refine z_iload_n C 3 dX7_squares_27 rfl rfl ?_
        refine z_iload_n C 1 dX7_squares_28 rfl rfl ?_
        refine z_iload_n C 1 dX7_squares_29 rfl rfl ?_
        refine z_aload_n C 0 dX7_squares_30 rfl rfl ?_
        refine z_iload_n C 1 dX7_squares_31 rfl rfl ?_
        refine z_iload_n C 1 dX7_squares_32 rfl rfl ?_
        refine z_iconst C dX7_squares_33 ?_
        refine z_iconst C dX7_squares_34 ?_
        refine z_iconst C dX7_squares_35 ?_
        refine z_iload_n C 2 dX7_squares_36 rfl rfl ?_
        refine z_callV (av := fun w => [.int (zI (v1)), .int (zI (v1)), .int (zI (0)), .int (zI (1)), .int (zI ((-1))), .int (zI (v2))]) C [.int (zI (v1)), .int (zI (v1)), .int (zI (v3)), za x (17)] cs_X7_lays (by decide) (fun _ _ => rfl) rfl (mX7_lays v1 v1 0 1 ((-1)) v2  σ8 _ h) km_X7_122 dX7_squares_37 rfl rfl ⟨rfl, rfl⟩ ⟨by decide, by decide⟩ (Nat.le_of_ble_eq_true rfl) (fun rv σ12 hp => ?_)
        obtain ⟨a13, rfl, h⟩ := hp
        change zV x σ12 40 [(0, za x (17)), (1, .int (zI (v1))), (2, .int (zI (v2))), (3, .int (zI (v3)))] [.int (zI (a13)), .int (zI (v1)), .int (zI (v1)), .int (zI (v3)), za x (17)]
        refine z_iload_n C 2 dX7_squares_40 rfl rfl ?_
        refine z_callV (av := fun w => [.int (zI (v3)), .int (zI (v1)), .int (zI (v1)), .int (zI (a13)), .int (zI (v2))]) C [] cs_X7_becomes (by decide) (fun _ _ => rfl) rfl (mX7_becomes v3 v1 v1 a13 v2  σ12 _ h) km_X7_126 dX7_squares_41 rfl rfl ⟨rfl, rfl⟩ ⟨by decide, by decide⟩ (Nat.le_of_ble_eq_true rfl) (fun rv σ14 hp => ?_)
        obtain ⟨a15, rfl, h⟩ := hp
        change zV x σ14 44 [(0, za x (17)), (1, .int (zI (v1))), (2, .int (zI (v2))), (3, .int (zI (v3)))] [.int (zI (a15))]
        exact z_iret C E dX7_squares_44 ⟨_, rfl, h⟩
      · have h := h.2 c11
        refine z_iconst C dX7_squares_24 ?_
        exact z_iret C E dX7_squares_25 ⟨_, rfl, h⟩
def wX7_still (σ : Hp) (k : Int → Hp → Prop) : Prop :=
  k (σ 17 5) (zst σ 17 5 0)
set_option maxRecDepth 100000 in
theorem mX7_still (σ : Hp) (k : Int → Hp → Prop) (h : wX7_still  σ k) (l : Launch) : zMt l yX7_still cX7_still 2 (some .int) { frames := 0, cells := 0, slots := 0, locals := 0 } (fun w => [.ref (w.2.1 (17))]) σ (zPi k) := by
  refine zMt_of (plainFor_of_name (by decide)) (fun w => Nat.le_of_ble_eq_true rfl) (fun x hl hN C E => ?_)
  change zV x σ 0 [(0, za x (17))] []
  change zOk x cX7_still RX7 (some .int) (0) (0) at C
  unfold wX7_still at h
  refine z_aload_n C 0 dX7_still_0 rfl rfl ?_
  refine g_X7_5 C kf_X7_164 dX7_still_1 ?_
  refine z_istore_n C [(1, .int (zI (σ 17 5))), (0, za x (17))] dX7_still_4 rfl (by rw [hN]; decide) rfl ?_
  refine z_aload_n C 1 dX7_still_5 rfl rfl ?_
  refine z_iconst C dX7_still_6 ?_
  refine p_X7_5 C kf_X7_164 dX7_still_7 ?_
  refine z_iload_n C 0 dX7_still_10 rfl rfl ?_
  exact z_iret C E dX7_still_11 ⟨_, rfl, h⟩
def wX7_sums_143 (k : Int → Hp → Prop) (K55 : Int → Int → Int → Int → Int → Hp → Prop) (v1 : Int) (v2 : Int) (v3 : Int) (v4 : Int) (v5 : Int) (t0 : Int) (t1 : Int) (σ : Hp) : Prop :=
  (0 ≤ t1 ∧ t1 < 12) ∧ K55 v1 v2 v3 v4 (v5 + 1) (zst σ 24 t1.toNat t0)
set_option maxRecDepth 100000 in
theorem sX7_sums_143 {x : Cx} (C : zOk x cX7_sums RX7 (some .int) (2) (48)) (hN : x.2.2.2.2.1 = 8) {k : Int → Hp → Prop} (E : zEnd x (zPi k x.2.1)) {K55 : Int → Int → Int → Int → Int → Hp → Prop} (H55 : ∀ (v1 : Int) (v2 : Int) (v3 : Int) (v4 : Int) (v5 : Int) (σ : Hp), K55 v1 v2 v3 v4 v5 σ → zV x σ 55 [(0, za x (17)), (1, .int (zI (v1))), (2, .int (zI (v2))), (3, .int (zI (v3))), (4, .int (zI (v4))), (5, .int (zI (v5)))] []) (v1 : Int) (v2 : Int) (v3 : Int) (v4 : Int) (v5 : Int) (t0 : Int) (t1 : Int) (σ : Hp) (h : wX7_sums_143 k K55 v1 v2 v3 v4 v5 t0 t1 σ) : zV x σ 143 [(0, za x (17)), (1, .int (zI (v1))), (2, .int (zI (v2))), (3, .int (zI (v3))), (4, .int (zI (v4))), (5, .int (zI (v5)))] [.int (zI (t0)), .int (zI (t1)), za x (24)] := by
  unfold wX7_sums_143 at h
  obtain ⟨o1, h⟩ := h
  refine z_iast C ia_24 dX7_sums_143 o1.1 o1.2 ?_
  refine z_iinc C 5 [(5, .int (zI (v5 + 1))), (0, za x (17)), (1, .int (zI (v1))), (2, .int (zI (v2))), (3, .int (zI (v3))), (4, .int (zI (v4)))] dX7_sums_144 rfl (by rw [hN]; decide) rfl ?_
  refine z_goto C 55 dX7_sums_147 (by decide) ?_
  refine z_sub C [1, 2, 3, 4, 5, 0] [(0, za x (17)), (1, .int (zI (v1))), (2, .int (zI (v2))), (3, .int (zI (v3))), (4, .int (zI (v4))), (5, .int (zI (v5 + 1)))] rfl ?_
  exact H55 v1 v2 v3 v4 (v5 + 1)  (zst σ 24 t1.toNat t0) h
def wX7_sums_69 (k : Int → Hp → Prop) (K55 : Int → Int → Int → Int → Int → Hp → Prop) : Nat → Int → Int → Int → Int → Int → Int → Int → Hp → Prop
  | 0, _, _, _, _, _, _, _, _ => False
  | n + 1, v1, v2, v3, v4, v5, v6, v7, σ => zrg v7 ∧ zrg (v1 - 2) ∧ ((v1 - 2 ≤ v7 → zrg v6 ∧ ((v6 ≠ 1 → wX7_sums_143 k K55 v1 v2 v3 v4 v5 ((-1)) v5 σ) ∧ (¬ (v6 ≠ 1) → (0 ≤ v5 ∧ v5 < 12) ∧ wX7_sums_143 k K55 v1 v2 v3 v4 v5 (σ 24 v5.toNat) v5 σ))) ∧ (¬ (v1 - 2 ≤ v7) → wX7_power v1 v2 (v5 + 1) σ (fun a8 σ7 => wX7_power v1 v3 (v7 + 1) σ7 (fun a10 σ9 => zrg (a8 + a10) ∧ zrg v1 ∧ 0 < v1 ∧ zrg (Int.tmod (a8 + a10) v1) ∧ ((Int.tmod (a8 + a10) v1 ≠ 1 → wX7_sums_69 k K55 n v1 v2 v3 v4 v5 v6 (v7 + 1) σ9) ∧ (¬ (Int.tmod (a8 + a10) v1 ≠ 1) → (0 ≤ v5 ∧ v5 < 12) ∧ wX7_sums_69 k K55 n v1 v2 v3 v4 v5 (v6 + 1) (v7 + 1) (zst σ9 24 v5.toNat v7)))))))
set_option maxRecDepth 100000 in
theorem sX7_sums_69 {x : Cx} (C : zOk x cX7_sums RX7 (some .int) (2) (48)) (hN : x.2.2.2.2.1 = 8) {k : Int → Hp → Prop} (E : zEnd x (zPi k x.2.1)) {K55 : Int → Int → Int → Int → Int → Hp → Prop} (H55 : ∀ (v1 : Int) (v2 : Int) (v3 : Int) (v4 : Int) (v5 : Int) (σ : Hp), K55 v1 v2 v3 v4 v5 σ → zV x σ 55 [(0, za x (17)), (1, .int (zI (v1))), (2, .int (zI (v2))), (3, .int (zI (v3))), (4, .int (zI (v4))), (5, .int (zI (v5)))] []) : ∀ (n : Nat) (v1 : Int) (v2 : Int) (v3 : Int) (v4 : Int) (v5 : Int) (v6 : Int) (v7 : Int) (σ : Hp), wX7_sums_69 k K55 n v1 v2 v3 v4 v5 v6 v7 σ → zV x σ 69 [(0, za x (17)), (1, .int (zI (v1))), (2, .int (zI (v2))), (3, .int (zI (v3))), (4, .int (zI (v4))), (5, .int (zI (v5))), (6, .int (zI (v6))), (7, .int (zI (v7)))] [] := by
  intro n
  induction n with
  | zero => intro _ _ _ _ _ _ _ _ h; exact h.elim
  | succ n ih =>
    intro v1 v2 v3 v4 v5 v6 v7 σ h
    unfold wX7_sums_69 at h
    refine z_iload C 7 dX7_sums_69 rfl ?_
    refine z_iload_n C 1 dX7_sums_71 rfl rfl ?_
    refine z_iconst C dX7_sums_72 ?_
    refine z_isub C dX7_sums_73 ?_
    obtain ⟨o1, h⟩ := h
    obtain ⟨o2, h⟩ := h
    refine z_icmp_ge C 120 dX7_sums_74 (by decide) o1 o2 (fun c3 => ?_) (fun c3 => ?_)
    · have h := h.1 c3
      refine z_aload_n C 0 dX7_sums_120 rfl rfl ?_
      refine g_X7_8 C kf_X7_29 dX7_sums_121 ?_
      refine z_iload C 5 dX7_sums_124 rfl ?_
      refine z_iload C 6 dX7_sums_126 rfl ?_
      refine z_iconst C dX7_sums_128 ?_
      obtain ⟨o4, h⟩ := h
      refine z_icmp_ne C 142 dX7_sums_129 (by decide) o4 (zrg_d rfl) (fun c5 => ?_) (fun c5 => ?_)
      · have h := h.1 c5
        refine z_iconst C dX7_sums_142 ?_
        refine z_sub C [0, 1, 2, 3, 4, 5] [(0, za x (17)), (1, .int (zI (v1))), (2, .int (zI (v2))), (3, .int (zI (v3))), (4, .int (zI (v4))), (5, .int (zI (v5)))] rfl ?_
        exact sX7_sums_143 C hN E H55 v1 v2 v3 v4 v5 ((-1)) v5  σ h
      · have h := h.2 c5
        refine z_aload_n C 0 dX7_sums_132 rfl rfl ?_
        refine g_X7_8 C kf_X7_29 dX7_sums_133 ?_
        refine z_iload C 5 dX7_sums_136 rfl ?_
        obtain ⟨o6, h⟩ := h
        refine z_iald C ia_24 dX7_sums_138 o6.1 o6.2 ?_
        refine z_goto C 143 dX7_sums_139 (by decide) ?_
        refine z_sub C [0, 1, 2, 3, 4, 5] [(0, za x (17)), (1, .int (zI (v1))), (2, .int (zI (v2))), (3, .int (zI (v3))), (4, .int (zI (v4))), (5, .int (zI (v5)))] rfl ?_
        exact sX7_sums_143 C hN E H55 v1 v2 v3 v4 v5 (σ 24 v5.toNat) v5  σ h
    · have h := h.2 c3
      refine z_iload_n C 1 dX7_sums_77 rfl rfl ?_
      refine z_iload_n C 2 dX7_sums_78 rfl rfl ?_
      refine z_iload C 5 dX7_sums_79 rfl ?_
      refine z_iconst C dX7_sums_81 ?_
      refine z_iadd C dX7_sums_82 ?_
      refine z_callS (av := fun w => [.int (zI (v1)), .int (zI (v2)), .int (zI (v5 + 1))]) C [] cs_X7_power (mX7_power v1 v2 (v5 + 1)  σ _ h) km_X7_144 dX7_sums_83 rfl rfl ⟨rfl, rfl⟩ ⟨by decide, by decide⟩ (Nat.le_of_ble_eq_true rfl) (fun rv σ7 hp => ?_)
      obtain ⟨a8, rfl, h⟩ := hp
      change zV x σ7 86 [(0, za x (17)), (1, .int (zI (v1))), (2, .int (zI (v2))), (3, .int (zI (v3))), (4, .int (zI (v4))), (5, .int (zI (v5))), (6, .int (zI (v6))), (7, .int (zI (v7)))] [.int (zI (a8))]
      refine z_iload_n C 1 dX7_sums_86 rfl rfl ?_
      refine z_iload_n C 3 dX7_sums_87 rfl rfl ?_
      refine z_iload C 7 dX7_sums_88 rfl ?_
      refine z_iconst C dX7_sums_90 ?_
      refine z_iadd C dX7_sums_91 ?_
      refine z_callS (av := fun w => [.int (zI (v1)), .int (zI (v3)), .int (zI (v7 + 1))]) C [.int (zI (a8))] cs_X7_power (mX7_power v1 v3 (v7 + 1)  σ7 _ h) km_X7_144 dX7_sums_92 rfl rfl ⟨rfl, rfl⟩ ⟨by decide, by decide⟩ (Nat.le_of_ble_eq_true rfl) (fun rv σ9 hp => ?_)
      obtain ⟨a10, rfl, h⟩ := hp
      change zV x σ9 95 [(0, za x (17)), (1, .int (zI (v1))), (2, .int (zI (v2))), (3, .int (zI (v3))), (4, .int (zI (v4))), (5, .int (zI (v5))), (6, .int (zI (v6))), (7, .int (zI (v7)))] [.int (zI (a10)), .int (zI (a8))]
      refine z_iadd C dX7_sums_95 ?_
      refine z_iload_n C 1 dX7_sums_96 rfl rfl ?_
      obtain ⟨o11, h⟩ := h
      obtain ⟨o12, h⟩ := h
      obtain ⟨o13, h⟩ := h
      refine z_irem C dX7_sums_97 o11 o12 o13 ?_
      refine z_iconst C dX7_sums_98 ?_
      obtain ⟨o14, h⟩ := h
      refine z_icmp_ne C 114 dX7_sums_99 (by decide) o14 (zrg_d rfl) (fun c15 => ?_) (fun c15 => ?_)
      · have h := h.1 c15
        refine z_iinc C 7 [(7, .int (zI (v7 + 1))), (0, za x (17)), (1, .int (zI (v1))), (2, .int (zI (v2))), (3, .int (zI (v3))), (4, .int (zI (v4))), (5, .int (zI (v5))), (6, .int (zI (v6)))] dX7_sums_114 rfl (by rw [hN]; decide) rfl ?_
        refine z_goto C 69 dX7_sums_117 (by decide) ?_
        refine z_sub C [1, 2, 3, 4, 5, 6, 7, 0] [(0, za x (17)), (1, .int (zI (v1))), (2, .int (zI (v2))), (3, .int (zI (v3))), (4, .int (zI (v4))), (5, .int (zI (v5))), (6, .int (zI (v6))), (7, .int (zI (v7 + 1)))] rfl ?_
        exact ih v1 v2 v3 v4 v5 v6 (v7 + 1)  σ9 h
      · have h := h.2 c15
        refine z_aload_n C 0 dX7_sums_102 rfl rfl ?_
        refine g_X7_8 C kf_X7_29 dX7_sums_103 ?_
        refine z_iload C 5 dX7_sums_106 rfl ?_
        refine z_iload C 7 dX7_sums_108 rfl ?_
        obtain ⟨o16, h⟩ := h
        refine z_iast C ia_24 dX7_sums_110 o16.1 o16.2 ?_
        refine z_iinc C 6 [(6, .int (zI (v6 + 1))), (0, za x (17)), (1, .int (zI (v1))), (2, .int (zI (v2))), (3, .int (zI (v3))), (4, .int (zI (v4))), (5, .int (zI (v5))), (7, .int (zI (v7)))] dX7_sums_111 rfl (by rw [hN]; decide) rfl ?_
        refine z_iinc C 7 [(7, .int (zI (v7 + 1))), (6, .int (zI (v6 + 1))), (0, za x (17)), (1, .int (zI (v1))), (2, .int (zI (v2))), (3, .int (zI (v3))), (4, .int (zI (v4))), (5, .int (zI (v5)))] dX7_sums_114 rfl (by rw [hN]; decide) rfl ?_
        refine z_goto C 69 dX7_sums_117 (by decide) ?_
        refine z_sub C [2, 3, 4, 5, 6, 7, 1, 0] [(0, za x (17)), (1, .int (zI (v1))), (2, .int (zI (v2))), (3, .int (zI (v3))), (4, .int (zI (v4))), (5, .int (zI (v5))), (6, .int (zI (v6 + 1))), (7, .int (zI (v7 + 1)))] rfl ?_
        exact ih v1 v2 v3 v4 v5 (v6 + 1) (v7 + 1)  (zst σ9 24 v5.toNat v7) h
def wX7_sums_55 (k : Int → Hp → Prop) : Nat → Int → Int → Int → Int → Int → Hp → Prop
  | 0, _, _, _, _, _, _ => False
  | n + 1, v1, v2, v3, v4, v5, σ => zrg v5 ∧ zrg (v1 - 2) ∧ ((v1 - 2 ≤ v5 → wX7_made v4 (v1 - 2) σ (fun a5 σ4 => k a5 σ4)) ∧ (¬ (v1 - 2 ≤ v5) → (∃ N6, wX7_sums_69 k (fun v1 v2 v3 v4 v5 σ => wX7_sums_55 k n v1 v2 v3 v4 v5 σ) N6 v1 v2 v3 v4 v5 0 0 σ)))
set_option maxRecDepth 100000 in
theorem sX7_sums_55 {x : Cx} (C : zOk x cX7_sums RX7 (some .int) (2) (48)) (hN : x.2.2.2.2.1 = 8) {k : Int → Hp → Prop} (E : zEnd x (zPi k x.2.1)) : ∀ (n : Nat) (v1 : Int) (v2 : Int) (v3 : Int) (v4 : Int) (v5 : Int) (σ : Hp), wX7_sums_55 k n v1 v2 v3 v4 v5 σ → zV x σ 55 [(0, za x (17)), (1, .int (zI (v1))), (2, .int (zI (v2))), (3, .int (zI (v3))), (4, .int (zI (v4))), (5, .int (zI (v5)))] [] := by
  intro n
  induction n with
  | zero => intro _ _ _ _ _ _ h; exact h.elim
  | succ n ih =>
    intro v1 v2 v3 v4 v5 σ h
    unfold wX7_sums_55 at h
    refine z_iload C 5 dX7_sums_55 rfl ?_
    refine z_iload_n C 1 dX7_sums_57 rfl rfl ?_
    refine z_iconst C dX7_sums_58 ?_
    refine z_isub C dX7_sums_59 ?_
    obtain ⟨o1, h⟩ := h
    obtain ⟨o2, h⟩ := h
    refine z_icmp_ge C 150 dX7_sums_60 (by decide) o1 o2 (fun c3 => ?_) (fun c3 => ?_)
    · have h := h.1 c3
      refine z_aload_n C 0 dX7_sums_150 rfl rfl ?_
      refine z_iload C 4 dX7_sums_151 rfl ?_
      refine z_iload_n C 1 dX7_sums_153 rfl rfl ?_
      refine z_iconst C dX7_sums_154 ?_
      refine z_isub C dX7_sums_155 ?_
      refine z_callV (av := fun w => [.int (zI (v4)), .int (zI (v1 - 2))]) C [] cs_X7_made (by decide) (fun _ _ => rfl) rfl (mX7_made v4 (v1 - 2)  σ _ h) km_X7_148 dX7_sums_156 rfl rfl ⟨rfl, rfl⟩ ⟨by decide, by decide⟩ (Nat.le_of_ble_eq_true rfl) (fun rv σ4 hp => ?_)
      obtain ⟨a5, rfl, h⟩ := hp
      change zV x σ4 159 [(0, za x (17)), (1, .int (zI (v1))), (2, .int (zI (v2))), (3, .int (zI (v3))), (4, .int (zI (v4))), (5, .int (zI (v5)))] [.int (zI (a5))]
      exact z_iret C E dX7_sums_159 ⟨_, rfl, h⟩
    · have h := h.2 c3
      refine z_iconst C dX7_sums_63 ?_
      refine z_istore C [(6, .int (zI (0))), (0, za x (17)), (1, .int (zI (v1))), (2, .int (zI (v2))), (3, .int (zI (v3))), (4, .int (zI (v4))), (5, .int (zI (v5)))] dX7_sums_64 (by rw [hN]; decide) rfl ?_
      refine z_iconst C dX7_sums_66 ?_
      refine z_istore C [(7, .int (zI (0))), (6, .int (zI (0))), (0, za x (17)), (1, .int (zI (v1))), (2, .int (zI (v2))), (3, .int (zI (v3))), (4, .int (zI (v4))), (5, .int (zI (v5)))] dX7_sums_67 (by rw [hN]; decide) rfl ?_
      refine z_sub C [2, 3, 4, 5, 6, 7, 1, 0] [(0, za x (17)), (1, .int (zI (v1))), (2, .int (zI (v2))), (3, .int (zI (v3))), (4, .int (zI (v4))), (5, .int (zI (v5))), (6, .int (zI (0))), (7, .int (zI (0)))] rfl ?_
      obtain ⟨n6, h⟩ := h
      exact sX7_sums_69 C hN E (by intro v1 v2 v3 v4 v5 σ h; exact ih v1 v2 v3 v4 v5  σ h) n6 v1 v2 v3 v4 v5 0 0  σ h
def wX7_sums (v1 : Int) (v2 : Int) (v3 : Int) (v4 : Int) (σ : Hp) (k : Int → Hp → Prop) : Prop :=
  wX7_isPrime v1 σ (fun a2 σ1 => zrg a2 ∧ ((a2 = 0 → k ((-1)) σ1) ∧ (¬ (a2 = 0) → zrg v1 ∧ ((v1 = 3 → k ((-1)) σ1) ∧ (¬ (v1 = 3) → zrg v2 ∧ zrg (v1 - 1) ∧ wX7_in v2 2 (v1 - 1) σ1 (fun a10 σ9 => zrg a10 ∧ ((a10 = 0 → k ((-1)) σ9) ∧ (¬ (a10 = 0) → zrg v3 ∧ wX7_in v3 2 (v1 - 1) σ9 (fun a15 σ14 => zrg a15 ∧ ((a15 = 0 → k ((-1)) σ14) ∧ (¬ (a15 = 0) → wX7_isRow v4 σ14 (fun a19 σ18 => zrg a19 ∧ ((a19 ≠ 0 → (∃ N22, wX7_sums_55 k N22 v1 v2 v3 v4 0 σ18)) ∧ (¬ (a19 ≠ 0) → k ((-1)) σ18))))))))))))))
set_option maxRecDepth 100000 in
theorem mX7_sums (v1 : Int) (v2 : Int) (v3 : Int) (v4 : Int) (σ : Hp) (k : Int → Hp → Prop) (h : wX7_sums v1 v2 v3 v4 σ k) (l : Launch) : zMt l yX7_sums cX7_sums 8 (some .int) { frames := 2, cells := 0, slots := 0, locals := 48 } (fun w => [.ref (w.2.1 (17)), .int (zI (v1)), .int (zI (v2)), .int (zI (v3)), .int (zI (v4))]) σ (zPi k) := by
  refine zMt_of (plainFor_of_name (by decide)) (fun w => Nat.le_of_ble_eq_true rfl) (fun x hl hN C E => ?_)
  change zV x σ 0 [(0, za x (17)), (1, .int (zI (v1))), (2, .int (zI (v2))), (3, .int (zI (v3))), (4, .int (zI (v4)))] []
  change zOk x cX7_sums RX7 (some .int) (2) (48) at C
  unfold wX7_sums at h
  refine z_iload_n C 1 dX7_sums_0 rfl rfl ?_
  refine z_callS (av := fun w => [.int (zI (v1))]) C [] cs_X7_isPrime (mX7_isPrime v1  σ _ h) km_X7_141 dX7_sums_1 rfl rfl ⟨rfl, rfl⟩ ⟨by decide, by decide⟩ (Nat.le_of_ble_eq_true rfl) (fun rv σ1 hp => ?_)
  obtain ⟨a2, rfl, h⟩ := hp
  change zV x σ1 4 [(0, za x (17)), (1, .int (zI (v1))), (2, .int (zI (v2))), (3, .int (zI (v3))), (4, .int (zI (v4)))] [.int (zI (a2))]
  obtain ⟨o3, h⟩ := h
  refine z_if_eq C 50 dX7_sums_4 (by decide) o3 (fun c4 => ?_) (fun c4 => ?_)
  · have h := h.1 c4
    refine z_iconst C dX7_sums_50 ?_
    exact z_iret C E dX7_sums_51 ⟨_, rfl, h⟩
  · have h := h.2 c4
    refine z_iload_n C 1 dX7_sums_7 rfl rfl ?_
    refine z_iconst C dX7_sums_8 ?_
    obtain ⟨o5, h⟩ := h
    refine z_icmp_eq C 50 dX7_sums_9 (by decide) o5 (zrg_d rfl) (fun c6 => ?_) (fun c6 => ?_)
    · have h := h.1 c6
      refine z_iconst C dX7_sums_50 ?_
      exact z_iret C E dX7_sums_51 ⟨_, rfl, h⟩
    · have h := h.2 c6
      refine z_iload_n C 2 dX7_sums_12 rfl rfl ?_
      obtain ⟨o7, h⟩ := h
      refine z_i2l C dX7_sums_13 o7 ?_
      refine z_ldc2 (z := 2) C kl_X7_97 rfl dX7_sums_14 ?_
      refine z_iload_n C 1 dX7_sums_17 rfl rfl ?_
      refine z_iconst C dX7_sums_18 ?_
      refine z_isub C dX7_sums_19 ?_
      obtain ⟨o8, h⟩ := h
      refine z_i2l C dX7_sums_20 o8 ?_
      refine z_callS (av := fun w => [.long (zJ (v2)), .long (zJ (2)), .long (zJ (v1 - 1))]) C [] cs_X7_in (mX7_in v2 2 (v1 - 1)  σ1 _ h) km_X7_46 dX7_sums_21 rfl rfl ⟨rfl, rfl⟩ ⟨by decide, by decide⟩ (Nat.le_of_ble_eq_true rfl) (fun rv σ9 hp => ?_)
      obtain ⟨a10, rfl, h⟩ := hp
      change zV x σ9 24 [(0, za x (17)), (1, .int (zI (v1))), (2, .int (zI (v2))), (3, .int (zI (v3))), (4, .int (zI (v4)))] [.int (zI (a10))]
      obtain ⟨o11, h⟩ := h
      refine z_if_eq C 50 dX7_sums_24 (by decide) o11 (fun c12 => ?_) (fun c12 => ?_)
      · have h := h.1 c12
        refine z_iconst C dX7_sums_50 ?_
        exact z_iret C E dX7_sums_51 ⟨_, rfl, h⟩
      · have h := h.2 c12
        refine z_iload_n C 3 dX7_sums_27 rfl rfl ?_
        obtain ⟨o13, h⟩ := h
        refine z_i2l C dX7_sums_28 o13 ?_
        refine z_ldc2 (z := 2) C kl_X7_97 rfl dX7_sums_29 ?_
        refine z_iload_n C 1 dX7_sums_32 rfl rfl ?_
        refine z_iconst C dX7_sums_33 ?_
        refine z_isub C dX7_sums_34 ?_
        refine z_i2l C dX7_sums_35 o8 ?_
        refine z_callS (av := fun w => [.long (zJ (v3)), .long (zJ (2)), .long (zJ (v1 - 1))]) C [] cs_X7_in (mX7_in v3 2 (v1 - 1)  σ9 _ h) km_X7_46 dX7_sums_36 rfl rfl ⟨rfl, rfl⟩ ⟨by decide, by decide⟩ (Nat.le_of_ble_eq_true rfl) (fun rv σ14 hp => ?_)
        obtain ⟨a15, rfl, h⟩ := hp
        change zV x σ14 39 [(0, za x (17)), (1, .int (zI (v1))), (2, .int (zI (v2))), (3, .int (zI (v3))), (4, .int (zI (v4)))] [.int (zI (a15))]
        obtain ⟨o16, h⟩ := h
        refine z_if_eq C 50 dX7_sums_39 (by decide) o16 (fun c17 => ?_) (fun c17 => ?_)
        · have h := h.1 c17
          refine z_iconst C dX7_sums_50 ?_
          exact z_iret C E dX7_sums_51 ⟨_, rfl, h⟩
        · have h := h.2 c17
          refine z_iload C 4 dX7_sums_42 rfl ?_
          refine z_callS (av := fun w => [.int (zI (v4))]) C [] cs_X7_isRow (mX7_isRow v4  σ14 _ h) km_X7_50 dX7_sums_44 rfl rfl ⟨rfl, rfl⟩ ⟨by decide, by decide⟩ (Nat.le_of_ble_eq_true rfl) (fun rv σ18 hp => ?_)
          obtain ⟨a19, rfl, h⟩ := hp
          change zV x σ18 47 [(0, za x (17)), (1, .int (zI (v1))), (2, .int (zI (v2))), (3, .int (zI (v3))), (4, .int (zI (v4)))] [.int (zI (a19))]
          obtain ⟨o20, h⟩ := h
          refine z_if_ne C 52 dX7_sums_47 (by decide) o20 (fun c21 => ?_) (fun c21 => ?_)
          · have h := h.1 c21
            refine z_iconst C dX7_sums_52 ?_
            refine z_istore C [(5, .int (zI (0))), (0, za x (17)), (1, .int (zI (v1))), (2, .int (zI (v2))), (3, .int (zI (v3))), (4, .int (zI (v4)))] dX7_sums_53 (by rw [hN]; decide) rfl ?_
            refine z_sub C [1, 2, 3, 4, 5, 0] [(0, za x (17)), (1, .int (zI (v1))), (2, .int (zI (v2))), (3, .int (zI (v3))), (4, .int (zI (v4))), (5, .int (zI (0)))] rfl ?_
            obtain ⟨n22, h⟩ := h
            exact sX7_sums_55 C hN E n22 v1 v2 v3 v4 0  σ18 h
          · have h := h.2 c21
            refine z_iconst C dX7_sums_50 ?_
            exact z_iret C E dX7_sums_51 ⟨_, rfl, h⟩
def wX7_told (v1 : Int) (v2 : Int) (σ : Hp) (k : Int → Hp → Prop) : Prop :=
  wX7_isRow v1 σ (fun a2 σ1 => zrg a2 ∧ ((a2 = 0 → k ((-1)) σ1) ∧ (¬ (a2 = 0) → zrg v2 ∧ wX7_in v2 0 13 σ1 (fun a7 σ6 => zrg a7 ∧ ((a7 ≠ 0 → wX7_at v1 (v2 - 2) σ6 (fun a11 σ10 => ((v2 ≠ 0 → ((v2 ≠ 1 → zrg a11 ∧ ((a11 ≠ 15 → k a11 σ10) ∧ (¬ (a11 ≠ 15) → k ((-4)) σ10))) ∧ (¬ (v2 ≠ 1) → (0 ≤ v1 ∧ v1 < 6) ∧ k (σ10 19 v1.toNat) σ10))) ∧ (¬ (v2 ≠ 0) → (0 ≤ v1 ∧ v1 < 6) ∧ k (σ10 18 v1.toNat) σ10)))) ∧ (¬ (a7 ≠ 0) → k ((-1)) σ6))))))
set_option maxRecDepth 100000 in
theorem mX7_told (v1 : Int) (v2 : Int) (σ : Hp) (k : Int → Hp → Prop) (h : wX7_told v1 v2 σ k) (l : Launch) : zMt l yX7_told cX7_told 4 (some .int) { frames := 2, cells := 0, slots := 0, locals := 47 } (fun w => [.ref (w.2.1 (17)), .int (zI (v1)), .int (zI (v2))]) σ (zPi k) := by
  refine zMt_of (plainFor_of_name (by decide)) (fun w => Nat.le_of_ble_eq_true rfl) (fun x hl hN C E => ?_)
  change zV x σ 0 [(0, za x (17)), (1, .int (zI (v1))), (2, .int (zI (v2)))] []
  change zOk x cX7_told RX7 (some .int) (2) (47) at C
  unfold wX7_told at h
  refine z_iload_n C 1 dX7_told_0 rfl rfl ?_
  refine z_callS (av := fun w => [.int (zI (v1))]) C [] cs_X7_isRow (mX7_isRow v1  σ _ h) km_X7_50 dX7_told_1 rfl rfl ⟨rfl, rfl⟩ ⟨by decide, by decide⟩ (Nat.le_of_ble_eq_true rfl) (fun rv σ1 hp => ?_)
  obtain ⟨a2, rfl, h⟩ := hp
  change zV x σ1 4 [(0, za x (17)), (1, .int (zI (v1))), (2, .int (zI (v2)))] [.int (zI (a2))]
  obtain ⟨o3, h⟩ := h
  refine z_if_eq C 19 dX7_told_4 (by decide) o3 (fun c4 => ?_) (fun c4 => ?_)
  · have h := h.1 c4
    refine z_iconst C dX7_told_19 ?_
    exact z_iret C E dX7_told_20 ⟨_, rfl, h⟩
  · have h := h.2 c4
    refine z_iload_n C 2 dX7_told_7 rfl rfl ?_
    obtain ⟨o5, h⟩ := h
    refine z_i2l C dX7_told_8 o5 ?_
    refine z_lconst (z := 0) C dX7_told_9 rfl ?_
    refine z_ldc2 (z := 13) C kl_X7_77 rfl dX7_told_10 ?_
    refine z_callS (av := fun w => [.long (zJ (v2)), .long (zJ (0)), .long (zJ (13))]) C [] cs_X7_in (mX7_in v2 0 13  σ1 _ h) km_X7_46 dX7_told_13 rfl rfl ⟨rfl, rfl⟩ ⟨by decide, by decide⟩ (Nat.le_of_ble_eq_true rfl) (fun rv σ6 hp => ?_)
    obtain ⟨a7, rfl, h⟩ := hp
    change zV x σ6 16 [(0, za x (17)), (1, .int (zI (v1))), (2, .int (zI (v2)))] [.int (zI (a7))]
    obtain ⟨o8, h⟩ := h
    refine z_if_ne C 21 dX7_told_16 (by decide) o8 (fun c9 => ?_) (fun c9 => ?_)
    · have h := h.1 c9
      refine z_aload_n C 0 dX7_told_21 rfl rfl ?_
      refine z_iload_n C 1 dX7_told_22 rfl rfl ?_
      refine z_iload_n C 2 dX7_told_23 rfl rfl ?_
      refine z_iconst C dX7_told_24 ?_
      refine z_isub C dX7_told_25 ?_
      refine z_callV (av := fun w => [.int (zI (v1)), .int (zI (v2 - 2))]) C [] cs_X7_at (by decide) (fun _ _ => rfl) rfl (mX7_at v1 (v2 - 2)  σ6 _ h) km_X7_79 dX7_told_26 rfl rfl ⟨rfl, rfl⟩ ⟨by decide, by decide⟩ (Nat.le_of_ble_eq_true rfl) (fun rv σ10 hp => ?_)
      obtain ⟨a11, rfl, h⟩ := hp
      change zV x σ10 29 [(0, za x (17)), (1, .int (zI (v1))), (2, .int (zI (v2)))] [.int (zI (a11))]
      refine z_istore_n C [(3, .int (zI (a11))), (0, za x (17)), (1, .int (zI (v1))), (2, .int (zI (v2)))] dX7_told_29 rfl (by rw [hN]; decide) rfl ?_
      refine z_iload_n C 3 dX7_told_30 rfl rfl ?_
      refine z_if_ne C 43 dX7_told_31 (by decide) o5 (fun c12 => ?_) (fun c12 => ?_)
      · have h := h.1 c12
        refine z_iload_n C 3 dX7_told_43 rfl rfl ?_
        refine z_iconst C dX7_told_44 ?_
        refine z_icmp_ne C 57 dX7_told_45 (by decide) o5 (zrg_d rfl) (fun c13 => ?_) (fun c13 => ?_)
        · have h := h.1 c13
          refine z_iload_n C 0 dX7_told_57 rfl rfl ?_
          refine z_bipush C dX7_told_58 rfl ?_
          obtain ⟨o14, h⟩ := h
          refine z_icmp_ne C 68 dX7_told_60 (by decide) o14 (zrg_d rfl) (fun c15 => ?_) (fun c15 => ?_)
          · have h := h.1 c15
            refine z_iload_n C 0 dX7_told_68 rfl rfl ?_
            exact z_iret C E dX7_told_69 ⟨_, rfl, h⟩
          · have h := h.2 c15
            refine z_bipush C dX7_told_63 rfl ?_
            refine z_goto C 69 dX7_told_65 (by decide) ?_
            exact z_iret C E dX7_told_69 ⟨_, rfl, h⟩
        · have h := h.2 c13
          refine z_aload_n C 1 dX7_told_48 rfl rfl ?_
          refine g_X7_1 C kf_X7_13 dX7_told_49 ?_
          refine z_iload_n C 2 dX7_told_52 rfl rfl ?_
          obtain ⟨o16, h⟩ := h
          refine z_iald C ia_19 dX7_told_53 o16.1 o16.2 ?_
          refine z_goto C 69 dX7_told_54 (by decide) ?_
          exact z_iret C E dX7_told_69 ⟨_, rfl, h⟩
      · have h := h.2 c12
        refine z_aload_n C 1 dX7_told_34 rfl rfl ?_
        refine g_X7_0 C kf_X7_7 dX7_told_35 ?_
        refine z_iload_n C 2 dX7_told_38 rfl rfl ?_
        obtain ⟨o17, h⟩ := h
        refine z_iald C ia_18 dX7_told_39 o17.1 o17.2 ?_
        refine z_goto C 69 dX7_told_40 (by decide) ?_
        exact z_iret C E dX7_told_69 ⟨_, rfl, h⟩
    · have h := h.2 c9
      refine z_iconst C dX7_told_19 ?_
      exact z_iret C E dX7_told_20 ⟨_, rfl, h⟩
def wX7_turn_40 (k : Int → Hp → Prop) : Nat → Int → Int → Hp → Prop
  | 0, _, _, _ => False
  | n + 1, v1, v3, σ => (0 ≤ v1 ∧ v1 < 6) ∧ zrg v3 ∧ zrg (σ 18 v1.toNat) ∧ ((σ 18 v1.toNat ≤ v3 → k (σ 18 v1.toNat) σ) ∧ (¬ (σ 18 v1.toNat ≤ v3) → (0 ≤ v3 ∧ v3 < 12) ∧ (0 ≤ (12 * v1) + v3 ∧ (12 * v1) + v3 < 72) ∧ wX7_turn_40 k n v1 (v3 + 1) (zst σ 20 ((12 * v1) + v3).toNat (σ 27 v3.toNat))))
set_option maxRecDepth 100000 in
theorem sX7_turn_40 {x : Cx} (C : zOk x cX7_turn RX7 (some .int) (3) (72)) (hN : x.2.2.2.2.1 = 4) {k : Int → Hp → Prop} (E : zEnd x (zPi k x.2.1)) : ∀ (n : Nat) (v1 : Int) (v3 : Int) (σ : Hp), wX7_turn_40 k n v1 v3 σ → zV x σ 40 [(0, za x (17)), (1, .int (zI (v1))), (3, .int (zI (v3)))] [] := by
  intro n
  induction n with
  | zero => intro _ _ _ h; exact h.elim
  | succ n ih =>
    intro v1 v3 σ h
    unfold wX7_turn_40 at h
    refine z_iload_n C 2 dX7_turn_40 rfl rfl ?_
    refine z_aload_n C 0 dX7_turn_41 rfl rfl ?_
    refine g_X7_0 C kf_X7_7 dX7_turn_42 ?_
    refine z_iload_n C 1 dX7_turn_45 rfl rfl ?_
    obtain ⟨o1, h⟩ := h
    refine z_iald C ia_18 dX7_turn_46 o1.1 o1.2 ?_
    obtain ⟨o2, h⟩ := h
    obtain ⟨o3, h⟩ := h
    refine z_icmp_ge C 73 dX7_turn_47 (by decide) o2 o3 (fun c4 => ?_) (fun c4 => ?_)
    · have h := h.1 c4
      refine z_aload_n C 0 dX7_turn_73 rfl rfl ?_
      refine g_X7_0 C kf_X7_7 dX7_turn_74 ?_
      refine z_iload_n C 1 dX7_turn_77 rfl rfl ?_
      refine z_iald C ia_18 dX7_turn_78 o1.1 o1.2 ?_
      exact z_iret C E dX7_turn_79 ⟨_, rfl, h⟩
    · have h := h.2 c4
      refine z_aload_n C 0 dX7_turn_50 rfl rfl ?_
      refine g_X7_2 C kf_X7_16 dX7_turn_51 ?_
      refine z_bipush C dX7_turn_54 rfl ?_
      refine z_iload_n C 1 dX7_turn_56 rfl rfl ?_
      refine z_imul C dX7_turn_57 ?_
      refine z_iload_n C 2 dX7_turn_58 rfl rfl ?_
      refine z_iadd C dX7_turn_59 ?_
      refine z_aload_n C 0 dX7_turn_60 rfl rfl ?_
      refine g_X7_13 C kf_X7_38 dX7_turn_61 ?_
      refine z_iload_n C 2 dX7_turn_64 rfl rfl ?_
      obtain ⟨o5, h⟩ := h
      refine z_iald C ia_27 dX7_turn_65 o5.1 o5.2 ?_
      obtain ⟨o6, h⟩ := h
      refine z_iast C ia_20 dX7_turn_66 o6.1 o6.2 ?_
      refine z_iinc C 2 [(3, .int (zI (v3 + 1))), (0, za x (17)), (1, .int (zI (v1)))] dX7_turn_67 rfl (by rw [hN]; decide) rfl ?_
      refine z_goto C 40 dX7_turn_70 (by decide) ?_
      refine z_sub C [1, 2, 0] [(0, za x (17)), (1, .int (zI (v1))), (3, .int (zI (v3 + 1)))] rfl ?_
      exact ih v1 (v3 + 1)  (zst σ 20 ((12 * v1) + v3).toNat (σ 27 v3.toNat)) h
def wX7_turn (v1 : Int) (v2 : Int) (σ : Hp) (k : Int → Hp → Prop) : Prop :=
  wX7_isRow v1 σ (fun a2 σ1 => zrg a2 ∧ ((a2 = 0 → k ((-1)) σ1) ∧ (¬ (a2 = 0) → zrg v2 ∧ wX7_in v2 0 7 σ1 (fun a7 σ6 => zrg a7 ∧ ((a7 ≠ 0 → wX7_isSquare v1 σ6 (fun a11 σ10 => zrg a11 ∧ ((a11 ≠ 0 → wX7_turns v1 v2 σ10 (fun σ14 => (∃ N15, wX7_turn_40 k N15 v1 0 σ14))) ∧ (¬ (a11 ≠ 0) → k ((-2)) σ10)))) ∧ (¬ (a7 ≠ 0) → k ((-1)) σ6))))))
set_option maxRecDepth 100000 in
theorem mX7_turn (v1 : Int) (v2 : Int) (σ : Hp) (k : Int → Hp → Prop) (h : wX7_turn v1 v2 σ k) (l : Launch) : zMt l yX7_turn cX7_turn 4 (some .int) { frames := 3, cells := 0, slots := 0, locals := 72 } (fun w => [.ref (w.2.1 (17)), .int (zI (v1)), .int (zI (v2))]) σ (zPi k) := by
  refine zMt_of (plainFor_of_name (by decide)) (fun w => Nat.le_of_ble_eq_true rfl) (fun x hl hN C E => ?_)
  change zV x σ 0 [(0, za x (17)), (1, .int (zI (v1))), (2, .int (zI (v2)))] []
  change zOk x cX7_turn RX7 (some .int) (3) (72) at C
  unfold wX7_turn at h
  refine z_iload_n C 1 dX7_turn_0 rfl rfl ?_
  refine z_callS (av := fun w => [.int (zI (v1))]) C [] cs_X7_isRow (mX7_isRow v1  σ _ h) km_X7_50 dX7_turn_1 rfl rfl ⟨rfl, rfl⟩ ⟨by decide, by decide⟩ (Nat.le_of_ble_eq_true rfl) (fun rv σ1 hp => ?_)
  obtain ⟨a2, rfl, h⟩ := hp
  change zV x σ1 4 [(0, za x (17)), (1, .int (zI (v1))), (2, .int (zI (v2)))] [.int (zI (a2))]
  obtain ⟨o3, h⟩ := h
  refine z_if_eq C 19 dX7_turn_4 (by decide) o3 (fun c4 => ?_) (fun c4 => ?_)
  · have h := h.1 c4
    refine z_iconst C dX7_turn_19 ?_
    exact z_iret C E dX7_turn_20 ⟨_, rfl, h⟩
  · have h := h.2 c4
    refine z_iload_n C 2 dX7_turn_7 rfl rfl ?_
    obtain ⟨o5, h⟩ := h
    refine z_i2l C dX7_turn_8 o5 ?_
    refine z_lconst (z := 0) C dX7_turn_9 rfl ?_
    refine z_ldc2 (z := 7) C kl_X7_151 rfl dX7_turn_10 ?_
    refine z_callS (av := fun w => [.long (zJ (v2)), .long (zJ (0)), .long (zJ (7))]) C [] cs_X7_in (mX7_in v2 0 7  σ1 _ h) km_X7_46 dX7_turn_13 rfl rfl ⟨rfl, rfl⟩ ⟨by decide, by decide⟩ (Nat.le_of_ble_eq_true rfl) (fun rv σ6 hp => ?_)
    obtain ⟨a7, rfl, h⟩ := hp
    change zV x σ6 16 [(0, za x (17)), (1, .int (zI (v1))), (2, .int (zI (v2)))] [.int (zI (a7))]
    obtain ⟨o8, h⟩ := h
    refine z_if_ne C 21 dX7_turn_16 (by decide) o8 (fun c9 => ?_) (fun c9 => ?_)
    · have h := h.1 c9
      refine z_aload_n C 0 dX7_turn_21 rfl rfl ?_
      refine z_iload_n C 1 dX7_turn_22 rfl rfl ?_
      refine z_callV (av := fun w => [.int (zI (v1))]) C [] cs_X7_isSquare (by decide) (fun _ _ => rfl) rfl (mX7_isSquare v1  σ6 _ h) km_X7_153 dX7_turn_23 rfl rfl ⟨rfl, rfl⟩ ⟨by decide, by decide⟩ (Nat.le_of_ble_eq_true rfl) (fun rv σ10 hp => ?_)
      obtain ⟨a11, rfl, h⟩ := hp
      change zV x σ10 26 [(0, za x (17)), (1, .int (zI (v1))), (2, .int (zI (v2)))] [.int (zI (a11))]
      obtain ⟨o12, h⟩ := h
      refine z_if_ne C 32 dX7_turn_26 (by decide) o12 (fun c13 => ?_) (fun c13 => ?_)
      · have h := h.1 c13
        refine z_aload_n C 0 dX7_turn_32 rfl rfl ?_
        refine z_iload_n C 1 dX7_turn_33 rfl rfl ?_
        refine z_iload_n C 2 dX7_turn_34 rfl rfl ?_
        refine z_callV (av := fun w => [.int (zI (v1)), .int (zI (v2))]) C [] cs_X7_turns (by decide) (fun _ _ => rfl) rfl (mX7_turns v1 v2  σ10 _ h) km_X7_156 dX7_turn_35 rfl rfl ⟨rfl, rfl⟩ ⟨by decide, by decide⟩ (Nat.le_of_ble_eq_true rfl) (fun rv σ14 hp => ?_)
        obtain ⟨rfl, h⟩ := hp
        change zV x σ14 38 [(0, za x (17)), (1, .int (zI (v1))), (2, .int (zI (v2)))] []
        refine z_iconst C dX7_turn_38 ?_
        refine z_istore_n C [(3, .int (zI (0))), (0, za x (17)), (1, .int (zI (v1))), (2, .int (zI (v2)))] dX7_turn_39 rfl (by rw [hN]; decide) rfl ?_
        refine z_sub C [1, 2, 0] [(0, za x (17)), (1, .int (zI (v1))), (3, .int (zI (0)))] rfl ?_
        obtain ⟨n15, h⟩ := h
        exact sX7_turn_40 C hN E n15 v1 0  σ14 h
      · have h := h.2 c13
        refine z_bipush C dX7_turn_29 rfl ?_
        exact z_iret C E dX7_turn_31 ⟨_, rfl, h⟩
    · have h := h.2 c9
      refine z_iconst C dX7_turn_19 ?_
      exact z_iret C E dX7_turn_20 ⟨_, rfl, h⟩
def wX7_wipe (σ : Hp) (k : Int → Hp → Prop) : Prop :=
  k (σ 17 3) (zst σ 17 3 0)
set_option maxRecDepth 100000 in
theorem mX7_wipe (σ : Hp) (k : Int → Hp → Prop) (h : wX7_wipe  σ k) (l : Launch) : zMt l yX7_wipe cX7_wipe 2 (some .int) { frames := 0, cells := 0, slots := 0, locals := 0 } (fun w => [.ref (w.2.1 (17))]) σ (zPi k) := by
  refine zMt_of (plainFor_of_name (by decide)) (fun w => Nat.le_of_ble_eq_true rfl) (fun x hl hN C E => ?_)
  change zV x σ 0 [(0, za x (17))] []
  change zOk x cX7_wipe RX7 (some .int) (0) (0) at C
  unfold wX7_wipe at h
  refine z_aload_n C 0 dX7_wipe_0 rfl rfl ?_
  refine g_X7_3 C kf_X7_60 dX7_wipe_1 ?_
  refine z_istore_n C [(1, .int (zI (σ 17 3))), (0, za x (17))] dX7_wipe_4 rfl (by rw [hN]; decide) rfl ?_
  refine z_aload_n C 1 dX7_wipe_5 rfl rfl ?_
  refine z_iconst C dX7_wipe_6 ?_
  refine p_X7_3 C kf_X7_60 dX7_wipe_7 ?_
  refine z_iload_n C 0 dX7_wipe_10 rfl rfl ?_
  exact z_iret C E dX7_wipe_11 ⟨_, rfl, h⟩
def wX7_write_33 (k : Int → Hp → Prop) : Nat → Int → Int → Hp → Prop
  | 0, _, _, _ => False
  | n + 1, v2, v4, σ => zrg v4 ∧ ((v4 < 0 → k (σ 17 3) σ) ∧ (¬ (v4 < 0) → (0 ≤ σ 17 3 ∧ σ 17 3 < 60) ∧ wX7_write_33 k n v2 (v4 + (-1)) (zst (zst σ 21 (σ 17 3).toNat (zi2b (zi2b (zLshr v2 (8 * v4))))) 17 3 (((zst σ 21 (σ 17 3).toNat (zi2b (zi2b (zLshr v2 (8 * v4))))) 17 3) + 1))))
set_option maxRecDepth 100000 in
theorem sX7_write_33 {x : Cx} (C : zOk x cX7_write RX7 (some .int) (1) (25)) (hN : x.2.2.2.2.1 = 5) {k : Int → Hp → Prop} (E : zEnd x (zPi k x.2.1)) : ∀ (n : Nat) (v2 : Int) (v4 : Int) (σ : Hp), wX7_write_33 k n v2 v4 σ → zV x σ 33 [(0, za x (17)), (2, .long (zJ (v2))), (4, .int (zI (v4)))] [] := by
  intro n
  induction n with
  | zero => intro _ _ _ h; exact h.elim
  | succ n ih =>
    intro v2 v4 σ h
    unfold wX7_write_33 at h
    refine z_iload C 2 dX7_write_33 rfl ?_
    obtain ⟨o1, h⟩ := h
    refine z_if_lt C 72 dX7_write_35 (by decide) o1 (fun c2 => ?_) (fun c2 => ?_)
    · have h := h.1 c2
      refine z_aload_n C 0 dX7_write_72 rfl rfl ?_
      refine g_X7_3 C kf_X7_60 dX7_write_73 ?_
      exact z_iret C E dX7_write_76 ⟨_, rfl, h⟩
    · have h := h.2 c2
      refine z_aload_n C 0 dX7_write_38 rfl rfl ?_
      refine g_X7_4 C kf_X7_19 dX7_write_39 ?_
      refine z_aload_n C 0 dX7_write_42 rfl rfl ?_
      refine g_X7_3 C kf_X7_60 dX7_write_43 ?_
      refine z_lload_n C 1 dX7_write_46 rfl rfl ?_
      refine z_bipush C dX7_write_47 rfl ?_
      refine z_iload C 2 dX7_write_49 rfl ?_
      refine z_imul C dX7_write_51 ?_
      refine z_lshr C dX7_write_52 ?_
      refine z_l2i C dX7_write_53 ?_
      refine z_i2b C dX7_write_54 ?_
      obtain ⟨o3, h⟩ := h
      refine z_bast C ia_21 dX7_write_55 o3.1 o3.2 ?_
      refine z_aload_n C 0 dX7_write_56 rfl rfl ?_
      refine z_dup C dX7_write_57 rfl ?_
      refine g_X7_3 C kf_X7_60 dX7_write_58 ?_
      refine z_iconst C dX7_write_61 ?_
      refine z_iadd C dX7_write_62 ?_
      refine p_X7_3 C kf_X7_60 dX7_write_63 ?_
      refine z_iinc C 2 [(4, .int (zI (v4 + (-1)))), (0, za x (17)), (2, .long (zJ (v2)))] dX7_write_66 rfl (by rw [hN]; decide) rfl ?_
      refine z_goto C 33 dX7_write_69 (by decide) ?_
      refine z_sub C [1, 2, 0] [(0, za x (17)), (2, .long (zJ (v2))), (4, .int (zI (v4 + (-1))))] rfl ?_
      exact ih v2 (v4 + (-1))  (zst (zst σ 21 (σ 17 3).toNat (zi2b (zi2b (zLshr v2 (8 * v4))))) 17 3 (((zst σ 21 (σ 17 3).toNat (zi2b (zi2b (zLshr v2 (8 * v4))))) 17 3) + 1)) h
def wX7_write (v1 : Int) (v2 : Int) (σ : Hp) (k : Int → Hp → Prop) : Prop :=
  zrg v1 ∧ wX7_in v1 1 8 σ (fun a3 σ2 => zrg a3 ∧ ((a3 ≠ 0 → zrg ((σ2 17 3) + v1) ∧ (((σ2 17 3) + v1 ≤ 60 → (∃ N8, wX7_write_33 k N8 v2 (v1 - 1) σ2)) ∧ (¬ ((σ2 17 3) + v1 ≤ 60) → k ((-3)) σ2))) ∧ (¬ (a3 ≠ 0) → k ((-1)) σ2)))
set_option maxRecDepth 100000 in
theorem mX7_write (v1 : Int) (v2 : Int) (σ : Hp) (k : Int → Hp → Prop) (h : wX7_write v1 v2 σ k) (l : Launch) : zMt l yX7_write cX7_write 5 (some .int) { frames := 1, cells := 0, slots := 0, locals := 25 } (fun w => [.ref (w.2.1 (17)), .int (zI (v1)), .long (zJ (v2))]) σ (zPi k) := by
  refine zMt_of (plainFor_of_name (by decide)) (fun w => Nat.le_of_ble_eq_true rfl) (fun x hl hN C E => ?_)
  change zV x σ 0 [(0, za x (17)), (1, .int (zI (v1))), (2, .long (zJ (v2)))] []
  change zOk x cX7_write RX7 (some .int) (1) (25) at C
  unfold wX7_write at h
  refine z_iload_n C 1 dX7_write_0 rfl rfl ?_
  obtain ⟨o1, h⟩ := h
  refine z_i2l C dX7_write_1 o1 ?_
  refine z_lconst (z := 1) C dX7_write_2 rfl ?_
  refine z_ldc2 (z := 8) C kl_X7_58 rfl dX7_write_3 ?_
  refine z_callS (av := fun w => [.long (zJ (v1)), .long (zJ (1)), .long (zJ (8))]) C [] cs_X7_in (mX7_in v1 1 8  σ _ h) km_X7_46 dX7_write_6 rfl rfl ⟨rfl, rfl⟩ ⟨by decide, by decide⟩ (Nat.le_of_ble_eq_true rfl) (fun rv σ2 hp => ?_)
  obtain ⟨a3, rfl, h⟩ := hp
  change zV x σ2 9 [(0, za x (17)), (1, .int (zI (v1))), (2, .long (zJ (v2)))] [.int (zI (a3))]
  obtain ⟨o4, h⟩ := h
  refine z_if_ne C 14 dX7_write_9 (by decide) o4 (fun c5 => ?_) (fun c5 => ?_)
  · have h := h.1 c5
    refine z_aload_n C 0 dX7_write_14 rfl rfl ?_
    refine g_X7_3 C kf_X7_60 dX7_write_15 ?_
    refine z_iload_n C 1 dX7_write_18 rfl rfl ?_
    refine z_iadd C dX7_write_19 ?_
    refine z_bipush C dX7_write_20 rfl ?_
    obtain ⟨o6, h⟩ := h
    refine z_icmp_le C 28 dX7_write_22 (by decide) o6 (zrg_d rfl) (fun c7 => ?_) (fun c7 => ?_)
    · have h := h.1 c7
      refine z_iload_n C 1 dX7_write_28 rfl rfl ?_
      refine z_iconst C dX7_write_29 ?_
      refine z_isub C dX7_write_30 ?_
      refine z_istore C [(4, .int (zI (v1 - 1))), (0, za x (17)), (1, .int (zI (v1))), (2, .long (zJ (v2)))] dX7_write_31 (by rw [hN]; decide) rfl ?_
      refine z_sub C [1, 3, 0] [(0, za x (17)), (2, .long (zJ (v2))), (4, .int (zI (v1 - 1)))] rfl ?_
      obtain ⟨n8, h⟩ := h
      exact sX7_write_33 C hN E n8 v2 (v1 - 1)  σ2 h
    · have h := h.2 c7
      refine z_bipush C dX7_write_25 rfl ?_
      exact z_iret C E dX7_write_27 ⟨_, rfl, h⟩
  · have h := h.2 c5
    refine z_iconst C dX7_write_12 ?_
    exact z_iret C E dX7_write_13 ⟨_, rfl, h⟩
