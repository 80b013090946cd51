def wX6_columnsInAll_4 (k : Int → Hp → Prop) : Nat → Int → Int → Hp → Prop
  | 0, _, _, _ => False
  | n + 1, v1, v2, σ => zrg v2 ∧ ((6 ≤ v2 → k v1 σ) ∧ (¬ (6 ≤ v2) → wX6_rowAt v2 σ (fun w7 σ3 => (w7 = none → wX6_columnsInAll_4 k n v1 (v2 + 1) σ3) ∧ ∀ q4, w7 = some q4 → wX3_columns q4 σ3 (fun a6 σ5 => wX6_columnsInAll_4 k n (v1 + a6) (v2 + 1) σ5))))
set_option maxRecDepth 100000 in
theorem sX6_columnsInAll_4 {x : Cx} (C : zOk x cX6_columnsInAll RX6 (some .int) (2) (43)) (hN : x.2.2.2.2.1 = 4) {k : Int → Hp → Prop} (E : zEnd x (zPi k x.2.1)) : ∀ (n : Nat) (v1 : Int) (v2 : Int) (σ : Hp), wX6_columnsInAll_4 k n v1 v2 σ → zV x σ 4 [(0, za x (0)), (1, .int (zI (v1))), (2, .int (zI (v2)))] [] := by
  intro n
  induction n with
  | zero => intro _ _ _ h; exact h.elim
  | succ n ih =>
    intro v1 v2 σ h
    unfold wX6_columnsInAll_4 at h
    refine z_iload_n C 2 dX6_columnsInAll_4 rfl rfl ?_
    refine z_bipush C dX6_columnsInAll_5 rfl ?_
    obtain ⟨o1, h⟩ := h
    refine z_icmp_ge C 33 dX6_columnsInAll_7 (by decide) o1 (zrg_d rfl) (fun c2 => ?_) (fun c2 => ?_)
    · have h := h.1 c2
      refine z_iload_n C 1 dX6_columnsInAll_33 rfl rfl ?_
      exact z_iret C E dX6_columnsInAll_34 ⟨_, rfl, h⟩
    · have h := h.2 c2
      refine z_aload_n C 0 dX6_columnsInAll_10 rfl rfl ?_
      refine z_iload_n C 2 dX6_columnsInAll_11 rfl rfl ?_
      refine z_callV (av := fun w => [.int (zI (v2))]) C [] cs_X6_rowAt (by decide) (fun _ _ => rfl) rfl (mX6_rowAt v2  σ _ h) km_X6_59 dX6_columnsInAll_12 rfl rfl ⟨rfl, rfl⟩ ⟨by decide, by decide⟩ (Nat.le_of_ble_eq_true rfl) (fun rv σ3 hp => ?_)
      rcases hp with ⟨rfl, h⟩ | ⟨q4, hq4, rfl, h⟩
      · have h := h.1 rfl
        change zV x σ3 15 [(0, za x (0)), (1, .int (zI (v1))), (2, .int (zI (v2)))] [.null]
        refine z_astore_nN C [(3, .null), (0, za x (0)), (1, .int (zI (v1))), (2, .int (zI (v2)))] dX6_columnsInAll_15 rfl (by rw [hN]; decide) rfl ?_
        refine z_aload_nN C 0 dX6_columnsInAll_16 rfl rfl ?_
        refine z_ifnullN C 27 dX6_columnsInAll_17 (by decide) ?_
        refine z_iinc C 3 [(2, .int (zI (v2 + 1))), (3, .null), (0, za x (0)), (1, .int (zI (v1)))] dX6_columnsInAll_27 rfl (by rw [hN]; decide) rfl ?_
        refine z_goto C 4 dX6_columnsInAll_30 (by decide) ?_
        refine z_sub C [2, 3, 0] [(0, za x (0)), (1, .int (zI (v1))), (2, .int (zI (v2 + 1)))] rfl ?_
        exact ih v1 (v2 + 1)  σ3 h
      · have h := h.2 q4 rfl
        change zV x σ3 15 [(0, za x (0)), (1, .int (zI (v1))), (2, .int (zI (v2)))] [za x (29 + q4)]
        refine z_astore_n C [(3, za x (29 + q4)), (0, za x (0)), (1, .int (zI (v1))), (2, .int (zI (v2)))] dX6_columnsInAll_15 rfl (by rw [hN]; decide) rfl ?_
        refine z_aload_n C 0 dX6_columnsInAll_16 rfl rfl ?_
        refine z_ifnull C dX6_columnsInAll_17 ?_
        refine z_iload_n C 2 dX6_columnsInAll_20 rfl rfl ?_
        refine z_aload_n C 0 dX6_columnsInAll_21 rfl rfl ?_
        refine z_callV (av := fun w => []) C [.int (zI (v1))] cs_X3_columns (by have := hq4; omega) (zcell_row hq4) rfl (mX3_columns q4 hq4 σ3 _ h) km_X6_71 dX6_columnsInAll_22 rfl rfl ⟨rfl, rfl⟩ ⟨by decide, by decide⟩ (Nat.le_of_ble_eq_true rfl) (fun rv σ5 hp => ?_)
        obtain ⟨a6, rfl, h⟩ := hp
        change zV x σ5 25 [(3, za x (29 + q4)), (0, za x (0)), (1, .int (zI (v1))), (2, .int (zI (v2)))] [.int (zI (a6)), .int (zI (v1))]
        refine z_iadd C dX6_columnsInAll_25 ?_
        refine z_istore_n C [(1, .int (zI (v1 + a6))), (3, za x (29 + q4)), (0, za x (0)), (2, .int (zI (v2)))] dX6_columnsInAll_26 rfl (by rw [hN]; decide) rfl ?_
        refine z_iinc C 3 [(2, .int (zI (v2 + 1))), (1, .int (zI (v1 + a6))), (3, za x (29 + q4)), (0, za x (0))] dX6_columnsInAll_27 rfl (by rw [hN]; decide) rfl ?_
        refine z_goto C 4 dX6_columnsInAll_30 (by decide) ?_
        refine z_sub C [3, 1, 0] [(0, za x (0)), (1, .int (zI (v1 + a6))), (2, .int (zI (v2 + 1)))] rfl ?_
        exact ih (v1 + a6) (v2 + 1)  σ5 h
def wX6_columnsInAll (σ : Hp) (k : Int → Hp → Prop) : Prop :=
  (∃ N1, wX6_columnsInAll_4 k N1 0 0 σ)
set_option maxRecDepth 100000 in
theorem mX6_columnsInAll (σ : Hp) (k : Int → Hp → Prop) (h : wX6_columnsInAll  σ k) (l : Launch) : zMt l yX6_columnsInAll cX6_columnsInAll 4 (some .int) { frames := 2, cells := 0, slots := 0, locals := 43 } (fun w => [.ref (w.2.1 (0))]) σ (zPi k) := by
  refine zMt_of (plainFor_of_name (by decide)) (fun w => Nat.le_of_ble_eq_true rfl) (fun x hl hN C E => ?_)
  change zV x σ 0 [(0, za x (0))] []
  change zOk x cX6_columnsInAll RX6 (some .int) (2) (43) at C
  unfold wX6_columnsInAll at h
  refine z_iconst C dX6_columnsInAll_0 ?_
  refine z_istore_n C [(1, .int (zI (0))), (0, za x (0))] dX6_columnsInAll_1 rfl (by rw [hN]; decide) rfl ?_
  refine z_iconst C dX6_columnsInAll_2 ?_
  refine z_istore_n C [(2, .int (zI (0))), (1, .int (zI (0))), (0, za x (0))] dX6_columnsInAll_3 rfl (by rw [hN]; decide) rfl ?_
  refine z_sub C [2, 1, 0] [(0, za x (0)), (1, .int (zI (0))), (2, .int (zI (0)))] rfl ?_
  obtain ⟨n1, h⟩ := h
  exact sX6_columnsInAll_4 C hN E n1 0 0  σ h
def wX6_setOn_83 (k : Int → Hp → Prop) : Nat → Nat → Int → Int → Int → Int → Hp → Prop
  | 0, _, _, _, _, _, _ => False
  | n + 1, r1, v4, v5, v6, v7, σ => zrg v7 ∧ zrg v4 ∧ ((v4 ≤ v7 → wX3_copyFrom r1 6 σ (fun σ4 => wX3_columns r1 σ4 (fun a6 σ5 => k a6 σ5))) ∧ (¬ (v4 ≤ v7) → wX3_lineAt r1 v7 σ (fun a8 σ7 => wX3_put 6 (v7 + v5) (a8 + v6) σ7 (fun σ9 => wX6_setOn_83 k n r1 v4 v5 v6 (v7 + 1) σ9))))
set_option maxRecDepth 100000 in
theorem sX6_setOn_83 {x : Cx} (C : zOk x cX6_setOn RX6 (some .int) (3) (67)) (hN : x.2.2.2.2.1 = 8) {k : Int → Hp → Prop} (E : zEnd x (zPi k x.2.1)) : ∀ (n : Nat) (r1 : Nat) (v4 : Int) (v5 : Int) (v6 : Int) (v7 : Int) (hr1 : r1 < 7) (σ : Hp), wX6_setOn_83 k n r1 v4 v5 v6 v7 σ → zV x σ 83 [(0, za x (0)), (1, za x (29 + r1)), (4, .int (zI (v4))), (5, .int (zI (v5))), (6, .int (zI (v6))), (7, .int (zI (v7)))] [] := by
  intro n
  induction n with
  | zero => intro _ _ _ _ _ _ _ h; exact h.elim
  | succ n ih =>
    intro r1 v4 v5 v6 v7 hr1 σ h
    unfold wX6_setOn_83 at h
    refine z_iload C 5 dX6_setOn_83 rfl ?_
    refine z_iload C 2 dX6_setOn_85 rfl ?_
    obtain ⟨o1, h⟩ := h
    obtain ⟨o2, h⟩ := h
    refine z_icmp_ge C 117 dX6_setOn_87 (by decide) o1 o2 (fun c3 => ?_) (fun c3 => ?_)
    · have h := h.1 c3
      refine z_aload_n C 1 dX6_setOn_117 rfl rfl ?_
      refine z_aload_n C 0 dX6_setOn_118 rfl rfl ?_
      refine g_X6_1 C kf_X6_16 dX6_setOn_119 ?_
      refine z_callV (av := fun w => [.ref (w.2.1 (29 + 6))]) C [] cs_X3_copyFrom (by have := hr1; omega) (zcell_row hr1) rfl (mX3_copyFrom r1 6 hr1 (by decide) σ _ h) km_X6_214 dX6_setOn_122 rfl rfl ⟨rfl, rfl⟩ ⟨by decide, by decide⟩ (Nat.le_of_ble_eq_true rfl) (fun rv σ4 hp => ?_)
      obtain ⟨rfl, h⟩ := hp
      change zV x σ4 125 [(0, za x (0)), (1, za x (29 + r1)), (4, .int (zI (v4))), (5, .int (zI (v5))), (6, .int (zI (v6))), (7, .int (zI (v7)))] []
      refine z_aload_n C 1 dX6_setOn_125 rfl rfl ?_
      refine z_callV (av := fun w => []) C [] cs_X3_columns (by have := hr1; omega) (zcell_row hr1) rfl (mX3_columns r1 hr1 σ4 _ h) km_X6_71 dX6_setOn_126 rfl rfl ⟨rfl, rfl⟩ ⟨by decide, by decide⟩ (Nat.le_of_ble_eq_true rfl) (fun rv σ5 hp => ?_)
      obtain ⟨a6, rfl, h⟩ := hp
      change zV x σ5 129 [(0, za x (0)), (1, za x (29 + r1)), (4, .int (zI (v4))), (5, .int (zI (v5))), (6, .int (zI (v6))), (7, .int (zI (v7)))] [.int (zI (a6))]
      exact z_iret C E dX6_setOn_129 ⟨_, rfl, h⟩
    · have h := h.2 c3
      refine z_aload_n C 0 dX6_setOn_90 rfl rfl ?_
      refine g_X6_1 C kf_X6_16 dX6_setOn_91 ?_
      refine z_iload C 5 dX6_setOn_94 rfl ?_
      refine z_iload C 3 dX6_setOn_96 rfl ?_
      refine z_iadd C dX6_setOn_98 ?_
      refine z_aload_n C 1 dX6_setOn_99 rfl rfl ?_
      refine z_iload C 5 dX6_setOn_100 rfl ?_
      refine z_callV (av := fun w => [.int (zI (v7))]) C [.int (zI (v7 + v5)), za x (29 + 6)] cs_X3_lineAt (by have := hr1; omega) (zcell_row hr1) rfl (mX3_lineAt r1 v7 hr1 σ _ h) km_X6_119 dX6_setOn_102 rfl rfl ⟨rfl, rfl⟩ ⟨by decide, by decide⟩ (Nat.le_of_ble_eq_true rfl) (fun rv σ7 hp => ?_)
      obtain ⟨a8, rfl, h⟩ := hp
      change zV x σ7 105 [(0, za x (0)), (1, za x (29 + r1)), (4, .int (zI (v4))), (5, .int (zI (v5))), (6, .int (zI (v6))), (7, .int (zI (v7)))] [.int (zI (a8)), .int (zI (v7 + v5)), za x (29 + 6)]
      refine z_iload C 4 dX6_setOn_105 rfl ?_
      refine z_iadd C dX6_setOn_107 ?_
      refine z_callV (av := fun w => [.int (zI (v7 + v5)), .int (zI (a8 + v6))]) C [] cs_X3_put (by decide) (zcell_row (by decide)) rfl (mX3_put 6 (v7 + v5) (a8 + v6) (by decide) σ7 _ h) km_X6_83 dX6_setOn_108 rfl rfl ⟨rfl, rfl⟩ ⟨by decide, by decide⟩ (Nat.le_of_ble_eq_true rfl) (fun rv σ9 hp => ?_)
      obtain ⟨rfl, h⟩ := hp
      change zV x σ9 111 [(0, za x (0)), (1, za x (29 + r1)), (4, .int (zI (v4))), (5, .int (zI (v5))), (6, .int (zI (v6))), (7, .int (zI (v7)))] []
      refine z_iinc C 5 [(7, .int (zI (v7 + 1))), (0, za x (0)), (1, za x (29 + r1)), (4, .int (zI (v4))), (5, .int (zI (v5))), (6, .int (zI (v6)))] dX6_setOn_111 rfl (by rw [hN]; decide) rfl ?_
      refine z_goto C 83 dX6_setOn_114 (by decide) ?_
      refine z_sub C [1, 2, 3, 4, 5, 0] [(0, za x (0)), (1, za x (29 + r1)), (4, .int (zI (v4))), (5, .int (zI (v5))), (6, .int (zI (v6))), (7, .int (zI (v7 + 1)))] rfl ?_
      exact ih r1 v4 v5 v6 (v7 + 1) hr1 σ9 h
def wX6_setOn_77 (k : Int → Hp → Prop) (r1 : Nat) (v4 : Int) (v5 : Int) (v6 : Int) (t0 : Int) (t1 : Int) (s2 : Nat) (σ : Hp) : Prop :=
  wX3_put s2 t1 t0 σ (fun σ1 => (∃ N2, wX6_setOn_83 k N2 r1 v4 v5 v6 0 σ1))
set_option maxRecDepth 100000 in
theorem sX6_setOn_77 {x : Cx} (C : zOk x cX6_setOn RX6 (some .int) (3) (67)) (hN : x.2.2.2.2.1 = 8) {k : Int → Hp → Prop} (E : zEnd x (zPi k x.2.1)) (r1 : Nat) (v4 : Int) (v5 : Int) (v6 : Int) (t0 : Int) (t1 : Int) (s2 : Nat) (hr1 : r1 < 7) (hs2 : s2 < 7) (σ : Hp) (h : wX6_setOn_77 k r1 v4 v5 v6 t0 t1 s2 σ) : zV x σ 77 [(0, za x (0)), (1, za x (29 + r1)), (4, .int (zI (v4))), (5, .int (zI (v5))), (6, .int (zI (v6)))] [.int (zI (t0)), .int (zI (t1)), za x (29 + s2)] := by
  unfold wX6_setOn_77 at h
  refine z_callV (av := fun w => [.int (zI (t1)), .int (zI (t0))]) C [] cs_X3_put (by have := hs2; omega) (zcell_row hs2) rfl (mX3_put s2 t1 t0 hs2 σ _ h) km_X6_83 dX6_setOn_77 rfl rfl ⟨rfl, rfl⟩ ⟨by decide, by decide⟩ (Nat.le_of_ble_eq_true rfl) (fun rv σ1 hp => ?_)
  obtain ⟨rfl, h⟩ := hp
  change zV x σ1 80 [(0, za x (0)), (1, za x (29 + r1)), (4, .int (zI (v4))), (5, .int (zI (v5))), (6, .int (zI (v6)))] []
  refine z_iconst C dX6_setOn_80 ?_
  refine z_istore C [(7, .int (zI (0))), (0, za x (0)), (1, za x (29 + r1)), (4, .int (zI (v4))), (5, .int (zI (v5))), (6, .int (zI (v6)))] dX6_setOn_81 (by rw [hN]; decide) rfl ?_
  refine z_sub C [1, 2, 3, 4, 5, 0] [(0, za x (0)), (1, za x (29 + r1)), (4, .int (zI (v4))), (5, .int (zI (v5))), (6, .int (zI (v6))), (7, .int (zI (0)))] rfl ?_
  obtain ⟨n2, h⟩ := h
  exact sX6_setOn_83 C hN E n2 r1 v4 v5 v6 0 hr1 σ1 h
def wX6_setOn_67 (k : Int → Hp → Prop) (r1 : Nat) (v3 : Int) (v4 : Int) (v5 : Int) (v6 : Int) (t0 : Int) (s1 : Nat) (σ : Hp) : Prop :=
  zrg v3 ∧ ((v3 = 0 → wX6_setOn_77 k r1 v4 v5 v6 0 t0 s1 σ) ∧ (¬ (v3 = 0) → wX6_setOn_77 k r1 v4 v5 v6 v4 t0 s1 σ))
set_option maxRecDepth 100000 in
theorem sX6_setOn_67 {x : Cx} (C : zOk x cX6_setOn RX6 (some .int) (3) (67)) (hN : x.2.2.2.2.1 = 8) {k : Int → Hp → Prop} (E : zEnd x (zPi k x.2.1)) (r1 : Nat) (v3 : Int) (v4 : Int) (v5 : Int) (v6 : Int) (t0 : Int) (s1 : Nat) (hr1 : r1 < 7) (hs1 : s1 < 7) (σ : Hp) (h : wX6_setOn_67 k r1 v3 v4 v5 v6 t0 s1 σ) : zV x σ 67 [(0, za x (0)), (1, za x (29 + r1)), (3, .int (zI (v3))), (4, .int (zI (v4))), (5, .int (zI (v5))), (6, .int (zI (v6)))] [.int (zI (t0)), za x (29 + s1)] := by
  unfold wX6_setOn_67 at h
  refine z_iload_n C 2 dX6_setOn_67 rfl rfl ?_
  obtain ⟨o1, h⟩ := h
  refine z_if_eq C 76 dX6_setOn_68 (by decide) o1 (fun c2 => ?_) (fun c2 => ?_)
  · have h := h.1 c2
    refine z_iconst C dX6_setOn_76 ?_
    refine z_sub C [0, 1, 3, 4, 5] [(0, za x (0)), (1, za x (29 + r1)), (4, .int (zI (v4))), (5, .int (zI (v5))), (6, .int (zI (v6)))] rfl ?_
    exact sX6_setOn_77 C hN E r1 v4 v5 v6 0 t0 s1 hr1 hs1 σ h
  · have h := h.2 c2
    refine z_iload C 3 dX6_setOn_71 rfl ?_
    refine z_goto C 77 dX6_setOn_73 (by decide) ?_
    refine z_sub C [0, 1, 3, 4, 5] [(0, za x (0)), (1, za x (29 + r1)), (4, .int (zI (v4))), (5, .int (zI (v5))), (6, .int (zI (v6)))] rfl ?_
    exact sX6_setOn_77 C hN E r1 v4 v5 v6 v4 t0 s1 hr1 hs1 σ h
def wX6_setOn_36 (k : Int → Hp → Prop) (r1 : Nat) (v2 : Int) (v3 : Int) (v4 : Int) (v5 : Int) (t0 : Int) (σ : Hp) : Prop :=
  wX3_shape 6 (v4 + 1) (v4 + 1) σ (fun σ1 => zrg v2 ∧ ((v2 = 0 → wX6_setOn_67 k r1 v3 v4 v5 t0 0 6 σ1) ∧ (¬ (v2 = 0) → wX6_setOn_67 k r1 v3 v4 v5 t0 v4 6 σ1)))
set_option maxRecDepth 100000 in
theorem sX6_setOn_36 {x : Cx} (C : zOk x cX6_setOn RX6 (some .int) (3) (67)) (hN : x.2.2.2.2.1 = 8) {k : Int → Hp → Prop} (E : zEnd x (zPi k x.2.1)) (r1 : Nat) (v2 : Int) (v3 : Int) (v4 : Int) (v5 : Int) (t0 : Int) (hr1 : r1 < 7) (σ : Hp) (h : wX6_setOn_36 k r1 v2 v3 v4 v5 t0 σ) : zV x σ 36 [(0, za x (0)), (1, za x (29 + r1)), (2, .int (zI (v2))), (3, .int (zI (v3))), (4, .int (zI (v4))), (5, .int (zI (v5)))] [.int (zI (t0))] := by
  unfold wX6_setOn_36 at h
  refine z_istore C [(6, .int (zI (t0))), (0, za x (0)), (1, za x (29 + r1)), (2, .int (zI (v2))), (3, .int (zI (v3))), (4, .int (zI (v4))), (5, .int (zI (v5)))] dX6_setOn_36 (by rw [hN]; decide) rfl ?_
  refine z_aload_n C 1 dX6_setOn_38 rfl rfl ?_
  refine g_X6_1 C kf_X6_16 dX6_setOn_39 ?_
  refine z_iload C 5 dX6_setOn_42 rfl ?_
  refine z_iconst C dX6_setOn_44 ?_
  refine z_iadd C dX6_setOn_45 ?_
  refine z_iload C 5 dX6_setOn_46 rfl ?_
  refine z_iconst C dX6_setOn_48 ?_
  refine z_iadd C dX6_setOn_49 ?_
  refine z_callV (av := fun w => [.int (zI (v4 + 1)), .int (zI (v4 + 1))]) C [] cs_X3_shape (by decide) (zcell_row (by decide)) rfl (mX3_shape 6 (v4 + 1) (v4 + 1) (by decide) σ _ h) km_X6_75 dX6_setOn_50 rfl rfl ⟨rfl, rfl⟩ ⟨by decide, by decide⟩ (Nat.le_of_ble_eq_true rfl) (fun rv σ1 hp => ?_)
  obtain ⟨rfl, h⟩ := hp
  change zV x σ1 53 [(6, .int (zI (t0))), (0, za x (0)), (1, za x (29 + r1)), (2, .int (zI (v2))), (3, .int (zI (v3))), (4, .int (zI (v4))), (5, .int (zI (v5)))] []
  refine z_aload_n C 1 dX6_setOn_53 rfl rfl ?_
  refine g_X6_1 C kf_X6_16 dX6_setOn_54 ?_
  refine z_iload_n C 3 dX6_setOn_57 rfl rfl ?_
  obtain ⟨o2, h⟩ := h
  refine z_if_eq C 66 dX6_setOn_58 (by decide) o2 (fun c3 => ?_) (fun c3 => ?_)
  · have h := h.1 c3
    refine z_iconst C dX6_setOn_66 ?_
    refine z_sub C [1, 2, 4, 5, 6, 0] [(0, za x (0)), (1, za x (29 + r1)), (3, .int (zI (v3))), (4, .int (zI (v4))), (5, .int (zI (v5))), (6, .int (zI (t0)))] rfl ?_
    exact sX6_setOn_67 C hN E r1 v3 v4 v5 t0 0 6 hr1 (by decide) σ1 h
  · have h := h.2 c3
    refine z_iload C 5 dX6_setOn_61 rfl ?_
    refine z_goto C 67 dX6_setOn_63 (by decide) ?_
    refine z_sub C [1, 2, 4, 5, 6, 0] [(0, za x (0)), (1, za x (29 + r1)), (3, .int (zI (v3))), (4, .int (zI (v4))), (5, .int (zI (v5))), (6, .int (zI (t0)))] rfl ?_
    exact sX6_setOn_67 C hN E r1 v3 v4 v5 t0 v4 6 hr1 (by decide) σ1 h
def wX6_setOn_25 (k : Int → Hp → Prop) (r1 : Nat) (v2 : Int) (v3 : Int) (v4 : Int) (t0 : Int) (σ : Hp) : Prop :=
  zrg v3 ∧ ((v3 = 0 → wX6_setOn_36 k r1 v2 v3 v4 t0 1 σ) ∧ (¬ (v3 = 0) → wX6_setOn_36 k r1 v2 v3 v4 t0 0 σ))
set_option maxRecDepth 100000 in
theorem sX6_setOn_25 {x : Cx} (C : zOk x cX6_setOn RX6 (some .int) (3) (67)) (hN : x.2.2.2.2.1 = 8) {k : Int → Hp → Prop} (E : zEnd x (zPi k x.2.1)) (r1 : Nat) (v2 : Int) (v3 : Int) (v4 : Int) (t0 : Int) (hr1 : r1 < 7) (σ : Hp) (h : wX6_setOn_25 k r1 v2 v3 v4 t0 σ) : zV x σ 25 [(0, za x (0)), (1, za x (29 + r1)), (2, .int (zI (v2))), (3, .int (zI (v3))), (4, .int (zI (v4)))] [.int (zI (t0))] := by
  unfold wX6_setOn_25 at h
  refine z_istore C [(5, .int (zI (t0))), (0, za x (0)), (1, za x (29 + r1)), (2, .int (zI (v2))), (3, .int (zI (v3))), (4, .int (zI (v4)))] dX6_setOn_25 (by rw [hN]; decide) rfl ?_
  refine z_iload_n C 4 dX6_setOn_27 rfl rfl ?_
  obtain ⟨o1, h⟩ := h
  refine z_if_eq C 35 dX6_setOn_28 (by decide) o1 (fun c2 => ?_) (fun c2 => ?_)
  · have h := h.1 c2
    refine z_iconst C dX6_setOn_35 ?_
    refine z_sub C [1, 2, 3, 4, 5, 0] [(0, za x (0)), (1, za x (29 + r1)), (2, .int (zI (v2))), (3, .int (zI (v3))), (4, .int (zI (v4))), (5, .int (zI (t0)))] rfl ?_
    exact sX6_setOn_36 C hN E r1 v2 v3 v4 t0 1 hr1 σ h
  · have h := h.2 c2
    refine z_iconst C dX6_setOn_31 ?_
    refine z_goto C 36 dX6_setOn_32 (by decide) ?_
    refine z_sub C [1, 2, 3, 4, 5, 0] [(0, za x (0)), (1, za x (29 + r1)), (2, .int (zI (v2))), (3, .int (zI (v3))), (4, .int (zI (v4))), (5, .int (zI (t0)))] rfl ?_
    exact sX6_setOn_36 C hN E r1 v2 v3 v4 t0 0 hr1 σ h
def wX6_setOn (r1 : Nat) (v2 : Int) (v3 : Int) (σ : Hp) (k : Int → Hp → Prop) : Prop :=
  wX3_columns r1 σ (fun a2 σ1 => zrg a2 ∧ ((a2 < 12 → zrg v2 ∧ ((v2 = 0 → wX6_setOn_25 k r1 v2 v3 a2 1 σ1) ∧ (¬ (v2 = 0) → wX6_setOn_25 k r1 v2 v3 a2 0 σ1))) ∧ (¬ (a2 < 12) → k ((-2)) σ1)))
set_option maxRecDepth 100000 in
theorem mX6_setOn (r1 : Nat) (v2 : Int) (v3 : Int) (hr1 : r1 < 7) (σ : Hp) (k : Int → Hp → Prop) (h : wX6_setOn r1 v2 v3 σ k) (l : Launch) : zMt l yX6_setOn cX6_setOn 8 (some .int) { frames := 3, cells := 0, slots := 0, locals := 67 } (fun w => [.ref (w.2.1 (0)), .ref (w.2.1 (29 + r1)), .int (zI (v2)), .int (zI (v3))]) σ (zPi k) := by
  refine zMt_of (plainFor_of_name (by decide)) (fun w => Nat.le_of_ble_eq_true rfl) (fun x hl hN C E => ?_)
  change zV x σ 0 [(0, za x (0)), (1, za x (29 + r1)), (2, .int (zI (v2))), (3, .int (zI (v3)))] []
  change zOk x cX6_setOn RX6 (some .int) (3) (67) at C
  unfold wX6_setOn at h
  refine z_aload_n C 1 dX6_setOn_0 rfl rfl ?_
  refine z_callV (av := fun w => []) C [] cs_X3_columns (by have := hr1; omega) (zcell_row hr1) rfl (mX3_columns r1 hr1 σ _ h) km_X6_71 dX6_setOn_1 rfl rfl ⟨rfl, rfl⟩ ⟨by decide, by decide⟩ (Nat.le_of_ble_eq_true rfl) (fun rv σ1 hp => ?_)
  obtain ⟨a2, rfl, h⟩ := hp
  change zV x σ1 4 [(0, za x (0)), (1, za x (29 + r1)), (2, .int (zI (v2))), (3, .int (zI (v3)))] [.int (zI (a2))]
  refine z_istore C [(4, .int (zI (a2))), (0, za x (0)), (1, za x (29 + r1)), (2, .int (zI (v2))), (3, .int (zI (v3)))] dX6_setOn_4 (by rw [hN]; decide) rfl ?_
  refine z_iload C 0 dX6_setOn_6 rfl ?_
  refine z_bipush C dX6_setOn_8 rfl ?_
  obtain ⟨o3, h⟩ := h
  refine z_icmp_lt C 16 dX6_setOn_10 (by decide) o3 (zrg_d rfl) (fun c4 => ?_) (fun c4 => ?_)
  · have h := h.1 c4
    refine z_iload_n C 3 dX6_setOn_16 rfl rfl ?_
    obtain ⟨o5, h⟩ := h
    refine z_if_eq C 24 dX6_setOn_17 (by decide) o5 (fun c6 => ?_) (fun c6 => ?_)
    · have h := h.1 c6
      refine z_iconst C dX6_setOn_24 ?_
      refine z_sub C [1, 2, 3, 4, 0] [(0, za x (0)), (1, za x (29 + r1)), (2, .int (zI (v2))), (3, .int (zI (v3))), (4, .int (zI (a2)))] rfl ?_
      exact sX6_setOn_25 C hN E r1 v2 v3 a2 1 hr1 σ1 h
    · have h := h.2 c6
      refine z_iconst C dX6_setOn_20 ?_
      refine z_goto C 25 dX6_setOn_21 (by decide) ?_
      refine z_sub C [1, 2, 3, 4, 0] [(0, za x (0)), (1, za x (29 + r1)), (2, .int (zI (v2))), (3, .int (zI (v3))), (4, .int (zI (a2)))] rfl ?_
      exact sX6_setOn_25 C hN E r1 v2 v3 a2 0 hr1 σ1 h
  · have h := h.2 c4
    refine z_bipush C dX6_setOn_13 rfl ?_
    exact z_iret C E dX6_setOn_15 ⟨_, rfl, h⟩
def wX6_takeOff_86 (k : Int → Hp → Prop) : Nat → Nat → Int → Int → Int → Int → Hp → Prop
  | 0, _, _, _, _, _, _ => False
  | n + 1, r1, v4, v5, v6, v7, σ => zrg v7 ∧ zrg (v4 - 1) ∧ ((v4 - 1 ≤ v7 → wX3_copyFrom r1 6 σ (fun σ4 => wX3_columns r1 σ4 (fun a6 σ5 => k a6 σ5))) ∧ (¬ (v4 - 1 ≤ v7) → wX3_lineAt r1 (v7 + v5) σ (fun a8 σ7 => wX3_put 6 v7 (a8 - v6) σ7 (fun σ9 => wX6_takeOff_86 k n r1 v4 v5 v6 (v7 + 1) σ9))))
set_option maxRecDepth 100000 in
theorem sX6_takeOff_86 {x : Cx} (C : zOk x cX6_takeOff RX6 (some .int) (3) (67)) (hN : x.2.2.2.2.1 = 8) {k : Int → Hp → Prop} (E : zEnd x (zPi k x.2.1)) : ∀ (n : Nat) (r1 : Nat) (v4 : Int) (v5 : Int) (v6 : Int) (v7 : Int) (hr1 : r1 < 7) (σ : Hp), wX6_takeOff_86 k n r1 v4 v5 v6 v7 σ → zV x σ 86 [(0, za x (0)), (1, za x (29 + r1)), (4, .int (zI (v4))), (5, .int (zI (v5))), (6, .int (zI (v6))), (7, .int (zI (v7)))] [] := by
  intro n
  induction n with
  | zero => intro _ _ _ _ _ _ _ h; exact h.elim
  | succ n ih =>
    intro r1 v4 v5 v6 v7 hr1 σ h
    unfold wX6_takeOff_86 at h
    refine z_iload C 5 dX6_takeOff_86 rfl ?_
    refine z_iload C 2 dX6_takeOff_88 rfl ?_
    refine z_iconst C dX6_takeOff_90 ?_
    refine z_isub C dX6_takeOff_91 ?_
    obtain ⟨o1, h⟩ := h
    obtain ⟨o2, h⟩ := h
    refine z_icmp_ge C 122 dX6_takeOff_92 (by decide) o1 o2 (fun c3 => ?_) (fun c3 => ?_)
    · have h := h.1 c3
      refine z_aload_n C 1 dX6_takeOff_122 rfl rfl ?_
      refine z_aload_n C 0 dX6_takeOff_123 rfl rfl ?_
      refine g_X6_1 C kf_X6_16 dX6_takeOff_124 ?_
      refine z_callV (av := fun w => [.ref (w.2.1 (29 + 6))]) C [] cs_X3_copyFrom (by have := hr1; omega) (zcell_row hr1) rfl (mX3_copyFrom r1 6 hr1 (by decide) σ _ h) km_X6_214 dX6_takeOff_127 rfl rfl ⟨rfl, rfl⟩ ⟨by decide, by decide⟩ (Nat.le_of_ble_eq_true rfl) (fun rv σ4 hp => ?_)
      obtain ⟨rfl, h⟩ := hp
      change zV x σ4 130 [(0, za x (0)), (1, za x (29 + r1)), (4, .int (zI (v4))), (5, .int (zI (v5))), (6, .int (zI (v6))), (7, .int (zI (v7)))] []
      refine z_aload_n C 1 dX6_takeOff_130 rfl rfl ?_
      refine z_callV (av := fun w => []) C [] cs_X3_columns (by have := hr1; omega) (zcell_row hr1) rfl (mX3_columns r1 hr1 σ4 _ h) km_X6_71 dX6_takeOff_131 rfl rfl ⟨rfl, rfl⟩ ⟨by decide, by decide⟩ (Nat.le_of_ble_eq_true rfl) (fun rv σ5 hp => ?_)
      obtain ⟨a6, rfl, h⟩ := hp
      change zV x σ5 134 [(0, za x (0)), (1, za x (29 + r1)), (4, .int (zI (v4))), (5, .int (zI (v5))), (6, .int (zI (v6))), (7, .int (zI (v7)))] [.int (zI (a6))]
      exact z_iret C E dX6_takeOff_134 ⟨_, rfl, h⟩
    · have h := h.2 c3
      refine z_aload_n C 0 dX6_takeOff_95 rfl rfl ?_
      refine g_X6_1 C kf_X6_16 dX6_takeOff_96 ?_
      refine z_iload C 5 dX6_takeOff_99 rfl ?_
      refine z_aload_n C 1 dX6_takeOff_101 rfl rfl ?_
      refine z_iload C 5 dX6_takeOff_102 rfl ?_
      refine z_iload C 3 dX6_takeOff_104 rfl ?_
      refine z_iadd C dX6_takeOff_106 ?_
      refine z_callV (av := fun w => [.int (zI (v7 + v5))]) C [.int (zI (v7)), za x (29 + 6)] cs_X3_lineAt (by have := hr1; omega) (zcell_row hr1) rfl (mX3_lineAt r1 (v7 + v5) hr1 σ _ h) km_X6_119 dX6_takeOff_107 rfl rfl ⟨rfl, rfl⟩ ⟨by decide, by decide⟩ (Nat.le_of_ble_eq_true rfl) (fun rv σ7 hp => ?_)
      obtain ⟨a8, rfl, h⟩ := hp
      change zV x σ7 110 [(0, za x (0)), (1, za x (29 + r1)), (4, .int (zI (v4))), (5, .int (zI (v5))), (6, .int (zI (v6))), (7, .int (zI (v7)))] [.int (zI (a8)), .int (zI (v7)), za x (29 + 6)]
      refine z_iload C 4 dX6_takeOff_110 rfl ?_
      refine z_isub C dX6_takeOff_112 ?_
      refine z_callV (av := fun w => [.int (zI (v7)), .int (zI (a8 - v6))]) C [] cs_X3_put (by decide) (zcell_row (by decide)) rfl (mX3_put 6 v7 (a8 - v6) (by decide) σ7 _ h) km_X6_83 dX6_takeOff_113 rfl rfl ⟨rfl, rfl⟩ ⟨by decide, by decide⟩ (Nat.le_of_ble_eq_true rfl) (fun rv σ9 hp => ?_)
      obtain ⟨rfl, h⟩ := hp
      change zV x σ9 116 [(0, za x (0)), (1, za x (29 + r1)), (4, .int (zI (v4))), (5, .int (zI (v5))), (6, .int (zI (v6))), (7, .int (zI (v7)))] []
      refine z_iinc C 5 [(7, .int (zI (v7 + 1))), (0, za x (0)), (1, za x (29 + r1)), (4, .int (zI (v4))), (5, .int (zI (v5))), (6, .int (zI (v6)))] dX6_takeOff_116 rfl (by rw [hN]; decide) rfl ?_
      refine z_goto C 86 dX6_takeOff_119 (by decide) ?_
      refine z_sub C [1, 2, 3, 4, 5, 0] [(0, za x (0)), (1, za x (29 + r1)), (4, .int (zI (v4))), (5, .int (zI (v5))), (6, .int (zI (v6))), (7, .int (zI (v7 + 1)))] rfl ?_
      exact ih r1 v4 v5 v6 (v7 + 1) hr1 σ9 h
def wX6_takeOff_66 (k : Int → Hp → Prop) (r1 : Nat) (v4 : Int) (v5 : Int) (t0 : Int) (σ : Hp) : Prop :=
  wX3_shape 6 (v4 - 1) (v4 - 1) σ (fun σ1 => (∃ N2, wX6_takeOff_86 k N2 r1 v4 v5 t0 0 σ1))
set_option maxRecDepth 100000 in
theorem sX6_takeOff_66 {x : Cx} (C : zOk x cX6_takeOff RX6 (some .int) (3) (67)) (hN : x.2.2.2.2.1 = 8) {k : Int → Hp → Prop} (E : zEnd x (zPi k x.2.1)) (r1 : Nat) (v4 : Int) (v5 : Int) (t0 : Int) (hr1 : r1 < 7) (σ : Hp) (h : wX6_takeOff_66 k r1 v4 v5 t0 σ) : zV x σ 66 [(0, za x (0)), (1, za x (29 + r1)), (4, .int (zI (v4))), (5, .int (zI (v5)))] [.int (zI (t0))] := by
  unfold wX6_takeOff_66 at h
  refine z_istore C [(6, .int (zI (t0))), (0, za x (0)), (1, za x (29 + r1)), (4, .int (zI (v4))), (5, .int (zI (v5)))] dX6_takeOff_66 (by rw [hN]; decide) rfl ?_
  refine z_aload_n C 1 dX6_takeOff_68 rfl rfl ?_
  refine g_X6_1 C kf_X6_16 dX6_takeOff_69 ?_
  refine z_iload C 3 dX6_takeOff_72 rfl ?_
  refine z_iconst C dX6_takeOff_74 ?_
  refine z_isub C dX6_takeOff_75 ?_
  refine z_iload C 3 dX6_takeOff_76 rfl ?_
  refine z_iconst C dX6_takeOff_78 ?_
  refine z_isub C dX6_takeOff_79 ?_
  refine z_callV (av := fun w => [.int (zI (v4 - 1)), .int (zI (v4 - 1))]) C [] cs_X3_shape (by decide) (zcell_row (by decide)) rfl (mX3_shape 6 (v4 - 1) (v4 - 1) (by decide) σ _ h) km_X6_75 dX6_takeOff_80 rfl rfl ⟨rfl, rfl⟩ ⟨by decide, by decide⟩ (Nat.le_of_ble_eq_true rfl) (fun rv σ1 hp => ?_)
  obtain ⟨rfl, h⟩ := hp
  change zV x σ1 83 [(6, .int (zI (t0))), (0, za x (0)), (1, za x (29 + r1)), (4, .int (zI (v4))), (5, .int (zI (v5)))] []
  refine z_iconst C dX6_takeOff_83 ?_
  refine z_istore C [(7, .int (zI (0))), (6, .int (zI (t0))), (0, za x (0)), (1, za x (29 + r1)), (4, .int (zI (v4))), (5, .int (zI (v5)))] dX6_takeOff_84 (by rw [hN]; decide) rfl ?_
  refine z_sub C [2, 3, 4, 5, 1, 0] [(0, za x (0)), (1, za x (29 + r1)), (4, .int (zI (v4))), (5, .int (zI (v5))), (6, .int (zI (t0))), (7, .int (zI (0)))] rfl ?_
  obtain ⟨n2, h⟩ := h
  exact sX6_takeOff_86 C hN E n2 r1 v4 v5 t0 0 hr1 σ1 h
def wX6_takeOff_55 (k : Int → Hp → Prop) (r1 : Nat) (v3 : Int) (v4 : Int) (t0 : Int) (σ : Hp) : Prop :=
  zrg v3 ∧ ((v3 = 0 → wX6_takeOff_66 k r1 v4 t0 1 σ) ∧ (¬ (v3 = 0) → wX6_takeOff_66 k r1 v4 t0 0 σ))
set_option maxRecDepth 100000 in
theorem sX6_takeOff_55 {x : Cx} (C : zOk x cX6_takeOff RX6 (some .int) (3) (67)) (hN : x.2.2.2.2.1 = 8) {k : Int → Hp → Prop} (E : zEnd x (zPi k x.2.1)) (r1 : Nat) (v3 : Int) (v4 : Int) (t0 : Int) (hr1 : r1 < 7) (σ : Hp) (h : wX6_takeOff_55 k r1 v3 v4 t0 σ) : zV x σ 55 [(0, za x (0)), (1, za x (29 + r1)), (3, .int (zI (v3))), (4, .int (zI (v4)))] [.int (zI (t0))] := by
  unfold wX6_takeOff_55 at h
  refine z_istore C [(5, .int (zI (t0))), (0, za x (0)), (1, za x (29 + r1)), (3, .int (zI (v3))), (4, .int (zI (v4)))] dX6_takeOff_55 (by rw [hN]; decide) rfl ?_
  refine z_iload_n C 3 dX6_takeOff_57 rfl rfl ?_
  obtain ⟨o1, h⟩ := h
  refine z_if_eq C 65 dX6_takeOff_58 (by decide) o1 (fun c2 => ?_) (fun c2 => ?_)
  · have h := h.1 c2
    refine z_iconst C dX6_takeOff_65 ?_
    refine z_sub C [1, 2, 4, 0] [(0, za x (0)), (1, za x (29 + r1)), (4, .int (zI (v4))), (5, .int (zI (t0)))] rfl ?_
    exact sX6_takeOff_66 C hN E r1 v4 t0 1 hr1 σ h
  · have h := h.2 c2
    refine z_iconst C dX6_takeOff_61 ?_
    refine z_goto C 66 dX6_takeOff_62 (by decide) ?_
    refine z_sub C [1, 2, 4, 0] [(0, za x (0)), (1, za x (29 + r1)), (4, .int (zI (v4))), (5, .int (zI (t0)))] rfl ?_
    exact sX6_takeOff_66 C hN E r1 v4 t0 0 hr1 σ h
def wX6_takeOff_37 (k : Int → Hp → Prop) (r1 : Nat) (v2 : Int) (v3 : Int) (v4 : Int) (t0 : Int) (t1 : Int) (s2 : Nat) (σ : Hp) : Prop :=
  wX3_hasMark s2 t1 t0 σ (fun a2 σ1 => zrg a2 ∧ ((a2 ≠ 0 → zrg v2 ∧ ((v2 = 0 → wX6_takeOff_55 k r1 v3 v4 1 σ1) ∧ (¬ (v2 = 0) → wX6_takeOff_55 k r1 v3 v4 0 σ1))) ∧ (¬ (a2 ≠ 0) → k ((-2)) σ1)))
set_option maxRecDepth 100000 in
theorem sX6_takeOff_37 {x : Cx} (C : zOk x cX6_takeOff RX6 (some .int) (3) (67)) (hN : x.2.2.2.2.1 = 8) {k : Int → Hp → Prop} (E : zEnd x (zPi k x.2.1)) (r1 : Nat) (v2 : Int) (v3 : Int) (v4 : Int) (t0 : Int) (t1 : Int) (s2 : Nat) (hr1 : r1 < 7) (hs2 : s2 < 7) (σ : Hp) (h : wX6_takeOff_37 k r1 v2 v3 v4 t0 t1 s2 σ) : zV x σ 37 [(0, za x (0)), (1, za x (29 + r1)), (2, .int (zI (v2))), (3, .int (zI (v3))), (4, .int (zI (v4)))] [.int (zI (t0)), .int (zI (t1)), za x (29 + s2)] := by
  unfold wX6_takeOff_37 at h
  refine z_callV (av := fun w => [.int (zI (t1)), .int (zI (t0))]) C [] cs_X3_hasMark (by have := hs2; omega) (zcell_row hs2) rfl (mX3_hasMark s2 t1 t0 hs2 σ _ h) km_X6_275 dX6_takeOff_37 rfl rfl ⟨rfl, rfl⟩ ⟨by decide, by decide⟩ (Nat.le_of_ble_eq_true rfl) (fun rv σ1 hp => ?_)
  obtain ⟨a2, rfl, h⟩ := hp
  change zV x σ1 40 [(0, za x (0)), (1, za x (29 + r1)), (2, .int (zI (v2))), (3, .int (zI (v3))), (4, .int (zI (v4)))] [.int (zI (a2))]
  obtain ⟨o3, h⟩ := h
  refine z_if_ne C 46 dX6_takeOff_40 (by decide) o3 (fun c4 => ?_) (fun c4 => ?_)
  · have h := h.1 c4
    refine z_iload_n C 2 dX6_takeOff_46 rfl rfl ?_
    obtain ⟨o5, h⟩ := h
    refine z_if_eq C 54 dX6_takeOff_47 (by decide) o5 (fun c6 => ?_) (fun c6 => ?_)
    · have h := h.1 c6
      refine z_iconst C dX6_takeOff_54 ?_
      refine z_sub C [0, 1, 3, 4] [(0, za x (0)), (1, za x (29 + r1)), (3, .int (zI (v3))), (4, .int (zI (v4)))] rfl ?_
      exact sX6_takeOff_55 C hN E r1 v3 v4 1 hr1 σ1 h
    · have h := h.2 c6
      refine z_iconst C dX6_takeOff_50 ?_
      refine z_goto C 55 dX6_takeOff_51 (by decide) ?_
      refine z_sub C [0, 1, 3, 4] [(0, za x (0)), (1, za x (29 + r1)), (3, .int (zI (v3))), (4, .int (zI (v4)))] rfl ?_
      exact sX6_takeOff_55 C hN E r1 v3 v4 0 hr1 σ1 h
  · have h := h.2 c4
    refine z_bipush C dX6_takeOff_43 rfl ?_
    exact z_iret C E dX6_takeOff_45 ⟨_, rfl, h⟩
def wX6_takeOff_25 (k : Int → Hp → Prop) (r1 : Nat) (v2 : Int) (v3 : Int) (v4 : Int) (t0 : Int) (s1 : Nat) (σ : Hp) : Prop :=
  zrg v3 ∧ ((v3 = 0 → wX6_takeOff_37 k r1 v2 v3 v4 0 t0 s1 σ) ∧ (¬ (v3 = 0) → wX6_takeOff_37 k r1 v2 v3 v4 (v4 - 1) t0 s1 σ))
set_option maxRecDepth 100000 in
theorem sX6_takeOff_25 {x : Cx} (C : zOk x cX6_takeOff RX6 (some .int) (3) (67)) (hN : x.2.2.2.2.1 = 8) {k : Int → Hp → Prop} (E : zEnd x (zPi k x.2.1)) (r1 : Nat) (v2 : Int) (v3 : Int) (v4 : Int) (t0 : Int) (s1 : Nat) (hr1 : r1 < 7) (hs1 : s1 < 7) (σ : Hp) (h : wX6_takeOff_25 k r1 v2 v3 v4 t0 s1 σ) : zV x σ 25 [(0, za x (0)), (1, za x (29 + r1)), (2, .int (zI (v2))), (3, .int (zI (v3))), (4, .int (zI (v4)))] [.int (zI (t0)), za x (29 + s1)] := by
  unfold wX6_takeOff_25 at h
  refine z_iload_n C 3 dX6_takeOff_25 rfl rfl ?_
  obtain ⟨o1, h⟩ := h
  refine z_if_eq C 36 dX6_takeOff_26 (by decide) o1 (fun c2 => ?_) (fun c2 => ?_)
  · have h := h.1 c2
    refine z_iconst C dX6_takeOff_36 ?_
    exact sX6_takeOff_37 C hN E r1 v2 v3 v4 0 t0 s1 hr1 hs1 σ h
  · have h := h.2 c2
    refine z_iload C 4 dX6_takeOff_29 rfl ?_
    refine z_iconst C dX6_takeOff_31 ?_
    refine z_isub C dX6_takeOff_32 ?_
    refine z_goto C 37 dX6_takeOff_33 (by decide) ?_
    exact sX6_takeOff_37 C hN E r1 v2 v3 v4 (v4 - 1) t0 s1 hr1 hs1 σ h
def wX6_takeOff (r1 : Nat) (v2 : Int) (v3 : Int) (σ : Hp) (k : Int → Hp → Prop) : Prop :=
  wX3_columns r1 σ (fun a2 σ1 => zrg a2 ∧ ((a2 < 2 → k ((-2)) σ1) ∧ (¬ (a2 < 2) → zrg v2 ∧ ((v2 = 0 → wX6_takeOff_25 k r1 v2 v3 a2 0 r1 σ1) ∧ (¬ (v2 = 0) → wX6_takeOff_25 k r1 v2 v3 a2 (a2 - 1) r1 σ1)))))
set_option maxRecDepth 100000 in
theorem mX6_takeOff (r1 : Nat) (v2 : Int) (v3 : Int) (hr1 : r1 < 7) (σ : Hp) (k : Int → Hp → Prop) (h : wX6_takeOff r1 v2 v3 σ k) (l : Launch) : zMt l yX6_takeOff cX6_takeOff 8 (some .int) { frames := 3, cells := 0, slots := 0, locals := 67 } (fun w => [.ref (w.2.1 (0)), .ref (w.2.1 (29 + r1)), .int (zI (v2)), .int (zI (v3))]) σ (zPi k) := by
  refine zMt_of (plainFor_of_name (by decide)) (fun w => Nat.le_of_ble_eq_true rfl) (fun x hl hN C E => ?_)
  change zV x σ 0 [(0, za x (0)), (1, za x (29 + r1)), (2, .int (zI (v2))), (3, .int (zI (v3)))] []
  change zOk x cX6_takeOff RX6 (some .int) (3) (67) at C
  unfold wX6_takeOff at h
  refine z_aload_n C 1 dX6_takeOff_0 rfl rfl ?_
  refine z_callV (av := fun w => []) C [] cs_X3_columns (by have := hr1; omega) (zcell_row hr1) rfl (mX3_columns r1 hr1 σ _ h) km_X6_71 dX6_takeOff_1 rfl rfl ⟨rfl, rfl⟩ ⟨by decide, by decide⟩ (Nat.le_of_ble_eq_true rfl) (fun rv σ1 hp => ?_)
  obtain ⟨a2, rfl, h⟩ := hp
  change zV x σ1 4 [(0, za x (0)), (1, za x (29 + r1)), (2, .int (zI (v2))), (3, .int (zI (v3)))] [.int (zI (a2))]
  refine z_istore C [(4, .int (zI (a2))), (0, za x (0)), (1, za x (29 + r1)), (2, .int (zI (v2))), (3, .int (zI (v3)))] dX6_takeOff_4 (by rw [hN]; decide) rfl ?_
  refine z_iload C 0 dX6_takeOff_6 rfl ?_
  refine z_iconst C dX6_takeOff_8 ?_
  obtain ⟨o3, h⟩ := h
  refine z_icmp_lt C 43 dX6_takeOff_9 (by decide) o3 (zrg_d rfl) (fun c4 => ?_) (fun c4 => ?_)
  · have h := h.1 c4
    refine z_bipush C dX6_takeOff_43 rfl ?_
    exact z_iret C E dX6_takeOff_45 ⟨_, rfl, h⟩
  · have h := h.2 c4
    refine z_aload_n C 2 dX6_takeOff_12 rfl rfl ?_
    refine z_iload_n C 3 dX6_takeOff_13 rfl rfl ?_
    obtain ⟨o5, h⟩ := h
    refine z_if_eq C 24 dX6_takeOff_14 (by decide) o5 (fun c6 => ?_) (fun c6 => ?_)
    · have h := h.1 c6
      refine z_iconst C dX6_takeOff_24 ?_
      refine z_sub C [1, 2, 3, 4, 0] [(0, za x (0)), (1, za x (29 + r1)), (2, .int (zI (v2))), (3, .int (zI (v3))), (4, .int (zI (a2)))] rfl ?_
      exact sX6_takeOff_25 C hN E r1 v2 v3 a2 0 r1 hr1 hr1 σ1 h
    · have h := h.2 c6
      refine z_iload C 0 dX6_takeOff_17 rfl ?_
      refine z_iconst C dX6_takeOff_19 ?_
      refine z_isub C dX6_takeOff_20 ?_
      refine z_goto C 25 dX6_takeOff_21 (by decide) ?_
      refine z_sub C [1, 2, 3, 4, 0] [(0, za x (0)), (1, za x (29 + r1)), (2, .int (zI (v2))), (3, .int (zI (v3))), (4, .int (zI (a2)))] rfl ?_
      exact sX6_takeOff_25 C hN E r1 v2 v3 a2 (a2 - 1) r1 hr1 hr1 σ1 h
def wX6_corner_58 (k : Int → Hp → Prop) (v3 : Int) (r4 : Nat) (v5 : Int) (t0 : Int) (σ : Hp) : Prop :=
  zrg v3 ∧ ((v3 = 0 → wX6_takeOff r4 v5 t0 σ (fun a4 σ3 => k a4 σ3)) ∧ (¬ (v3 = 0) → wX6_setOn r4 v5 t0 σ (fun a6 σ5 => k a6 σ5)))
set_option maxRecDepth 100000 in
theorem sX6_corner_58 {x : Cx} (C : zOk x cX6_corner RX6 (some .int) (4) (94)) (hN : x.2.2.2.2.1 = 7) {k : Int → Hp → Prop} (E : zEnd x (zPi k x.2.1)) (v3 : Int) (r4 : Nat) (v5 : Int) (t0 : Int) (hr4 : r4 < 7) (σ : Hp) (h : wX6_corner_58 k v3 r4 v5 t0 σ) : zV x σ 58 [(0, za x (0)), (3, .int (zI (v3))), (4, za x (29 + r4)), (5, .int (zI (v5)))] [.int (zI (t0))] := by
  unfold wX6_corner_58 at h
  refine z_istore C [(6, .int (zI (t0))), (0, za x (0)), (3, .int (zI (v3))), (4, za x (29 + r4)), (5, .int (zI (v5)))] dX6_corner_58 (by rw [hN]; decide) rfl ?_
  refine z_iload_n C 2 dX6_corner_60 rfl rfl ?_
  obtain ⟨o1, h⟩ := h
  refine z_if_eq C 77 dX6_corner_61 (by decide) o1 (fun c2 => ?_) (fun c2 => ?_)
  · have h := h.1 c2
    refine z_aload_n C 1 dX6_corner_77 rfl rfl ?_
    refine z_aload C 3 dX6_corner_78 rfl ?_
    refine z_iload C 4 dX6_corner_80 rfl ?_
    refine z_iload C 0 dX6_corner_82 rfl ?_
    refine z_callV (av := fun w => [.ref (w.2.1 (29 + r4)), .int (zI (v5)), .int (zI (t0))]) C [] cs_X6_takeOff (by decide) (fun _ _ => rfl) rfl (mX6_takeOff r4 v5 t0 hr4 σ _ h) km_X6_224 dX6_corner_84 rfl rfl ⟨rfl, rfl⟩ ⟨by decide, by decide⟩ (Nat.le_of_ble_eq_true rfl) (fun rv σ3 hp => ?_)
    obtain ⟨a4, rfl, h⟩ := hp
    change zV x σ3 87 [(6, .int (zI (t0))), (0, za x (0)), (3, .int (zI (v3))), (4, za x (29 + r4)), (5, .int (zI (v5)))] [.int (zI (a4))]
    exact z_iret C E dX6_corner_87 ⟨_, rfl, h⟩
  · have h := h.2 c2
    refine z_aload_n C 1 dX6_corner_64 rfl rfl ?_
    refine z_aload C 3 dX6_corner_65 rfl ?_
    refine z_iload C 4 dX6_corner_67 rfl ?_
    refine z_iload C 0 dX6_corner_69 rfl ?_
    refine z_callV (av := fun w => [.ref (w.2.1 (29 + r4)), .int (zI (v5)), .int (zI (t0))]) C [] cs_X6_setOn (by decide) (fun _ _ => rfl) rfl (mX6_setOn r4 v5 t0 hr4 σ _ h) km_X6_220 dX6_corner_71 rfl rfl ⟨rfl, rfl⟩ ⟨by decide, by decide⟩ (Nat.le_of_ble_eq_true rfl) (fun rv σ5 hp => ?_)
    obtain ⟨a6, rfl, h⟩ := hp
    change zV x σ5 74 [(6, .int (zI (t0))), (0, za x (0)), (3, .int (zI (v3))), (4, za x (29 + r4)), (5, .int (zI (v5)))] [.int (zI (a6))]
    refine z_goto C 87 dX6_corner_74 (by decide) ?_
    exact z_iret C E dX6_corner_87 ⟨_, rfl, h⟩
def wX6_corner_45 (k : Int → Hp → Prop) (v2 : Int) (v3 : Int) (r4 : Nat) (t0 : Int) (σ : Hp) : Prop :=
  zrg (zand v2 2) ∧ ((zand v2 2 = 0 → wX6_corner_58 k v3 r4 t0 0 σ) ∧ (¬ (zand v2 2 = 0) → wX6_corner_58 k v3 r4 t0 1 σ))
set_option maxRecDepth 100000 in
theorem sX6_corner_45 {x : Cx} (C : zOk x cX6_corner RX6 (some .int) (4) (94)) (hN : x.2.2.2.2.1 = 7) {k : Int → Hp → Prop} (E : zEnd x (zPi k x.2.1)) (v2 : Int) (v3 : Int) (r4 : Nat) (t0 : Int) (hr4 : r4 < 7) (σ : Hp) (h : wX6_corner_45 k v2 v3 r4 t0 σ) : zV x σ 45 [(0, za x (0)), (2, .int (zI (v2))), (3, .int (zI (v3))), (4, za x (29 + r4))] [.int (zI (t0))] := by
  unfold wX6_corner_45 at h
  refine z_istore C [(5, .int (zI (t0))), (0, za x (0)), (2, .int (zI (v2))), (3, .int (zI (v3))), (4, za x (29 + r4))] dX6_corner_45 (by rw [hN]; decide) rfl ?_
  refine z_iload_n C 2 dX6_corner_47 rfl rfl ?_
  refine z_iconst C dX6_corner_48 ?_
  refine z_iand C dX6_corner_49 ?_
  obtain ⟨o1, h⟩ := h
  refine z_if_eq C 57 dX6_corner_50 (by decide) o1 (fun c2 => ?_) (fun c2 => ?_)
  · have h := h.1 c2
    refine z_iconst C dX6_corner_57 ?_
    refine z_sub C [1, 3, 4, 0] [(0, za x (0)), (3, .int (zI (v3))), (4, za x (29 + r4)), (5, .int (zI (t0)))] rfl ?_
    exact sX6_corner_58 C hN E v3 r4 t0 0 hr4 σ h
  · have h := h.2 c2
    refine z_iconst C dX6_corner_53 ?_
    refine z_goto C 58 dX6_corner_54 (by decide) ?_
    refine z_sub C [1, 3, 4, 0] [(0, za x (0)), (3, .int (zI (v3))), (4, za x (29 + r4)), (5, .int (zI (t0)))] rfl ?_
    exact sX6_corner_58 C hN E v3 r4 t0 1 hr4 σ h
def wX6_corner (v1 : Int) (v2 : Int) (v3 : Int) (σ : Hp) (k : Int → Hp → Prop) : Prop :=
  wX6_rowAt v1 σ (fun w13 σ1 => (w13 = none → k ((-1)) σ1) ∧ ∀ q2, w13 = some q2 → wX6_within v2 0 3 σ1 (fun a4 σ3 => zrg a4 ∧ ((a4 ≠ 0 → wX3_isSquare q2 σ3 (fun a8 σ7 => zrg a8 ∧ ((a8 ≠ 0 → zrg (zand v2 1) ∧ ((zand v2 1 = 0 → wX6_corner_45 k v2 v3 q2 0 σ7) ∧ (¬ (zand v2 1 = 0) → wX6_corner_45 k v2 v3 q2 1 σ7))) ∧ (¬ (a8 ≠ 0) → k ((-2)) σ7)))) ∧ (¬ (a4 ≠ 0) → k ((-1)) σ3))))
set_option maxRecDepth 100000 in
theorem mX6_corner (v1 : Int) (v2 : Int) (v3 : Int) (σ : Hp) (k : Int → Hp → Prop) (h : wX6_corner v1 v2 v3 σ k) (l : Launch) : zMt l yX6_corner cX6_corner 7 (some .int) { frames := 4, cells := 0, slots := 0, locals := 94 } (fun w => [.ref (w.2.1 (0)), .int (zI (v1)), .int (zI (v2)), .int (zI (v3))]) σ (zPi k) := by
  refine zMt_of (plainFor_of_name (by decide)) (fun w => Nat.le_of_ble_eq_true rfl) (fun x hl hN C E => ?_)
  change zV x σ 0 [(0, za x (0)), (1, .int (zI (v1))), (2, .int (zI (v2))), (3, .int (zI (v3)))] []
  change zOk x cX6_corner RX6 (some .int) (4) (94) at C
  unfold wX6_corner at h
  refine z_aload_n C 0 dX6_corner_0 rfl rfl ?_
  refine z_iload_n C 1 dX6_corner_1 rfl rfl ?_
  refine z_callV (av := fun w => [.int (zI (v1))]) C [] cs_X6_rowAt (by decide) (fun _ _ => rfl) rfl (mX6_rowAt v1  σ _ h) km_X6_59 dX6_corner_2 rfl rfl ⟨rfl, rfl⟩ ⟨by decide, by decide⟩ (Nat.le_of_ble_eq_true rfl) (fun rv σ1 hp => ?_)
  rcases hp with ⟨rfl, h⟩ | ⟨q2, hq2, rfl, h⟩
  · have h := h.1 rfl
    change zV x σ1 5 [(0, za x (0)), (1, .int (zI (v1))), (2, .int (zI (v2))), (3, .int (zI (v3)))] [.null]
    refine z_astoreN C [(4, .null), (0, za x (0)), (1, .int (zI (v1))), (2, .int (zI (v2))), (3, .int (zI (v3)))] dX6_corner_5 (by rw [hN]; decide) rfl ?_
    refine z_aloadN C 0 dX6_corner_7 rfl ?_
    refine z_ifnullN C 21 dX6_corner_9 (by decide) ?_
    refine z_iconst C dX6_corner_21 ?_
    exact z_iret C E dX6_corner_22 ⟨_, rfl, h⟩
  · have h := h.2 q2 rfl
    change zV x σ1 5 [(0, za x (0)), (1, .int (zI (v1))), (2, .int (zI (v2))), (3, .int (zI (v3)))] [za x (29 + q2)]
    refine z_astore C [(4, za x (29 + q2)), (0, za x (0)), (1, .int (zI (v1))), (2, .int (zI (v2))), (3, .int (zI (v3)))] dX6_corner_5 (by rw [hN]; decide) rfl ?_
    refine z_aload C 0 dX6_corner_7 rfl ?_
    refine z_ifnull C dX6_corner_9 ?_
    refine z_iload_n C 3 dX6_corner_12 rfl rfl ?_
    refine z_iconst C dX6_corner_13 ?_
    refine z_iconst C dX6_corner_14 ?_
    refine z_callS (av := fun w => [.int (zI (v2)), .int (zI (0)), .int (zI (3))]) C [] cs_X6_within (mX6_within v2 0 3  σ1 _ h) km_X6_63 dX6_corner_15 rfl rfl ⟨rfl, rfl⟩ ⟨by decide, by decide⟩ (Nat.le_of_ble_eq_true rfl) (fun rv σ3 hp => ?_)
    obtain ⟨a4, rfl, h⟩ := hp
    change zV x σ3 18 [(4, za x (29 + q2)), (0, za x (0)), (1, .int (zI (v1))), (2, .int (zI (v2))), (3, .int (zI (v3)))] [.int (zI (a4))]
    obtain ⟨o5, h⟩ := h
    refine z_if_ne C 23 dX6_corner_18 (by decide) o5 (fun c6 => ?_) (fun c6 => ?_)
    · have h := h.1 c6
      refine z_aload C 0 dX6_corner_23 rfl ?_
      refine z_callV (av := fun w => []) C [] cs_X3_isSquare (by have := hq2; omega) (zcell_row hq2) rfl (mX3_isSquare q2 hq2 σ3 _ h) km_X6_206 dX6_corner_25 rfl rfl ⟨rfl, rfl⟩ ⟨by decide, by decide⟩ (Nat.le_of_ble_eq_true rfl) (fun rv σ7 hp => ?_)
      obtain ⟨a8, rfl, h⟩ := hp
      change zV x σ7 28 [(4, za x (29 + q2)), (0, za x (0)), (1, .int (zI (v1))), (2, .int (zI (v2))), (3, .int (zI (v3)))] [.int (zI (a8))]
      obtain ⟨o9, h⟩ := h
      refine z_if_ne C 34 dX6_corner_28 (by decide) o9 (fun c10 => ?_) (fun c10 => ?_)
      · have h := h.1 c10
        refine z_iload_n C 3 dX6_corner_34 rfl rfl ?_
        refine z_iconst C dX6_corner_35 ?_
        refine z_iand C dX6_corner_36 ?_
        obtain ⟨o11, h⟩ := h
        refine z_if_eq C 44 dX6_corner_37 (by decide) o11 (fun c12 => ?_) (fun c12 => ?_)
        · have h := h.1 c12
          refine z_iconst C dX6_corner_44 ?_
          refine z_sub C [1, 3, 4, 0] [(0, za x (0)), (2, .int (zI (v2))), (3, .int (zI (v3))), (4, za x (29 + q2))] rfl ?_
          exact sX6_corner_45 C hN E v2 v3 q2 0 hq2 σ7 h
        · have h := h.2 c12
          refine z_iconst C dX6_corner_40 ?_
          refine z_goto C 45 dX6_corner_41 (by decide) ?_
          refine z_sub C [1, 3, 4, 0] [(0, za x (0)), (2, .int (zI (v2))), (3, .int (zI (v3))), (4, za x (29 + q2))] rfl ?_
          exact sX6_corner_45 C hN E v2 v3 q2 1 hq2 σ7 h
      · have h := h.2 c10
        refine z_bipush C dX6_corner_31 rfl ?_
        exact z_iret C E dX6_corner_33 ⟨_, rfl, h⟩
    · have h := h.2 c6
      refine z_iconst C dX6_corner_21 ?_
      exact z_iret C E dX6_corner_22 ⟨_, rfl, h⟩
def wX6_marksInAll_4 (k : Int → Hp → Prop) : Nat → Int → Int → Hp → Prop
  | 0, _, _, _ => False
  | n + 1, v1, v2, σ => zrg v2 ∧ ((6 ≤ v2 → k v1 σ) ∧ (¬ (6 ≤ v2) → wX6_rowAt v2 σ (fun w7 σ3 => (w7 = none → wX6_marksInAll_4 k n v1 (v2 + 1) σ3) ∧ ∀ q4, w7 = some q4 → wX3_markCount q4 σ3 (fun a6 σ5 => wX6_marksInAll_4 k n (v1 + a6) (v2 + 1) σ5))))
set_option maxRecDepth 100000 in
theorem sX6_marksInAll_4 {x : Cx} (C : zOk x cX6_marksInAll RX6 (some .int) (4) (86)) (hN : x.2.2.2.2.1 = 4) {k : Int → Hp → Prop} (E : zEnd x (zPi k x.2.1)) : ∀ (n : Nat) (v1 : Int) (v2 : Int) (σ : Hp), wX6_marksInAll_4 k n v1 v2 σ → zV x σ 4 [(0, za x (0)), (1, .int (zI (v1))), (2, .int (zI (v2)))] [] := by
  intro n
  induction n with
  | zero => intro _ _ _ h; exact h.elim
  | succ n ih =>
    intro v1 v2 σ h
    unfold wX6_marksInAll_4 at h
    refine z_iload_n C 2 dX6_marksInAll_4 rfl rfl ?_
    refine z_bipush C dX6_marksInAll_5 rfl ?_
    obtain ⟨o1, h⟩ := h
    refine z_icmp_ge C 33 dX6_marksInAll_7 (by decide) o1 (zrg_d rfl) (fun c2 => ?_) (fun c2 => ?_)
    · have h := h.1 c2
      refine z_iload_n C 1 dX6_marksInAll_33 rfl rfl ?_
      exact z_iret C E dX6_marksInAll_34 ⟨_, rfl, h⟩
    · have h := h.2 c2
      refine z_aload_n C 0 dX6_marksInAll_10 rfl rfl ?_
      refine z_iload_n C 2 dX6_marksInAll_11 rfl rfl ?_
      refine z_callV (av := fun w => [.int (zI (v2))]) C [] cs_X6_rowAt (by decide) (fun _ _ => rfl) rfl (mX6_rowAt v2  σ _ h) km_X6_59 dX6_marksInAll_12 rfl rfl ⟨rfl, rfl⟩ ⟨by decide, by decide⟩ (Nat.le_of_ble_eq_true rfl) (fun rv σ3 hp => ?_)
      rcases hp with ⟨rfl, h⟩ | ⟨q4, hq4, rfl, h⟩
      · have h := h.1 rfl
        change zV x σ3 15 [(0, za x (0)), (1, .int (zI (v1))), (2, .int (zI (v2)))] [.null]
        refine z_astore_nN C [(3, .null), (0, za x (0)), (1, .int (zI (v1))), (2, .int (zI (v2)))] dX6_marksInAll_15 rfl (by rw [hN]; decide) rfl ?_
        refine z_aload_nN C 0 dX6_marksInAll_16 rfl rfl ?_
        refine z_ifnullN C 27 dX6_marksInAll_17 (by decide) ?_
        refine z_iinc C 3 [(2, .int (zI (v2 + 1))), (3, .null), (0, za x (0)), (1, .int (zI (v1)))] dX6_marksInAll_27 rfl (by rw [hN]; decide) rfl ?_
        refine z_goto C 4 dX6_marksInAll_30 (by decide) ?_
        refine z_sub C [2, 3, 0] [(0, za x (0)), (1, .int (zI (v1))), (2, .int (zI (v2 + 1)))] rfl ?_
        exact ih v1 (v2 + 1)  σ3 h
      · have h := h.2 q4 rfl
        change zV x σ3 15 [(0, za x (0)), (1, .int (zI (v1))), (2, .int (zI (v2)))] [za x (29 + q4)]
        refine z_astore_n C [(3, za x (29 + q4)), (0, za x (0)), (1, .int (zI (v1))), (2, .int (zI (v2)))] dX6_marksInAll_15 rfl (by rw [hN]; decide) rfl ?_
        refine z_aload_n C 0 dX6_marksInAll_16 rfl rfl ?_
        refine z_ifnull C dX6_marksInAll_17 ?_
        refine z_iload_n C 2 dX6_marksInAll_20 rfl rfl ?_
        refine z_aload_n C 0 dX6_marksInAll_21 rfl rfl ?_
        refine z_callV (av := fun w => []) C [.int (zI (v1))] cs_X3_markCount (by have := hq4; omega) (zcell_row hq4) rfl (mX3_markCount q4 hq4 σ3 _ h) km_X6_278 dX6_marksInAll_22 rfl rfl ⟨rfl, rfl⟩ ⟨by decide, by decide⟩ (Nat.le_of_ble_eq_true rfl) (fun rv σ5 hp => ?_)
        obtain ⟨a6, rfl, h⟩ := hp
        change zV x σ5 25 [(3, za x (29 + q4)), (0, za x (0)), (1, .int (zI (v1))), (2, .int (zI (v2)))] [.int (zI (a6)), .int (zI (v1))]
        refine z_iadd C dX6_marksInAll_25 ?_
        refine z_istore_n C [(1, .int (zI (v1 + a6))), (3, za x (29 + q4)), (0, za x (0)), (2, .int (zI (v2)))] dX6_marksInAll_26 rfl (by rw [hN]; decide) rfl ?_
        refine z_iinc C 3 [(2, .int (zI (v2 + 1))), (1, .int (zI (v1 + a6))), (3, za x (29 + q4)), (0, za x (0))] dX6_marksInAll_27 rfl (by rw [hN]; decide) rfl ?_
        refine z_goto C 4 dX6_marksInAll_30 (by decide) ?_
        refine z_sub C [3, 1, 0] [(0, za x (0)), (1, .int (zI (v1 + a6))), (2, .int (zI (v2 + 1)))] rfl ?_
        exact ih (v1 + a6) (v2 + 1)  σ5 h
def wX6_marksInAll (σ : Hp) (k : Int → Hp → Prop) : Prop :=
  (∃ N1, wX6_marksInAll_4 k N1 0 0 σ)
set_option maxRecDepth 100000 in
theorem mX6_marksInAll (σ : Hp) (k : Int → Hp → Prop) (h : wX6_marksInAll  σ k) (l : Launch) : zMt l yX6_marksInAll cX6_marksInAll 4 (some .int) { frames := 4, cells := 0, slots := 0, locals := 86 } (fun w => [.ref (w.2.1 (0))]) σ (zPi k) := by
  refine zMt_of (plainFor_of_name (by decide)) (fun w => Nat.le_of_ble_eq_true rfl) (fun x hl hN C E => ?_)
  change zV x σ 0 [(0, za x (0))] []
  change zOk x cX6_marksInAll RX6 (some .int) (4) (86) at C
  unfold wX6_marksInAll at h
  refine z_iconst C dX6_marksInAll_0 ?_
  refine z_istore_n C [(1, .int (zI (0))), (0, za x (0))] dX6_marksInAll_1 rfl (by rw [hN]; decide) rfl ?_
  refine z_iconst C dX6_marksInAll_2 ?_
  refine z_istore_n C [(2, .int (zI (0))), (1, .int (zI (0))), (0, za x (0))] dX6_marksInAll_3 rfl (by rw [hN]; decide) rfl ?_
  refine z_sub C [2, 1, 0] [(0, za x (0)), (1, .int (zI (0))), (2, .int (zI (0)))] rfl ?_
  obtain ⟨n1, h⟩ := h
  exact sX6_marksInAll_4 C hN E n1 0 0  σ h
def wX6_count (v1 : Int) (σ : Hp) (k : Int → Hp → Prop) : Prop :=
  zrg v1 ∧ (v1 < 0 ∨ 3 < v1 → k ((-1)) σ) ∧ (v1 = 0 → wX5_length  σ (fun a4 σ3 => k a4 σ3)) ∧ (v1 = 1 → wX6_marksInAll  σ (fun a6 σ5 => k a6 σ5)) ∧ (v1 = 2 → wX0_size  σ (fun a8 σ7 => k a8 σ7)) ∧ (v1 = 3 → wX6_columnsInAll  σ (fun a10 σ9 => k a10 σ9))
set_option maxRecDepth 100000 in
theorem mX6_count (v1 : Int) (σ : Hp) (k : Int → Hp → Prop) (h : wX6_count v1 σ k) (l : Launch) : zMt l yX6_count cX6_count 2 (some .int) { frames := 5, cells := 0, slots := 0, locals := 109 } (fun w => [.ref (w.2.1 (0)), .int (zI (v1))]) σ (zPi k) := by
  refine zMt_of (plainFor_of_name (by decide)) (fun w => Nat.le_of_ble_eq_true rfl) (fun x hl hN C E => ?_)
  change zV x σ 0 [(0, za x (0)), (1, .int (zI (v1)))] []
  change zOk x cX6_count RX6 (some .int) (5) (109) at C
  unfold wX6_count at h
  refine z_iload_n C 1 dX6_count_0 rfl rfl ?_
  obtain ⟨o1, h⟩ := h
  by_cases c2 : v1 < 0 ∨ 3 < v1
  · have h := h.1 c2
    refine z_tabOut C 58 dX6_count_1 o1 c2 (by decide) ?_
    refine z_iconst C dX6_count_58 ?_
    exact z_iret C E dX6_count_59 ⟨_, rfl, h⟩
  · have h := h.2
    rcases (show v1 = 0 ∨ v1 = 1 ∨ v1 = 2 ∨ v1 = 3 by omega) with c2 | c2 | c2 | c2
    · have h := h.1 c2
      refine z_tabIn C 32 dX6_count_1 o1 (by omega) (by omega) (by rw [c2]; rfl) (by decide) ?_
      refine z_aload_n C 0 dX6_count_32 rfl rfl ?_
      refine g_X6_2 C kf_X6_23 dX6_count_33 ?_
      refine z_callV (av := fun w => []) C [] cs_X5_length (by decide) (fun _ _ => rfl) rfl (mX5_length   σ _ h) km_X6_94 dX6_count_36 rfl rfl ⟨rfl, rfl⟩ ⟨by decide, by decide⟩ (Nat.le_of_ble_eq_true rfl) (fun rv σ3 hp => ?_)
      obtain ⟨a4, rfl, h⟩ := hp
      change zV x σ3 39 [(0, za x (0)), (1, .int (zI (v1)))] [.int (zI (a4))]
      exact z_iret C E dX6_count_39 ⟨_, rfl, h⟩
    · have h := h.2.1 c2
      refine z_tabIn C 40 dX6_count_1 o1 (by omega) (by omega) (by rw [c2]; rfl) (by decide) ?_
      refine z_aload_n C 0 dX6_count_40 rfl rfl ?_
      refine z_callV (av := fun w => []) C [] cs_X6_marksInAll (by decide) (fun _ _ => rfl) rfl (mX6_marksInAll   σ _ h) km_X6_253 dX6_count_41 rfl rfl ⟨rfl, rfl⟩ ⟨by decide, by decide⟩ (Nat.le_of_ble_eq_true rfl) (fun rv σ5 hp => ?_)
      obtain ⟨a6, rfl, h⟩ := hp
      change zV x σ5 44 [(0, za x (0)), (1, .int (zI (v1)))] [.int (zI (a6))]
      exact z_iret C E dX6_count_44 ⟨_, rfl, h⟩
    · have h := h.2.2.1 c2
      refine z_tabIn C 45 dX6_count_1 o1 (by omega) (by omega) (by rw [c2]; rfl) (by decide) ?_
      refine z_aload_n C 0 dX6_count_45 rfl rfl ?_
      refine g_X6_6 C kf_X6_51 dX6_count_46 ?_
      refine z_callV (av := fun w => []) C [] cs_X0_size (by decide) (fun _ _ => rfl) rfl (mX0_size   σ _ h) km_X6_236 dX6_count_49 rfl rfl ⟨rfl, rfl⟩ ⟨by decide, by decide⟩ (Nat.le_of_ble_eq_true rfl) (fun rv σ7 hp => ?_)
      obtain ⟨a8, rfl, h⟩ := hp
      change zV x σ7 52 [(0, za x (0)), (1, .int (zI (v1)))] [.int (zI (a8))]
      exact z_iret C E dX6_count_52 ⟨_, rfl, h⟩
    · have h := h.2.2.2 c2
      refine z_tabIn C 53 dX6_count_1 o1 (by omega) (by omega) (by rw [c2]; rfl) (by decide) ?_
      refine z_aload_n C 0 dX6_count_53 rfl rfl ?_
      refine z_callV (av := fun w => []) C [] cs_X6_columnsInAll (by decide) (fun _ _ => rfl) rfl (mX6_columnsInAll   σ _ h) km_X6_256 dX6_count_54 rfl rfl ⟨rfl, rfl⟩ ⟨by decide, by decide⟩ (Nat.le_of_ble_eq_true rfl) (fun rv σ9 hp => ?_)
      obtain ⟨a10, rfl, h⟩ := hp
      change zV x σ9 57 [(0, za x (0)), (1, .int (zI (v1)))] [.int (zI (a10))]
      exact z_iret C E dX6_count_57 ⟨_, rfl, h⟩
def wX6_countOrMake (v1 : Int) (v2 : Int) (σ : Hp) (k : Int → Hp → Prop) : Prop :=
  zrg v1 ∧ ((0 ≤ v1 → wX6_rowAt v2 σ (fun w10 σ3 => (w10 = none → k ((-1)) σ3) ∧ ∀ q4, w10 = some q4 → wX4_reach v1 σ3 (fun a6 σ5 => zrg a6 ∧ ((a6 ≠ 0 → wX4_giveTo q4 σ5 (fun σ9 => k v2 σ9)) ∧ (¬ (a6 ≠ 0) → k ((-4)) σ5))))) ∧ (¬ (0 ≤ v1) → wX4_countAll  σ (fun a12 σ11 => k a12 σ11)))
set_option maxRecDepth 100000 in
theorem mX6_countOrMake (v1 : Int) (v2 : Int) (σ : Hp) (k : Int → Hp → Prop) (h : wX6_countOrMake v1 v2 σ k) (l : Launch) : zMt l yX6_countOrMake cX6_countOrMake 4 (some .int) { frames := 19, cells := 0, slots := 0, locals := 444 } (fun w => [.ref (w.2.1 (0)), .int (zI (v1)), .int (zI (v2))]) σ (zPi k) := by
  refine zMt_of (plainFor_of_name (by decide)) (fun w => Nat.le_of_ble_eq_true rfl) (fun x hl hN C E => ?_)
  change zV x σ 0 [(0, za x (0)), (1, .int (zI (v1))), (2, .int (zI (v2)))] []
  change zOk x cX6_countOrMake RX6 (some .int) (19) (444) at C
  unfold wX6_countOrMake at h
  refine z_iload_n C 1 dX6_countOrMake_0 rfl rfl ?_
  obtain ⟨o1, h⟩ := h
  refine z_if_ge C 12 dX6_countOrMake_1 (by decide) o1 (fun c2 => ?_) (fun c2 => ?_)
  · have h := h.1 c2
    refine z_aload_n C 0 dX6_countOrMake_12 rfl rfl ?_
    refine z_iload_n C 2 dX6_countOrMake_13 rfl rfl ?_
    refine z_callV (av := fun w => [.int (zI (v2))]) C [] cs_X6_rowAt (by decide) (fun _ _ => rfl) rfl (mX6_rowAt v2  σ _ h) km_X6_59 dX6_countOrMake_14 rfl rfl ⟨rfl, rfl⟩ ⟨by decide, by decide⟩ (Nat.le_of_ble_eq_true rfl) (fun rv σ3 hp => ?_)
    rcases hp with ⟨rfl, h⟩ | ⟨q4, hq4, rfl, h⟩
    · have h := h.1 rfl
      change zV x σ3 17 [(0, za x (0)), (1, .int (zI (v1))), (2, .int (zI (v2)))] [.null]
      refine z_astore_nN C [(3, .null), (0, za x (0)), (1, .int (zI (v1))), (2, .int (zI (v2)))] dX6_countOrMake_17 rfl (by rw [hN]; decide) rfl ?_
      refine z_aload_nN C 0 dX6_countOrMake_18 rfl rfl ?_
      refine z_ifnonnullN C dX6_countOrMake_19 ?_
      refine z_iconst C dX6_countOrMake_22 ?_
      exact z_iret C E dX6_countOrMake_23 ⟨_, rfl, h⟩
    · have h := h.2 q4 rfl
      change zV x σ3 17 [(0, za x (0)), (1, .int (zI (v1))), (2, .int (zI (v2)))] [za x (29 + q4)]
      refine z_astore_n C [(3, za x (29 + q4)), (0, za x (0)), (1, .int (zI (v1))), (2, .int (zI (v2)))] dX6_countOrMake_17 rfl (by rw [hN]; decide) rfl ?_
      refine z_aload_n C 0 dX6_countOrMake_18 rfl rfl ?_
      refine z_ifnonnull C 24 dX6_countOrMake_19 (by decide) ?_
      refine z_aload_n C 1 dX6_countOrMake_24 rfl rfl ?_
      refine g_X6_4 C kf_X6_37 dX6_countOrMake_25 ?_
      refine z_iload_n C 2 dX6_countOrMake_28 rfl rfl ?_
      refine z_callV (av := fun w => [.int (zI (v1))]) C [] cs_X4_reach (by decide) (fun _ _ => rfl) rfl (mX4_reach v1  σ3 _ h) km_X6_187 dX6_countOrMake_29 rfl rfl ⟨rfl, rfl⟩ ⟨by decide, by decide⟩ (Nat.le_of_ble_eq_true rfl) (fun rv σ5 hp => ?_)
      obtain ⟨a6, rfl, h⟩ := hp
      change zV x σ5 32 [(3, za x (29 + q4)), (0, za x (0)), (1, .int (zI (v1))), (2, .int (zI (v2)))] [.int (zI (a6))]
      obtain ⟨o7, h⟩ := h
      refine z_if_ne C 38 dX6_countOrMake_32 (by decide) o7 (fun c8 => ?_) (fun c8 => ?_)
      · have h := h.1 c8
        refine z_aload_n C 1 dX6_countOrMake_38 rfl rfl ?_
        refine g_X6_4 C kf_X6_37 dX6_countOrMake_39 ?_
        refine z_aload_n C 0 dX6_countOrMake_42 rfl rfl ?_
        refine z_callV (av := fun w => [.ref (w.2.1 (29 + q4))]) C [] cs_X4_giveTo (by decide) (fun _ _ => rfl) rfl (mX4_giveTo q4 hq4 σ5 _ h) km_X6_268 dX6_countOrMake_43 rfl rfl ⟨rfl, rfl⟩ ⟨by decide, by decide⟩ (Nat.le_of_ble_eq_true rfl) (fun rv σ9 hp => ?_)
        obtain ⟨rfl, h⟩ := hp
        change zV x σ9 46 [(3, za x (29 + q4)), (0, za x (0)), (1, .int (zI (v1))), (2, .int (zI (v2)))] []
        refine z_iload_n C 3 dX6_countOrMake_46 rfl rfl ?_
        exact z_iret C E dX6_countOrMake_47 ⟨_, rfl, h⟩
      · have h := h.2 c8
        refine z_bipush C dX6_countOrMake_35 rfl ?_
        exact z_iret C E dX6_countOrMake_37 ⟨_, rfl, h⟩
  · have h := h.2 c2
    refine z_aload_n C 0 dX6_countOrMake_4 rfl rfl ?_
    refine g_X6_4 C kf_X6_37 dX6_countOrMake_5 ?_
    refine z_callV (av := fun w => []) C [] cs_X4_countAll (by decide) (fun _ _ => rfl) rfl (mX4_countAll   σ _ h) km_X6_265 dX6_countOrMake_8 rfl rfl ⟨rfl, rfl⟩ ⟨by decide, by decide⟩ (Nat.le_of_ble_eq_true rfl) (fun rv σ11 hp => ?_)
    obtain ⟨a12, rfl, h⟩ := hp
    change zV x σ11 11 [(0, za x (0)), (1, .int (zI (v1))), (2, .int (zI (v2)))] [.int (zI (a12))]
    exact z_iret C E dX6_countOrMake_11 ⟨_, rfl, h⟩
def wX6_isKind (v0 : Int) (σ : Hp) (k : Int → Hp → Prop) : Prop :=
  zrg v0 ∧ ((v0 = 0 → k 1 σ) ∧ (¬ (v0 = 0) → ((v0 ≠ 1 → k 0 σ) ∧ (¬ (v0 ≠ 1) → k 1 σ))))
set_option maxRecDepth 100000 in
theorem mX6_isKind (v0 : Int) (σ : Hp) (k : Int → Hp → Prop) (h : wX6_isKind v0 σ k) (l : Launch) : zMt l yX6_isKind cX6_isKind 1 (some .boolean) { frames := 0, cells := 0, slots := 0, locals := 0 } (fun w => [.int (zI (v0))]) σ (zPi k) := by
  refine zMt_of (plainFor_of_name (by decide)) (fun w => Nat.le_of_ble_eq_true rfl) (fun x hl hN C E => ?_)
  change zV x σ 0 [(0, .int (zI (v0)))] []
  change zOk x cX6_isKind RX6 (some .boolean) (0) (0) at C
  unfold wX6_isKind at h
  refine z_iload_n C 0 dX6_isKind_0 rfl rfl ?_
  obtain ⟨o1, h⟩ := h
  refine z_if_eq C 9 dX6_isKind_1 (by decide) o1 (fun c2 => ?_) (fun c2 => ?_)
  · have h := h.1 c2
    refine z_iconst C dX6_isKind_9 ?_
    refine z_goto C 14 dX6_isKind_10 (by decide) ?_
    exact z_zret C E dX6_isKind_14 (by decide) ⟨_, rfl, h⟩
  · have h := h.2 c2
    refine z_iload_n C 0 dX6_isKind_4 rfl rfl ?_
    refine z_iconst C dX6_isKind_5 ?_
    refine z_icmp_ne C 13 dX6_isKind_6 (by decide) o1 (zrg_d rfl) (fun c3 => ?_) (fun c3 => ?_)
    · have h := h.1 c3
      refine z_iconst C dX6_isKind_13 ?_
      exact z_zret C E dX6_isKind_14 (by decide) ⟨_, rfl, h⟩
    · have h := h.2 c3
      refine z_iconst C dX6_isKind_9 ?_
      refine z_goto C 14 dX6_isKind_10 (by decide) ?_
      exact z_zret C E dX6_isKind_14 (by decide) ⟨_, rfl, h⟩
def wX6_difference (v1 : Int) (v2 : Int) (v3 : Int) (v4 : Int) (σ : Hp) (k : Int → Hp → Prop) : Prop :=
  wX6_rowAt v1 σ (fun w25 σ1 => (w25 = none → k ((-100)) σ1) ∧ ∀ q2, w25 = some q2 → wX6_within v2 0 11 σ1 (fun a4 σ3 => zrg a4 ∧ ((a4 = 0 → k ((-100)) σ3) ∧ (¬ (a4 = 0) → wX6_within v3 1 11 σ3 (fun a8 σ7 => zrg a8 ∧ ((a8 = 0 → k ((-100)) σ7) ∧ (¬ (a8 = 0) → wX6_isKind v4 σ7 (fun a12 σ11 => zrg a12 ∧ ((a12 ≠ 0 → wX3_markedAt q2 v2 σ11 (fun a16 σ15 => zrg a16 ∧ ((a16 = 0 → k ((-50)) σ15) ∧ (¬ (a16 = 0) → wX3_markedAt q2 (v2 + v3) σ15 (fun a20 σ19 => zrg a20 ∧ ((a20 = 0 → k ((-50)) σ19) ∧ (¬ (a20 = 0) → wX3_step q2 v2 (v2 + v3) v4 σ19 (fun a24 σ23 => k a24 σ23)))))))) ∧ (¬ (a12 ≠ 0) → k ((-100)) σ11))))))))))
set_option maxRecDepth 100000 in
theorem mX6_difference (v1 : Int) (v2 : Int) (v3 : Int) (v4 : Int) (σ : Hp) (k : Int → Hp → Prop) (h : wX6_difference v1 v2 v3 v4 σ k) (l : Launch) : zMt l yX6_difference cX6_difference 6 (some .int) { frames := 3, cells := 0, slots := 0, locals := 67 } (fun w => [.ref (w.2.1 (0)), .int (zI (v1)), .int (zI (v2)), .int (zI (v3)), .int (zI (v4))]) σ (zPi k) := by
  refine zMt_of (plainFor_of_name (by decide)) (fun w => Nat.le_of_ble_eq_true rfl) (fun x hl hN C E => ?_)
  change zV x σ 0 [(0, za x (0)), (1, .int (zI (v1))), (2, .int (zI (v2))), (3, .int (zI (v3))), (4, .int (zI (v4)))] []
  change zOk x cX6_difference RX6 (some .int) (3) (67) at C
  unfold wX6_difference at h
  refine z_aload_n C 0 dX6_difference_0 rfl rfl ?_
  refine z_iload_n C 1 dX6_difference_1 rfl rfl ?_
  refine z_callV (av := fun w => [.int (zI (v1))]) C [] cs_X6_rowAt (by decide) (fun _ _ => rfl) rfl (mX6_rowAt v1  σ _ h) km_X6_59 dX6_difference_2 rfl rfl ⟨rfl, rfl⟩ ⟨by decide, by decide⟩ (Nat.le_of_ble_eq_true rfl) (fun rv σ1 hp => ?_)
  rcases hp with ⟨rfl, h⟩ | ⟨q2, hq2, rfl, h⟩
  · have h := h.1 rfl
    change zV x σ1 5 [(0, za x (0)), (1, .int (zI (v1))), (2, .int (zI (v2))), (3, .int (zI (v3))), (4, .int (zI (v4)))] [.null]
    refine z_astoreN C [(5, .null), (0, za x (0)), (1, .int (zI (v1))), (2, .int (zI (v2))), (3, .int (zI (v3))), (4, .int (zI (v4)))] dX6_difference_5 (by rw [hN]; decide) rfl ?_
    refine z_aloadN C 0 dX6_difference_7 rfl ?_
    refine z_ifnullN C 40 dX6_difference_9 (by decide) ?_
    refine z_bipush C dX6_difference_40 rfl ?_
    exact z_iret C E dX6_difference_42 ⟨_, rfl, h⟩
  · have h := h.2 q2 rfl
    change zV x σ1 5 [(0, za x (0)), (1, .int (zI (v1))), (2, .int (zI (v2))), (3, .int (zI (v3))), (4, .int (zI (v4)))] [za x (29 + q2)]
    refine z_astore C [(5, za x (29 + q2)), (0, za x (0)), (1, .int (zI (v1))), (2, .int (zI (v2))), (3, .int (zI (v3))), (4, .int (zI (v4)))] dX6_difference_5 (by rw [hN]; decide) rfl ?_
    refine z_aload C 0 dX6_difference_7 rfl ?_
    refine z_ifnull C dX6_difference_9 ?_
    refine z_iload_n C 3 dX6_difference_12 rfl rfl ?_
    refine z_iconst C dX6_difference_13 ?_
    refine z_bipush C dX6_difference_14 rfl ?_
    refine z_callS (av := fun w => [.int (zI (v2)), .int (zI (0)), .int (zI (11))]) C [] cs_X6_within (mX6_within v2 0 11  σ1 _ h) km_X6_63 dX6_difference_16 rfl rfl ⟨rfl, rfl⟩ ⟨by decide, by decide⟩ (Nat.le_of_ble_eq_true rfl) (fun rv σ3 hp => ?_)
    obtain ⟨a4, rfl, h⟩ := hp
    change zV x σ3 19 [(5, za x (29 + q2)), (0, za x (0)), (1, .int (zI (v1))), (2, .int (zI (v2))), (3, .int (zI (v3))), (4, .int (zI (v4)))] [.int (zI (a4))]
    obtain ⟨o5, h⟩ := h
    refine z_if_eq C 40 dX6_difference_19 (by decide) o5 (fun c6 => ?_) (fun c6 => ?_)
    · have h := h.1 c6
      refine z_bipush C dX6_difference_40 rfl ?_
      exact z_iret C E dX6_difference_42 ⟨_, rfl, h⟩
    · have h := h.2 c6
      refine z_iload_n C 4 dX6_difference_22 rfl rfl ?_
      refine z_iconst C dX6_difference_23 ?_
      refine z_bipush C dX6_difference_24 rfl ?_
      refine z_callS (av := fun w => [.int (zI (v3)), .int (zI (1)), .int (zI (11))]) C [] cs_X6_within (mX6_within v3 1 11  σ3 _ h) km_X6_63 dX6_difference_26 rfl rfl ⟨rfl, rfl⟩ ⟨by decide, by decide⟩ (Nat.le_of_ble_eq_true rfl) (fun rv σ7 hp => ?_)
      obtain ⟨a8, rfl, h⟩ := hp
      change zV x σ7 29 [(5, za x (29 + q2)), (0, za x (0)), (1, .int (zI (v1))), (2, .int (zI (v2))), (3, .int (zI (v3))), (4, .int (zI (v4)))] [.int (zI (a8))]
      obtain ⟨o9, h⟩ := h
      refine z_if_eq C 40 dX6_difference_29 (by decide) o9 (fun c10 => ?_) (fun c10 => ?_)
      · have h := h.1 c10
        refine z_bipush C dX6_difference_40 rfl ?_
        exact z_iret C E dX6_difference_42 ⟨_, rfl, h⟩
      · have h := h.2 c10
        refine z_iload C 5 dX6_difference_32 rfl ?_
        refine z_callS (av := fun w => [.int (zI (v4))]) C [] cs_X6_isKind (mX6_isKind v4  σ7 _ h) km_X6_129 dX6_difference_34 rfl rfl ⟨rfl, rfl⟩ ⟨by decide, by decide⟩ (Nat.le_of_ble_eq_true rfl) (fun rv σ11 hp => ?_)
        obtain ⟨a12, rfl, h⟩ := hp
        change zV x σ11 37 [(5, za x (29 + q2)), (0, za x (0)), (1, .int (zI (v1))), (2, .int (zI (v2))), (3, .int (zI (v3))), (4, .int (zI (v4)))] [.int (zI (a12))]
        obtain ⟨o13, h⟩ := h
        refine z_if_ne C 43 dX6_difference_37 (by decide) o13 (fun c14 => ?_) (fun c14 => ?_)
        · have h := h.1 c14
          refine z_aload C 0 dX6_difference_43 rfl ?_
          refine z_iload_n C 3 dX6_difference_45 rfl rfl ?_
          refine z_callV (av := fun w => [.int (zI (v2))]) C [] cs_X3_markedAt (by have := hq2; omega) (zcell_row hq2) rfl (mX3_markedAt q2 v2 hq2 σ11 _ h) km_X6_116 dX6_difference_46 rfl rfl ⟨rfl, rfl⟩ ⟨by decide, by decide⟩ (Nat.le_of_ble_eq_true rfl) (fun rv σ15 hp => ?_)
          obtain ⟨a16, rfl, h⟩ := hp
          change zV x σ15 49 [(5, za x (29 + q2)), (0, za x (0)), (1, .int (zI (v1))), (2, .int (zI (v2))), (3, .int (zI (v3))), (4, .int (zI (v4)))] [.int (zI (a16))]
          obtain ⟨o17, h⟩ := h
          refine z_if_eq C 77 dX6_difference_49 (by decide) o17 (fun c18 => ?_) (fun c18 => ?_)
          · have h := h.1 c18
            refine z_bipush C dX6_difference_77 rfl ?_
            exact z_iret C E dX6_difference_79 ⟨_, rfl, h⟩
          · have h := h.2 c18
            refine z_aload C 0 dX6_difference_52 rfl ?_
            refine z_iload_n C 3 dX6_difference_54 rfl rfl ?_
            refine z_iload_n C 4 dX6_difference_55 rfl rfl ?_
            refine z_iadd C dX6_difference_56 ?_
            refine z_callV (av := fun w => [.int (zI (v2 + v3))]) C [] cs_X3_markedAt (by have := hq2; omega) (zcell_row hq2) rfl (mX3_markedAt q2 (v2 + v3) hq2 σ15 _ h) km_X6_116 dX6_difference_57 rfl rfl ⟨rfl, rfl⟩ ⟨by decide, by decide⟩ (Nat.le_of_ble_eq_true rfl) (fun rv σ19 hp => ?_)
            obtain ⟨a20, rfl, h⟩ := hp
            change zV x σ19 60 [(5, za x (29 + q2)), (0, za x (0)), (1, .int (zI (v1))), (2, .int (zI (v2))), (3, .int (zI (v3))), (4, .int (zI (v4)))] [.int (zI (a20))]
            obtain ⟨o21, h⟩ := h
            refine z_if_eq C 77 dX6_difference_60 (by decide) o21 (fun c22 => ?_) (fun c22 => ?_)
            · have h := h.1 c22
              refine z_bipush C dX6_difference_77 rfl ?_
              exact z_iret C E dX6_difference_79 ⟨_, rfl, h⟩
            · have h := h.2 c22
              refine z_aload C 0 dX6_difference_63 rfl ?_
              refine z_iload_n C 3 dX6_difference_65 rfl rfl ?_
              refine z_iload_n C 3 dX6_difference_66 rfl rfl ?_
              refine z_iload_n C 4 dX6_difference_67 rfl rfl ?_
              refine z_iadd C dX6_difference_68 ?_
              refine z_iload C 5 dX6_difference_69 rfl ?_
              refine z_callV (av := fun w => [.int (zI (v2)), .int (zI (v2 + v3)), .int (zI (v4))]) C [] cs_X3_step (by have := hq2; omega) (zcell_row hq2) rfl (mX3_step q2 v2 (v2 + v3) v4 hq2 σ19 _ h) km_X6_132 dX6_difference_71 rfl rfl ⟨rfl, rfl⟩ ⟨by decide, by decide⟩ (Nat.le_of_ble_eq_true rfl) (fun rv σ23 hp => ?_)
              obtain ⟨a24, rfl, h⟩ := hp
              change zV x σ23 74 [(5, za x (29 + q2)), (0, za x (0)), (1, .int (zI (v1))), (2, .int (zI (v2))), (3, .int (zI (v3))), (4, .int (zI (v4)))] [.int (zI (a24))]
              refine z_goto C 79 dX6_difference_74 (by decide) ?_
              exact z_iret C E dX6_difference_79 ⟨_, rfl, h⟩
        · have h := h.2 c14
          refine z_bipush C dX6_difference_40 rfl ?_
          exact z_iret C E dX6_difference_42 ⟨_, rfl, h⟩
def wX6_fault (σ : Hp) (k : Int → Hp → Prop) : Prop :=
  wX5_firstFault  σ (fun a2 σ1 => k a2 σ1)
set_option maxRecDepth 100000 in
theorem mX6_fault (σ : Hp) (k : Int → Hp → Prop) (h : wX6_fault  σ k) (l : Launch) : zMt l yX6_fault cX6_fault 1 (some .int) { frames := 4, cells := 0, slots := 0, locals := 88 } (fun w => [.ref (w.2.1 (0))]) σ (zPi k) := by
  refine zMt_of (plainFor_of_name (by decide)) (fun w => Nat.le_of_ble_eq_true rfl) (fun x hl hN C E => ?_)
  change zV x σ 0 [(0, za x (0))] []
  change zOk x cX6_fault RX6 (some .int) (4) (88) at C
  unfold wX6_fault at h
  refine z_aload_n C 0 dX6_fault_0 rfl rfl ?_
  refine g_X6_2 C kf_X6_23 dX6_fault_1 ?_
  refine z_callV (av := fun w => []) C [] cs_X5_firstFault (by decide) (fun _ _ => rfl) rfl (mX5_firstFault   σ _ h) km_X6_100 dX6_fault_4 rfl rfl ⟨rfl, rfl⟩ ⟨by decide, by decide⟩ (Nat.le_of_ble_eq_true rfl) (fun rv σ1 hp => ?_)
  obtain ⟨a2, rfl, h⟩ := hp
  change zV x σ1 7 [(0, za x (0))] [.int (zI (a2))]
  exact z_iret C E dX6_fault_7 ⟨_, rfl, h⟩
def wX6_quarrel (r0 : Nat) (v1 : Int) (v2 : Int) (v3 : Int) (v4 : Int) (σ : Hp) (k : Int → Hp → Prop) : Prop :=
  wX3_markedAt r0 v2 σ (fun a2 σ1 => zrg a2 ∧ ((a2 = 0 → k 0 σ1) ∧ (¬ (a2 = 0) → wX3_markedAt r0 (v2 + v4) σ1 (fun a6 σ5 => zrg a6 ∧ ((a6 = 0 → k 0 σ5) ∧ (¬ (a6 = 0) → wX3_markedAt r0 v3 σ5 (fun a10 σ9 => zrg a10 ∧ ((a10 = 0 → k 0 σ9) ∧ (¬ (a10 = 0) → wX3_markedAt r0 (v3 + v4) σ9 (fun a14 σ13 => zrg a14 ∧ ((a14 ≠ 0 → wX3_step r0 v2 (v2 + v4) v1 σ13 (fun a18 σ17 => wX3_step r0 v3 (v3 + v4) v1 σ17 (fun a20 σ19 => zrg a18 ∧ zrg a20 ∧ ((a18 ≠ a20 → k 0 σ19) ∧ (¬ (a18 ≠ a20) → k 1 σ19))))) ∧ (¬ (a14 ≠ 0) → k 0 σ13))))))))))))
set_option maxRecDepth 100000 in
theorem mX6_quarrel (r0 : Nat) (v1 : Int) (v2 : Int) (v3 : Int) (v4 : Int) (hr0 : r0 < 7) (σ : Hp) (k : Int → Hp → Prop) (h : wX6_quarrel r0 v1 v2 v3 v4 σ k) (l : Launch) : zMt l yX6_quarrel cX6_quarrel 5 (some .boolean) { frames := 3, cells := 0, slots := 0, locals := 67 } (fun w => [.ref (w.2.1 (29 + r0)), .int (zI (v1)), .int (zI (v2)), .int (zI (v3)), .int (zI (v4))]) σ (zPi k) := by
  refine zMt_of (plainFor_of_name (by decide)) (fun w => Nat.le_of_ble_eq_true rfl) (fun x hl hN C E => ?_)
  change zV x σ 0 [(0, za x (29 + r0)), (1, .int (zI (v1))), (2, .int (zI (v2))), (3, .int (zI (v3))), (4, .int (zI (v4)))] []
  change zOk x cX6_quarrel RX6 (some .boolean) (3) (67) at C
  unfold wX6_quarrel at h
  refine z_aload_n C 0 dX6_quarrel_0 rfl rfl ?_
  refine z_iload_n C 2 dX6_quarrel_1 rfl rfl ?_
  refine z_callV (av := fun w => [.int (zI (v2))]) C [] cs_X3_markedAt (by have := hr0; omega) (zcell_row hr0) rfl (mX3_markedAt r0 v2 hr0 σ _ h) km_X6_116 dX6_quarrel_2 rfl rfl ⟨rfl, rfl⟩ ⟨by decide, by decide⟩ (Nat.le_of_ble_eq_true rfl) (fun rv σ1 hp => ?_)
  obtain ⟨a2, rfl, h⟩ := hp
  change zV x σ1 5 [(0, za x (29 + r0)), (1, .int (zI (v1))), (2, .int (zI (v2))), (3, .int (zI (v3))), (4, .int (zI (v4)))] [.int (zI (a2))]
  obtain ⟨o3, h⟩ := h
  refine z_if_eq C 38 dX6_quarrel_5 (by decide) o3 (fun c4 => ?_) (fun c4 => ?_)
  · have h := h.1 c4
    refine z_iconst C dX6_quarrel_38 ?_
    exact z_zret C E dX6_quarrel_39 (by decide) ⟨_, rfl, h⟩
  · have h := h.2 c4
    refine z_aload_n C 0 dX6_quarrel_8 rfl rfl ?_
    refine z_iload_n C 2 dX6_quarrel_9 rfl rfl ?_
    refine z_iload C 4 dX6_quarrel_10 rfl ?_
    refine z_iadd C dX6_quarrel_12 ?_
    refine z_callV (av := fun w => [.int (zI (v2 + v4))]) C [] cs_X3_markedAt (by have := hr0; omega) (zcell_row hr0) rfl (mX3_markedAt r0 (v2 + v4) hr0 σ1 _ h) km_X6_116 dX6_quarrel_13 rfl rfl ⟨rfl, rfl⟩ ⟨by decide, by decide⟩ (Nat.le_of_ble_eq_true rfl) (fun rv σ5 hp => ?_)
    obtain ⟨a6, rfl, h⟩ := hp
    change zV x σ5 16 [(0, za x (29 + r0)), (1, .int (zI (v1))), (2, .int (zI (v2))), (3, .int (zI (v3))), (4, .int (zI (v4)))] [.int (zI (a6))]
    obtain ⟨o7, h⟩ := h
    refine z_if_eq C 38 dX6_quarrel_16 (by decide) o7 (fun c8 => ?_) (fun c8 => ?_)
    · have h := h.1 c8
      refine z_iconst C dX6_quarrel_38 ?_
      exact z_zret C E dX6_quarrel_39 (by decide) ⟨_, rfl, h⟩
    · have h := h.2 c8
      refine z_aload_n C 0 dX6_quarrel_19 rfl rfl ?_
      refine z_iload_n C 3 dX6_quarrel_20 rfl rfl ?_
      refine z_callV (av := fun w => [.int (zI (v3))]) C [] cs_X3_markedAt (by have := hr0; omega) (zcell_row hr0) rfl (mX3_markedAt r0 v3 hr0 σ5 _ h) km_X6_116 dX6_quarrel_21 rfl rfl ⟨rfl, rfl⟩ ⟨by decide, by decide⟩ (Nat.le_of_ble_eq_true rfl) (fun rv σ9 hp => ?_)
      obtain ⟨a10, rfl, h⟩ := hp
      change zV x σ9 24 [(0, za x (29 + r0)), (1, .int (zI (v1))), (2, .int (zI (v2))), (3, .int (zI (v3))), (4, .int (zI (v4)))] [.int (zI (a10))]
      obtain ⟨o11, h⟩ := h
      refine z_if_eq C 38 dX6_quarrel_24 (by decide) o11 (fun c12 => ?_) (fun c12 => ?_)
      · have h := h.1 c12
        refine z_iconst C dX6_quarrel_38 ?_
        exact z_zret C E dX6_quarrel_39 (by decide) ⟨_, rfl, h⟩
      · have h := h.2 c12
        refine z_aload_n C 0 dX6_quarrel_27 rfl rfl ?_
        refine z_iload_n C 3 dX6_quarrel_28 rfl rfl ?_
        refine z_iload C 4 dX6_quarrel_29 rfl ?_
        refine z_iadd C dX6_quarrel_31 ?_
        refine z_callV (av := fun w => [.int (zI (v3 + v4))]) C [] cs_X3_markedAt (by have := hr0; omega) (zcell_row hr0) rfl (mX3_markedAt r0 (v3 + v4) hr0 σ9 _ h) km_X6_116 dX6_quarrel_32 rfl rfl ⟨rfl, rfl⟩ ⟨by decide, by decide⟩ (Nat.le_of_ble_eq_true rfl) (fun rv σ13 hp => ?_)
        obtain ⟨a14, rfl, h⟩ := hp
        change zV x σ13 35 [(0, za x (29 + r0)), (1, .int (zI (v1))), (2, .int (zI (v2))), (3, .int (zI (v3))), (4, .int (zI (v4)))] [.int (zI (a14))]
        obtain ⟨o15, h⟩ := h
        refine z_if_ne C 40 dX6_quarrel_35 (by decide) o15 (fun c16 => ?_) (fun c16 => ?_)
        · have h := h.1 c16
          refine z_aload_n C 0 dX6_quarrel_40 rfl rfl ?_
          refine z_iload_n C 2 dX6_quarrel_41 rfl rfl ?_
          refine z_iload_n C 2 dX6_quarrel_42 rfl rfl ?_
          refine z_iload C 4 dX6_quarrel_43 rfl ?_
          refine z_iadd C dX6_quarrel_45 ?_
          refine z_iload_n C 1 dX6_quarrel_46 rfl rfl ?_
          refine z_callV (av := fun w => [.int (zI (v2)), .int (zI (v2 + v4)), .int (zI (v1))]) C [] cs_X3_step (by have := hr0; omega) (zcell_row hr0) rfl (mX3_step r0 v2 (v2 + v4) v1 hr0 σ13 _ h) km_X6_132 dX6_quarrel_47 rfl rfl ⟨rfl, rfl⟩ ⟨by decide, by decide⟩ (Nat.le_of_ble_eq_true rfl) (fun rv σ17 hp => ?_)
          obtain ⟨a18, rfl, h⟩ := hp
          change zV x σ17 50 [(0, za x (29 + r0)), (1, .int (zI (v1))), (2, .int (zI (v2))), (3, .int (zI (v3))), (4, .int (zI (v4)))] [.int (zI (a18))]
          refine z_aload_n C 0 dX6_quarrel_50 rfl rfl ?_
          refine z_iload_n C 3 dX6_quarrel_51 rfl rfl ?_
          refine z_iload_n C 3 dX6_quarrel_52 rfl rfl ?_
          refine z_iload C 4 dX6_quarrel_53 rfl ?_
          refine z_iadd C dX6_quarrel_55 ?_
          refine z_iload_n C 1 dX6_quarrel_56 rfl rfl ?_
          refine z_callV (av := fun w => [.int (zI (v3)), .int (zI (v3 + v4)), .int (zI (v1))]) C [.int (zI (a18))] cs_X3_step (by have := hr0; omega) (zcell_row hr0) rfl (mX3_step r0 v3 (v3 + v4) v1 hr0 σ17 _ h) km_X6_132 dX6_quarrel_57 rfl rfl ⟨rfl, rfl⟩ ⟨by decide, by decide⟩ (Nat.le_of_ble_eq_true rfl) (fun rv σ19 hp => ?_)
          obtain ⟨a20, rfl, h⟩ := hp
          change zV x σ19 60 [(0, za x (29 + r0)), (1, .int (zI (v1))), (2, .int (zI (v2))), (3, .int (zI (v3))), (4, .int (zI (v4)))] [.int (zI (a20)), .int (zI (a18))]
          obtain ⟨o21, h⟩ := h
          obtain ⟨o22, h⟩ := h
          refine z_icmp_ne C 67 dX6_quarrel_60 (by decide) o21 o22 (fun c23 => ?_) (fun c23 => ?_)
          · have h := h.1 c23
            refine z_iconst C dX6_quarrel_67 ?_
            exact z_zret C E dX6_quarrel_68 (by decide) ⟨_, rfl, h⟩
          · have h := h.2 c23
            refine z_iconst C dX6_quarrel_63 ?_
            refine z_goto C 68 dX6_quarrel_64 (by decide) ?_
            exact z_zret C E dX6_quarrel_68 (by decide) ⟨_, rfl, h⟩
        · have h := h.2 c16
          refine z_iconst C dX6_quarrel_38 ?_
          exact z_zret C E dX6_quarrel_39 (by decide) ⟨_, rfl, h⟩
def wX6_firstQuarrel_28 (k : Int → Hp → Prop) (K17 : Nat → Int → Int → Int → Int → Hp → Prop) : Nat → Nat → Int → Int → Int → Int → Int → Hp → Prop
  | 0, _, _, _, _, _, _, _ => False
  | n + 1, r0, v1, v2, v3, v4, v5, σ => zrg ((v5 + v4) - v3) ∧ zrg v2 ∧ ((v2 ≤ (v5 + v4) - v3 → K17 r0 v1 v2 v3 (v4 + 1) σ) ∧ (¬ (v2 ≤ (v5 + v4) - v3) → wX6_quarrel r0 v1 v3 v5 (v4 - v3) σ (fun a5 σ4 => zrg a5 ∧ ((a5 = 0 → wX6_firstQuarrel_28 k K17 n r0 v1 v2 v3 v4 (v5 + 1) σ4) ∧ (¬ (a5 = 0) → k ((((((4096 * v3) + (256 * v4)) + (16 * v5)) + v5) + v4) - v3) σ4)))))
set_option maxRecDepth 100000 in
theorem sX6_firstQuarrel_28 {x : Cx} (C : zOk x cX6_firstQuarrel RX6 (some .int) (4) (91)) (hN : x.2.2.2.2.1 = 6) {k : Int → Hp → Prop} (E : zEnd x (zPi k x.2.1)) {K17 : Nat → Int → Int → Int → Int → Hp → Prop} (H17 : ∀ (r0 : Nat) (v1 : Int) (v2 : Int) (v3 : Int) (v4 : Int) (hr0 : r0 < 7) (σ : Hp), K17 r0 v1 v2 v3 v4 σ → zV x σ 17 [(0, za x (29 + r0)), (1, .int (zI (v1))), (2, .int (zI (v2))), (3, .int (zI (v3))), (4, .int (zI (v4)))] []) : ∀ (n : Nat) (r0 : Nat) (v1 : Int) (v2 : Int) (v3 : Int) (v4 : Int) (v5 : Int) (hr0 : r0 < 7) (σ : Hp), wX6_firstQuarrel_28 k K17 n r0 v1 v2 v3 v4 v5 σ → zV x σ 28 [(0, za x (29 + r0)), (1, .int (zI (v1))), (2, .int (zI (v2))), (3, .int (zI (v3))), (4, .int (zI (v4))), (5, .int (zI (v5)))] [] := by
  intro n
  induction n with
  | zero => intro _ _ _ _ _ _ _ _ h; exact h.elim
  | succ n ih =>
    intro r0 v1 v2 v3 v4 v5 hr0 σ h
    unfold wX6_firstQuarrel_28 at h
    refine z_iload C 5 dX6_firstQuarrel_28 rfl ?_
    refine z_iload C 4 dX6_firstQuarrel_30 rfl ?_
    refine z_iadd C dX6_firstQuarrel_32 ?_
    refine z_iload_n C 3 dX6_firstQuarrel_33 rfl rfl ?_
    refine z_isub C dX6_firstQuarrel_34 ?_
    refine z_iload_n C 2 dX6_firstQuarrel_35 rfl rfl ?_
    obtain ⟨o1, h⟩ := h
    obtain ⟨o2, h⟩ := h
    refine z_icmp_ge C 87 dX6_firstQuarrel_36 (by decide) o1 o2 (fun c3 => ?_) (fun c3 => ?_)
    · have h := h.1 c3
      refine z_iinc C 4 [(4, .int (zI (v4 + 1))), (0, za x (29 + r0)), (1, .int (zI (v1))), (2, .int (zI (v2))), (3, .int (zI (v3))), (5, .int (zI (v5)))] dX6_firstQuarrel_87 rfl (by rw [hN]; decide) rfl ?_
      refine z_goto C 17 dX6_firstQuarrel_90 (by decide) ?_
      refine z_sub C [1, 2, 3, 4, 0] [(0, za x (29 + r0)), (1, .int (zI (v1))), (2, .int (zI (v2))), (3, .int (zI (v3))), (4, .int (zI (v4 + 1)))] rfl ?_
      exact H17 r0 v1 v2 v3 (v4 + 1) hr0 σ h
    · have h := h.2 c3
      refine z_aload_n C 0 dX6_firstQuarrel_39 rfl rfl ?_
      refine z_iload_n C 1 dX6_firstQuarrel_40 rfl rfl ?_
      refine z_iload_n C 3 dX6_firstQuarrel_41 rfl rfl ?_
      refine z_iload C 5 dX6_firstQuarrel_42 rfl ?_
      refine z_iload C 4 dX6_firstQuarrel_44 rfl ?_
      refine z_iload_n C 3 dX6_firstQuarrel_46 rfl rfl ?_
      refine z_isub C dX6_firstQuarrel_47 ?_
      refine z_callS (av := fun w => [.ref (w.2.1 (29 + r0)), .int (zI (v1)), .int (zI (v3)), .int (zI (v5)), .int (zI (v4 - v3))]) C [] cs_X6_quarrel (mX6_quarrel r0 v1 v3 v5 (v4 - v3) hr0 σ _ h) km_X6_271 dX6_firstQuarrel_48 rfl rfl ⟨rfl, rfl⟩ ⟨by decide, by decide⟩ (Nat.le_of_ble_eq_true rfl) (fun rv σ4 hp => ?_)
      obtain ⟨a5, rfl, h⟩ := hp
      change zV x σ4 51 [(0, za x (29 + r0)), (1, .int (zI (v1))), (2, .int (zI (v2))), (3, .int (zI (v3))), (4, .int (zI (v4))), (5, .int (zI (v5)))] [.int (zI (a5))]
      obtain ⟨o6, h⟩ := h
      refine z_if_eq C 81 dX6_firstQuarrel_51 (by decide) o6 (fun c7 => ?_) (fun c7 => ?_)
      · have h := h.1 c7
        refine z_iinc C 5 [(5, .int (zI (v5 + 1))), (0, za x (29 + r0)), (1, .int (zI (v1))), (2, .int (zI (v2))), (3, .int (zI (v3))), (4, .int (zI (v4)))] dX6_firstQuarrel_81 rfl (by rw [hN]; decide) rfl ?_
        refine z_goto C 28 dX6_firstQuarrel_84 (by decide) ?_
        refine z_sub C [1, 2, 3, 4, 5, 0] [(0, za x (29 + r0)), (1, .int (zI (v1))), (2, .int (zI (v2))), (3, .int (zI (v3))), (4, .int (zI (v4))), (5, .int (zI (v5 + 1)))] rfl ?_
        exact ih r0 v1 v2 v3 v4 (v5 + 1) hr0 σ4 h
      · have h := h.2 c7
        refine z_sipush C dX6_firstQuarrel_54 rfl ?_
        refine z_iload_n C 3 dX6_firstQuarrel_57 rfl rfl ?_
        refine z_imul C dX6_firstQuarrel_58 ?_
        refine z_sipush C dX6_firstQuarrel_59 rfl ?_
        refine z_iload C 4 dX6_firstQuarrel_62 rfl ?_
        refine z_imul C dX6_firstQuarrel_64 ?_
        refine z_iadd C dX6_firstQuarrel_65 ?_
        refine z_bipush C dX6_firstQuarrel_66 rfl ?_
        refine z_iload C 5 dX6_firstQuarrel_68 rfl ?_
        refine z_imul C dX6_firstQuarrel_70 ?_
        refine z_iadd C dX6_firstQuarrel_71 ?_
        refine z_iload C 5 dX6_firstQuarrel_72 rfl ?_
        refine z_iadd C dX6_firstQuarrel_74 ?_
        refine z_iload C 4 dX6_firstQuarrel_75 rfl ?_
        refine z_iadd C dX6_firstQuarrel_77 ?_
        refine z_iload_n C 3 dX6_firstQuarrel_78 rfl rfl ?_
        refine z_isub C dX6_firstQuarrel_79 ?_
        exact z_iret C E dX6_firstQuarrel_80 ⟨_, rfl, h⟩
def wX6_firstQuarrel_17 (k : Int → Hp → Prop) (K7 : Nat → Int → Int → Int → Hp → Prop) : Nat → Nat → Int → Int → Int → Int → Hp → Prop
  | 0, _, _, _, _, _, _ => False
  | n + 1, r0, v1, v2, v3, v4, σ => zrg v4 ∧ zrg v2 ∧ ((v2 ≤ v4 → K7 r0 v1 v2 (v3 + 1) σ) ∧ (¬ (v2 ≤ v4) → (∃ N4, wX6_firstQuarrel_28 k (fun r0 v1 v2 v3 v4 σ => wX6_firstQuarrel_17 k K7 n r0 v1 v2 v3 v4 σ) N4 r0 v1 v2 v3 v4 (v3 + 1) σ)))
set_option maxRecDepth 100000 in
theorem sX6_firstQuarrel_17 {x : Cx} (C : zOk x cX6_firstQuarrel RX6 (some .int) (4) (91)) (hN : x.2.2.2.2.1 = 6) {k : Int → Hp → Prop} (E : zEnd x (zPi k x.2.1)) {K7 : Nat → Int → Int → Int → Hp → Prop} (H7 : ∀ (r0 : Nat) (v1 : Int) (v2 : Int) (v3 : Int) (hr0 : r0 < 7) (σ : Hp), K7 r0 v1 v2 v3 σ → zV x σ 7 [(0, za x (29 + r0)), (1, .int (zI (v1))), (2, .int (zI (v2))), (3, .int (zI (v3)))] []) : ∀ (n : Nat) (r0 : Nat) (v1 : Int) (v2 : Int) (v3 : Int) (v4 : Int) (hr0 : r0 < 7) (σ : Hp), wX6_firstQuarrel_17 k K7 n r0 v1 v2 v3 v4 σ → zV x σ 17 [(0, za x (29 + r0)), (1, .int (zI (v1))), (2, .int (zI (v2))), (3, .int (zI (v3))), (4, .int (zI (v4)))] [] := by
  intro n
  induction n with
  | zero => intro _ _ _ _ _ _ _ h; exact h.elim
  | succ n ih =>
    intro r0 v1 v2 v3 v4 hr0 σ h
    unfold wX6_firstQuarrel_17 at h
    refine z_iload C 4 dX6_firstQuarrel_17 rfl ?_
    refine z_iload_n C 2 dX6_firstQuarrel_19 rfl rfl ?_
    obtain ⟨o1, h⟩ := h
    obtain ⟨o2, h⟩ := h
    refine z_icmp_ge C 93 dX6_firstQuarrel_20 (by decide) o1 o2 (fun c3 => ?_) (fun c3 => ?_)
    · have h := h.1 c3
      refine z_iinc C 3 [(3, .int (zI (v3 + 1))), (0, za x (29 + r0)), (1, .int (zI (v1))), (2, .int (zI (v2))), (4, .int (zI (v4)))] dX6_firstQuarrel_93 rfl (by rw [hN]; decide) rfl ?_
      refine z_goto C 7 dX6_firstQuarrel_96 (by decide) ?_
      refine z_sub C [1, 2, 3, 0] [(0, za x (29 + r0)), (1, .int (zI (v1))), (2, .int (zI (v2))), (3, .int (zI (v3 + 1)))] rfl ?_
      exact H7 r0 v1 v2 (v3 + 1) hr0 σ h
    · have h := h.2 c3
      refine z_iload_n C 3 dX6_firstQuarrel_23 rfl rfl ?_
      refine z_iconst C dX6_firstQuarrel_24 ?_
      refine z_iadd C dX6_firstQuarrel_25 ?_
      refine z_istore C [(5, .int (zI (v3 + 1))), (0, za x (29 + r0)), (1, .int (zI (v1))), (2, .int (zI (v2))), (3, .int (zI (v3))), (4, .int (zI (v4)))] dX6_firstQuarrel_26 (by rw [hN]; decide) rfl ?_
      refine z_sub C [1, 2, 3, 4, 5, 0] [(0, za x (29 + r0)), (1, .int (zI (v1))), (2, .int (zI (v2))), (3, .int (zI (v3))), (4, .int (zI (v4))), (5, .int (zI (v3 + 1)))] rfl ?_
      obtain ⟨n4, h⟩ := h
      exact sX6_firstQuarrel_28 C hN E (by intro r0 v1 v2 v3 v4 hr0 σ h; exact ih r0 v1 v2 v3 v4 hr0 σ h) n4 r0 v1 v2 v3 v4 (v3 + 1) hr0 σ h
def wX6_firstQuarrel_7 (k : Int → Hp → Prop) : Nat → Nat → Int → Int → Int → Hp → Prop
  | 0, _, _, _, _, _ => False
  | n + 1, r0, v1, v2, v3, σ => zrg v3 ∧ zrg v2 ∧ ((v2 ≤ v3 → k ((-4)) σ) ∧ (¬ (v2 ≤ v3) → (∃ N4, wX6_firstQuarrel_17 k (fun r0 v1 v2 v3 σ => wX6_firstQuarrel_7 k n r0 v1 v2 v3 σ) N4 r0 v1 v2 v3 (v3 + 1) σ)))
set_option maxRecDepth 100000 in
theorem sX6_firstQuarrel_7 {x : Cx} (C : zOk x cX6_firstQuarrel RX6 (some .int) (4) (91)) (hN : x.2.2.2.2.1 = 6) {k : Int → Hp → Prop} (E : zEnd x (zPi k x.2.1)) : ∀ (n : Nat) (r0 : Nat) (v1 : Int) (v2 : Int) (v3 : Int) (hr0 : r0 < 7) (σ : Hp), wX6_firstQuarrel_7 k n r0 v1 v2 v3 σ → zV x σ 7 [(0, za x (29 + r0)), (1, .int (zI (v1))), (2, .int (zI (v2))), (3, .int (zI (v3)))] [] := by
  intro n
  induction n with
  | zero => intro _ _ _ _ _ _ h; exact h.elim
  | succ n ih =>
    intro r0 v1 v2 v3 hr0 σ h
    unfold wX6_firstQuarrel_7 at h
    refine z_iload_n C 3 dX6_firstQuarrel_7 rfl rfl ?_
    refine z_iload_n C 2 dX6_firstQuarrel_8 rfl rfl ?_
    obtain ⟨o1, h⟩ := h
    obtain ⟨o2, h⟩ := h
    refine z_icmp_ge C 99 dX6_firstQuarrel_9 (by decide) o1 o2 (fun c3 => ?_) (fun c3 => ?_)
    · have h := h.1 c3
      refine z_bipush C dX6_firstQuarrel_99 rfl ?_
      exact z_iret C E dX6_firstQuarrel_101 ⟨_, rfl, h⟩
    · have h := h.2 c3
      refine z_iload_n C 3 dX6_firstQuarrel_12 rfl rfl ?_
      refine z_iconst C dX6_firstQuarrel_13 ?_
      refine z_iadd C dX6_firstQuarrel_14 ?_
      refine z_istore C [(4, .int (zI (v3 + 1))), (0, za x (29 + r0)), (1, .int (zI (v1))), (2, .int (zI (v2))), (3, .int (zI (v3)))] dX6_firstQuarrel_15 (by rw [hN]; decide) rfl ?_
      refine z_sub C [1, 2, 3, 4, 0] [(0, za x (29 + r0)), (1, .int (zI (v1))), (2, .int (zI (v2))), (3, .int (zI (v3))), (4, .int (zI (v3 + 1)))] rfl ?_
      obtain ⟨n4, h⟩ := h
      exact sX6_firstQuarrel_17 C hN E (by intro r0 v1 v2 v3 hr0 σ h; exact ih r0 v1 v2 v3 hr0 σ h) n4 r0 v1 v2 v3 (v3 + 1) hr0 σ h
def wX6_firstQuarrel (r0 : Nat) (v1 : Int) (σ : Hp) (k : Int → Hp → Prop) : Prop :=
  wX3_columns r0 σ (fun a2 σ1 => (∃ N3, wX6_firstQuarrel_7 k N3 r0 v1 a2 0 σ1))
set_option maxRecDepth 100000 in
theorem mX6_firstQuarrel (r0 : Nat) (v1 : Int) (hr0 : r0 < 7) (σ : Hp) (k : Int → Hp → Prop) (h : wX6_firstQuarrel r0 v1 σ k) (l : Launch) : zMt l yX6_firstQuarrel cX6_firstQuarrel 6 (some .int) { frames := 4, cells := 0, slots := 0, locals := 91 } (fun w => [.ref (w.2.1 (29 + r0)), .int (zI (v1))]) σ (zPi k) := by
  refine zMt_of (plainFor_of_name (by decide)) (fun w => Nat.le_of_ble_eq_true rfl) (fun x hl hN C E => ?_)
  change zV x σ 0 [(0, za x (29 + r0)), (1, .int (zI (v1)))] []
  change zOk x cX6_firstQuarrel RX6 (some .int) (4) (91) at C
  unfold wX6_firstQuarrel at h
  refine z_aload_n C 0 dX6_firstQuarrel_0 rfl rfl ?_
  refine z_callV (av := fun w => []) C [] cs_X3_columns (by have := hr0; omega) (zcell_row hr0) rfl (mX3_columns r0 hr0 σ _ h) km_X6_71 dX6_firstQuarrel_1 rfl rfl ⟨rfl, rfl⟩ ⟨by decide, by decide⟩ (Nat.le_of_ble_eq_true rfl) (fun rv σ1 hp => ?_)
  obtain ⟨a2, rfl, h⟩ := hp
  change zV x σ1 4 [(0, za x (29 + r0)), (1, .int (zI (v1)))] [.int (zI (a2))]
  refine z_istore_n C [(2, .int (zI (a2))), (0, za x (29 + r0)), (1, .int (zI (v1)))] dX6_firstQuarrel_4 rfl (by rw [hN]; decide) rfl ?_
  refine z_iconst C dX6_firstQuarrel_5 ?_
  refine z_istore_n C [(3, .int (zI (0))), (2, .int (zI (a2))), (0, za x (29 + r0)), (1, .int (zI (v1)))] dX6_firstQuarrel_6 rfl (by rw [hN]; decide) rfl ?_
  refine z_sub C [2, 3, 1, 0] [(0, za x (29 + r0)), (1, .int (zI (v1))), (2, .int (zI (a2))), (3, .int (zI (0)))] rfl ?_
  obtain ⟨n3, h⟩ := h
  exact sX6_firstQuarrel_7 C hN E n3 r0 v1 a2 0 hr0 σ1 h
def wX6_nibble (v0 : Int) (v2 : Int) (σ : Hp) (k : Int → Hp → Prop) : Prop :=
  k (zand (zLushr v0 (4 * v2)) 15) σ
set_option maxRecDepth 100000 in
theorem mX6_nibble (v0 : Int) (v2 : Int) (σ : Hp) (k : Int → Hp → Prop) (h : wX6_nibble v0 v2 σ k) (l : Launch) : zMt l yX6_nibble cX6_nibble 3 (some .int) { frames := 0, cells := 0, slots := 0, locals := 0 } (fun w => [.long (zJ (v0)), .int (zI (v2))]) σ (zPi k) := by
  refine zMt_of (plainFor_of_name (by decide)) (fun w => Nat.le_of_ble_eq_true rfl) (fun x hl hN C E => ?_)
  change zV x σ 0 [(0, .long (zJ (v0))), (2, .int (zI (v2)))] []
  change zOk x cX6_nibble RX6 (some .int) (0) (0) at C
  unfold wX6_nibble at h
  refine z_lload_n C 0 dX6_nibble_0 rfl rfl ?_
  refine z_iconst C dX6_nibble_1 ?_
  refine z_iload_n C 1 dX6_nibble_2 rfl rfl ?_
  refine z_imul C dX6_nibble_3 ?_
  refine z_lushr C dX6_nibble_4 ?_
  refine z_l2i C dX6_nibble_5 ?_
  refine z_bipush C dX6_nibble_6 rfl ?_
  refine z_iand C dX6_nibble_8 ?_
  exact z_iret C E dX6_nibble_9 ⟨_, rfl, h⟩
def wX6_fits_15 (k : Int → Hp → Prop) : Nat → Int → Int → Int → Int → Hp → Prop
  | 0, _, _, _, _, _ => False
  | n + 1, v0, v1, v2, v4, σ => zrg v4 ∧ zrg v0 ∧ ((v0 ≤ v4 → k 1 σ) ∧ (¬ (v0 ≤ v4) → wX6_nibble v2 v4 σ (fun a5 σ4 => zrg a5 ∧ zrg v1 ∧ ((a5 < v1 → wX6_fits_15 k n v0 v1 v2 (v4 + 1) σ4) ∧ (¬ (a5 < v1) → ((a5 = 15 → wX6_fits_15 k n v0 v1 v2 (v4 + 1) σ4) ∧ (¬ (a5 = 15) → k 0 σ4)))))))
set_option maxRecDepth 100000 in
theorem sX6_fits_15 {x : Cx} (C : zOk x cX6_fits RX6 (some .boolean) (1) (22)) (hN : x.2.2.2.2.1 = 6) {k : Int → Hp → Prop} (E : zEnd x (zPi k x.2.1)) : ∀ (n : Nat) (v0 : Int) (v1 : Int) (v2 : Int) (v4 : Int) (σ : Hp), wX6_fits_15 k n v0 v1 v2 v4 σ → zV x σ 15 [(0, .int (zI (v0))), (1, .int (zI (v1))), (2, .long (zJ (v2))), (4, .int (zI (v4)))] [] := by
  intro n
  induction n with
  | zero => intro _ _ _ _ _ h; exact h.elim
  | succ n ih =>
    intro v0 v1 v2 v4 σ h
    unfold wX6_fits_15 at h
    refine z_iload C 3 dX6_fits_15 rfl ?_
    refine z_iload_n C 0 dX6_fits_17 rfl rfl ?_
    obtain ⟨o1, h⟩ := h
    obtain ⟨o2, h⟩ := h
    refine z_icmp_ge C 50 dX6_fits_18 (by decide) o1 o2 (fun c3 => ?_) (fun c3 => ?_)
    · have h := h.1 c3
      refine z_iconst C dX6_fits_50 ?_
      exact z_zret C E dX6_fits_51 (by decide) ⟨_, rfl, h⟩
    · have h := h.2 c3
      refine z_lload_n C 2 dX6_fits_21 rfl rfl ?_
      refine z_iload C 3 dX6_fits_22 rfl ?_
      refine z_callS (av := fun w => [.long (zJ (v2)), .int (zI (v4))]) C [] cs_X6_nibble (mX6_nibble v2 v4  σ _ h) km_X6_79 dX6_fits_24 rfl rfl ⟨rfl, rfl⟩ ⟨by decide, by decide⟩ (Nat.le_of_ble_eq_true rfl) (fun rv σ4 hp => ?_)
      obtain ⟨a5, rfl, h⟩ := hp
      change zV x σ4 27 [(0, .int (zI (v0))), (1, .int (zI (v1))), (2, .long (zJ (v2))), (4, .int (zI (v4)))] [.int (zI (a5))]
      refine z_istore C [(5, .int (zI (a5))), (0, .int (zI (v0))), (1, .int (zI (v1))), (2, .long (zJ (v2))), (4, .int (zI (v4)))] dX6_fits_27 (by rw [hN]; decide) rfl ?_
      refine z_iload C 0 dX6_fits_29 rfl ?_
      refine z_iload_n C 2 dX6_fits_31 rfl rfl ?_
      obtain ⟨o6, h⟩ := h
      obtain ⟨o7, h⟩ := h
      refine z_icmp_lt C 44 dX6_fits_32 (by decide) o6 o7 (fun c8 => ?_) (fun c8 => ?_)
      · have h := h.1 c8
        refine z_iinc C 4 [(4, .int (zI (v4 + 1))), (5, .int (zI (a5))), (0, .int (zI (v0))), (1, .int (zI (v1))), (2, .long (zJ (v2)))] dX6_fits_44 rfl (by rw [hN]; decide) rfl ?_
        refine z_goto C 15 dX6_fits_47 (by decide) ?_
        refine z_sub C [2, 3, 4, 0] [(0, .int (zI (v0))), (1, .int (zI (v1))), (2, .long (zJ (v2))), (4, .int (zI (v4 + 1)))] rfl ?_
        exact ih v0 v1 v2 (v4 + 1)  σ4 h
      · have h := h.2 c8
        refine z_iload C 0 dX6_fits_35 rfl ?_
        refine z_bipush C dX6_fits_37 rfl ?_
        refine z_icmp_eq C 44 dX6_fits_39 (by decide) o6 (zrg_d rfl) (fun c9 => ?_) (fun c9 => ?_)
        · have h := h.1 c9
          refine z_iinc C 4 [(4, .int (zI (v4 + 1))), (5, .int (zI (a5))), (0, .int (zI (v0))), (1, .int (zI (v1))), (2, .long (zJ (v2)))] dX6_fits_44 rfl (by rw [hN]; decide) rfl ?_
          refine z_goto C 15 dX6_fits_47 (by decide) ?_
          refine z_sub C [2, 3, 4, 0] [(0, .int (zI (v0))), (1, .int (zI (v1))), (2, .long (zJ (v2))), (4, .int (zI (v4 + 1)))] rfl ?_
          exact ih v0 v1 v2 (v4 + 1)  σ4 h
        · have h := h.2 c9
          refine z_iconst C dX6_fits_42 ?_
          exact z_zret C E dX6_fits_43 (by decide) ⟨_, rfl, h⟩
def wX6_fits (v0 : Int) (v1 : Int) (v2 : Int) (σ : Hp) (k : Int → Hp → Prop) : Prop :=
  zrl (zLushr v2 (4 * v0)) ∧ ((zLushr v2 (4 * v0) = 0 → (∃ N3, wX6_fits_15 k N3 v0 v1 v2 0 σ)) ∧ (¬ (zLushr v2 (4 * v0) = 0) → k 0 σ))
set_option maxRecDepth 100000 in
theorem mX6_fits (v0 : Int) (v1 : Int) (v2 : Int) (σ : Hp) (k : Int → Hp → Prop) (h : wX6_fits v0 v1 v2 σ k) (l : Launch) : zMt l yX6_fits cX6_fits 6 (some .boolean) { frames := 1, cells := 0, slots := 0, locals := 22 } (fun w => [.int (zI (v0)), .int (zI (v1)), .long (zJ (v2))]) σ (zPi k) := by
  refine zMt_of (plainFor_of_name (by decide)) (fun w => Nat.le_of_ble_eq_true rfl) (fun x hl hN C E => ?_)
  change zV x σ 0 [(0, .int (zI (v0))), (1, .int (zI (v1))), (2, .long (zJ (v2)))] []
  change zOk x cX6_fits RX6 (some .boolean) (1) (22) at C
  unfold wX6_fits at h
  refine z_lload_n C 2 dX6_fits_0 rfl rfl ?_
  refine z_iconst C dX6_fits_1 ?_
  refine z_iload_n C 0 dX6_fits_2 rfl rfl ?_
  refine z_imul C dX6_fits_3 ?_
  refine z_lushr C dX6_fits_4 ?_
  refine z_lconst (z := 0) C dX6_fits_5 rfl ?_
  obtain ⟨o1, h⟩ := h
  refine z_lcmp_eq C 12 dX6_fits_6 dX6_fits_7 (by decide) o1 (zrl_d rfl) (fun c2 => ?_) (fun c2 => ?_)
  · have h := h.1 c2
    refine z_iconst C dX6_fits_12 ?_
    refine z_istore C [(4, .int (zI (0))), (0, .int (zI (v0))), (1, .int (zI (v1))), (2, .long (zJ (v2)))] dX6_fits_13 (by rw [hN]; decide) rfl ?_
    refine z_sub C [1, 2, 3, 0] [(0, .int (zI (v0))), (1, .int (zI (v1))), (2, .long (zJ (v2))), (4, .int (zI (0)))] rfl ?_
    obtain ⟨n3, h⟩ := h
    exact sX6_fits_15 C hN E n3 v0 v1 v2 0  σ h
  · have h := h.2 c2
    refine z_iconst C dX6_fits_10 ?_
    exact z_zret C E dX6_fits_11 (by decide) ⟨_, rfl, h⟩
def wX6_found (v1 : Int) (v2 : Int) (σ : Hp) (k : Int → Hp → Prop) : Prop :=
  wX6_rowAt v1 σ (fun w17 σ1 => (w17 = none → k ((-100)) σ1) ∧ ∀ q2, w17 = some q2 → wX6_within v2 0 2 σ1 (fun a4 σ3 => zrg a4 ∧ ((a4 ≠ 0 → wX0_seek q2 σ3 (fun σ7 => zrg v2 ∧ ((v2 ≠ 0 → ((v2 ≠ 1 → wX0_bestMoved  σ7 (fun a12 σ11 => k a12 σ11)) ∧ (¬ (v2 ≠ 1) → wX0_bestLate  σ7 (fun a14 σ13 => k a14 σ13)))) ∧ (¬ (v2 ≠ 0) → wX0_bestMeeting  σ7 (fun a16 σ15 => k a16 σ15))))) ∧ (¬ (a4 ≠ 0) → k ((-100)) σ3))))
set_option maxRecDepth 100000 in
theorem mX6_found (v1 : Int) (v2 : Int) (σ : Hp) (k : Int → Hp → Prop) (h : wX6_found v1 v2 σ k) (l : Launch) : zMt l yX6_found cX6_found 4 (some .int) { frames := 4, cells := 0, slots := 0, locals := 86 } (fun w => [.ref (w.2.1 (0)), .int (zI (v1)), .int (zI (v2))]) σ (zPi k) := by
  refine zMt_of (plainFor_of_name (by decide)) (fun w => Nat.le_of_ble_eq_true rfl) (fun x hl hN C E => ?_)
  change zV x σ 0 [(0, za x (0)), (1, .int (zI (v1))), (2, .int (zI (v2)))] []
  change zOk x cX6_found RX6 (some .int) (4) (86) at C
  unfold wX6_found at h
  refine z_aload_n C 0 dX6_found_0 rfl rfl ?_
  refine z_iload_n C 1 dX6_found_1 rfl rfl ?_
  refine z_callV (av := fun w => [.int (zI (v1))]) C [] cs_X6_rowAt (by decide) (fun _ _ => rfl) rfl (mX6_rowAt v1  σ _ h) km_X6_59 dX6_found_2 rfl rfl ⟨rfl, rfl⟩ ⟨by decide, by decide⟩ (Nat.le_of_ble_eq_true rfl) (fun rv σ1 hp => ?_)
  rcases hp with ⟨rfl, h⟩ | ⟨q2, hq2, rfl, h⟩
  · have h := h.1 rfl
    change zV x σ1 5 [(0, za x (0)), (1, .int (zI (v1))), (2, .int (zI (v2)))] [.null]
    refine z_astore_nN C [(3, .null), (0, za x (0)), (1, .int (zI (v1))), (2, .int (zI (v2)))] dX6_found_5 rfl (by rw [hN]; decide) rfl ?_
    refine z_aload_nN C 0 dX6_found_6 rfl rfl ?_
    refine z_ifnullN C 19 dX6_found_7 (by decide) ?_
    refine z_bipush C dX6_found_19 rfl ?_
    exact z_iret C E dX6_found_21 ⟨_, rfl, h⟩
  · have h := h.2 q2 rfl
    change zV x σ1 5 [(0, za x (0)), (1, .int (zI (v1))), (2, .int (zI (v2)))] [za x (29 + q2)]
    refine z_astore_n C [(3, za x (29 + q2)), (0, za x (0)), (1, .int (zI (v1))), (2, .int (zI (v2)))] dX6_found_5 rfl (by rw [hN]; decide) rfl ?_
    refine z_aload_n C 0 dX6_found_6 rfl rfl ?_
    refine z_ifnull C dX6_found_7 ?_
    refine z_iload_n C 3 dX6_found_10 rfl rfl ?_
    refine z_iconst C dX6_found_11 ?_
    refine z_iconst C dX6_found_12 ?_
    refine z_callS (av := fun w => [.int (zI (v2)), .int (zI (0)), .int (zI (2))]) C [] cs_X6_within (mX6_within v2 0 2  σ1 _ h) km_X6_63 dX6_found_13 rfl rfl ⟨rfl, rfl⟩ ⟨by decide, by decide⟩ (Nat.le_of_ble_eq_true rfl) (fun rv σ3 hp => ?_)
    obtain ⟨a4, rfl, h⟩ := hp
    change zV x σ3 16 [(3, za x (29 + q2)), (0, za x (0)), (1, .int (zI (v1))), (2, .int (zI (v2)))] [.int (zI (a4))]
    obtain ⟨o5, h⟩ := h
    refine z_if_ne C 22 dX6_found_16 (by decide) o5 (fun c6 => ?_) (fun c6 => ?_)
    · have h := h.1 c6
      refine z_aload_n C 1 dX6_found_22 rfl rfl ?_
      refine g_X6_6 C kf_X6_51 dX6_found_23 ?_
      refine z_aload_n C 0 dX6_found_26 rfl rfl ?_
      refine z_callV (av := fun w => [.ref (w.2.1 (29 + q2))]) C [] cs_X0_seek (by decide) (fun _ _ => rfl) rfl (mX0_seek q2 hq2 σ3 _ h) km_X6_240 dX6_found_27 rfl rfl ⟨rfl, rfl⟩ ⟨by decide, by decide⟩ (Nat.le_of_ble_eq_true rfl) (fun rv σ7 hp => ?_)
      obtain ⟨rfl, h⟩ := hp
      change zV x σ7 30 [(3, za x (29 + q2)), (0, za x (0)), (1, .int (zI (v1))), (2, .int (zI (v2)))] []
      refine z_iload_n C 3 dX6_found_30 rfl rfl ?_
      obtain ⟨o8, h⟩ := h
      refine z_if_ne C 42 dX6_found_31 (by decide) o8 (fun c9 => ?_) (fun c9 => ?_)
      · have h := h.1 c9
        refine z_iload_n C 3 dX6_found_42 rfl rfl ?_
        refine z_iconst C dX6_found_43 ?_
        refine z_icmp_ne C 57 dX6_found_44 (by decide) o8 (zrg_d rfl) (fun c10 => ?_) (fun c10 => ?_)
        · have h := h.1 c10
          refine z_aload_n C 1 dX6_found_57 rfl rfl ?_
          refine g_X6_6 C kf_X6_51 dX6_found_58 ?_
          refine z_callV (av := fun w => []) C [] cs_X0_bestMoved (by decide) (fun _ _ => rfl) rfl (mX0_bestMoved   σ7 _ h) km_X6_247 dX6_found_61 rfl rfl ⟨rfl, rfl⟩ ⟨by decide, by decide⟩ (Nat.le_of_ble_eq_true rfl) (fun rv σ11 hp => ?_)
          obtain ⟨a12, rfl, h⟩ := hp
          change zV x σ11 64 [(3, za x (29 + q2)), (0, za x (0)), (1, .int (zI (v1))), (2, .int (zI (v2)))] [.int (zI (a12))]
          exact z_iret C E dX6_found_64 ⟨_, rfl, h⟩
        · have h := h.2 c10
          refine z_aload_n C 1 dX6_found_47 rfl rfl ?_
          refine g_X6_6 C kf_X6_51 dX6_found_48 ?_
          refine z_callV (av := fun w => []) C [] cs_X0_bestLate (by decide) (fun _ _ => rfl) rfl (mX0_bestLate   σ7 _ h) km_X6_244 dX6_found_51 rfl rfl ⟨rfl, rfl⟩ ⟨by decide, by decide⟩ (Nat.le_of_ble_eq_true rfl) (fun rv σ13 hp => ?_)
          obtain ⟨a14, rfl, h⟩ := hp
          change zV x σ13 54 [(3, za x (29 + q2)), (0, za x (0)), (1, .int (zI (v1))), (2, .int (zI (v2)))] [.int (zI (a14))]
          refine z_goto C 64 dX6_found_54 (by decide) ?_
          exact z_iret C E dX6_found_64 ⟨_, rfl, h⟩
      · have h := h.2 c9
        refine z_aload_n C 1 dX6_found_34 rfl rfl ?_
        refine g_X6_6 C kf_X6_51 dX6_found_35 ?_
        refine z_callV (av := fun w => []) C [] cs_X0_bestMeeting (by decide) (fun _ _ => rfl) rfl (mX0_bestMeeting   σ7 _ h) km_X6_243 dX6_found_38 rfl rfl ⟨rfl, rfl⟩ ⟨by decide, by decide⟩ (Nat.le_of_ble_eq_true rfl) (fun rv σ15 hp => ?_)
        obtain ⟨a16, rfl, h⟩ := hp
        change zV x σ15 41 [(3, za x (29 + q2)), (0, za x (0)), (1, .int (zI (v1))), (2, .int (zI (v2)))] [.int (zI (a16))]
        exact z_iret C E dX6_found_41 ⟨_, rfl, h⟩
    · have h := h.2 c6
      refine z_bipush C dX6_found_19 rfl ?_
      exact z_iret C E dX6_found_21 ⟨_, rfl, h⟩
def wX6_hear (v1 : Int) (v2 : Int) (σ : Hp) (k : Int → Hp → Prop) : Prop :=
  wX6_within v1 0 30 σ (fun a2 σ1 => zrg a2 ∧ ((a2 = 0 → k ((-1)) σ1) ∧ (¬ (a2 = 0) → wX6_within v2 ((-20)) 20 σ1 (fun a6 σ5 => zrg a6 ∧ ((a6 ≠ 0 → wX0_holds v1 v2 σ5 (fun a10 σ9 => zrg a10 ∧ ((a10 = 0 → wX0_isFull  σ9 (fun a14 σ13 => zrg a14 ∧ ((a14 = 0 → wX0_add v1 v2 σ13 (fun σ17 => wX0_size  σ17 (fun a19 σ18 => k a19 σ18))) ∧ (¬ (a14 = 0) → k ((-3)) σ13)))) ∧ (¬ (a10 = 0) → k ((-2)) σ9)))) ∧ (¬ (a6 ≠ 0) → k ((-1)) σ5))))))
set_option maxRecDepth 100000 in
theorem mX6_hear (v1 : Int) (v2 : Int) (σ : Hp) (k : Int → Hp → Prop) (h : wX6_hear v1 v2 σ k) (l : Launch) : zMt l yX6_hear cX6_hear 3 (some .int) { frames := 2, cells := 0, slots := 0, locals := 44 } (fun w => [.ref (w.2.1 (0)), .int (zI (v1)), .int (zI (v2))]) σ (zPi k) := by
  refine zMt_of (plainFor_of_name (by decide)) (fun w => Nat.le_of_ble_eq_true rfl) (fun x hl hN C E => ?_)
  change zV x σ 0 [(0, za x (0)), (1, .int (zI (v1))), (2, .int (zI (v2)))] []
  change zOk x cX6_hear RX6 (some .int) (2) (44) at C
  unfold wX6_hear at h
  refine z_iload_n C 1 dX6_hear_0 rfl rfl ?_
  refine z_iconst C dX6_hear_1 ?_
  refine z_bipush C dX6_hear_2 rfl ?_
  refine z_callS (av := fun w => [.int (zI (v1)), .int (zI (0)), .int (zI (30))]) C [] cs_X6_within (mX6_within v1 0 30  σ _ h) km_X6_63 dX6_hear_4 rfl rfl ⟨rfl, rfl⟩ ⟨by decide, by decide⟩ (Nat.le_of_ble_eq_true rfl) (fun rv σ1 hp => ?_)
  obtain ⟨a2, rfl, h⟩ := hp
  change zV x σ1 7 [(0, za x (0)), (1, .int (zI (v1))), (2, .int (zI (v2)))] [.int (zI (a2))]
  obtain ⟨o3, h⟩ := h
  refine z_if_eq C 21 dX6_hear_7 (by decide) o3 (fun c4 => ?_) (fun c4 => ?_)
  · have h := h.1 c4
    refine z_iconst C dX6_hear_21 ?_
    exact z_iret C E dX6_hear_22 ⟨_, rfl, h⟩
  · have h := h.2 c4
    refine z_iload_n C 2 dX6_hear_10 rfl rfl ?_
    refine z_bipush C dX6_hear_11 rfl ?_
    refine z_bipush C dX6_hear_13 rfl ?_
    refine z_callS (av := fun w => [.int (zI (v2)), .int (zI ((-20))), .int (zI (20))]) C [] cs_X6_within (mX6_within v2 ((-20)) 20  σ1 _ h) km_X6_63 dX6_hear_15 rfl rfl ⟨rfl, rfl⟩ ⟨by decide, by decide⟩ (Nat.le_of_ble_eq_true rfl) (fun rv σ5 hp => ?_)
    obtain ⟨a6, rfl, h⟩ := hp
    change zV x σ5 18 [(0, za x (0)), (1, .int (zI (v1))), (2, .int (zI (v2)))] [.int (zI (a6))]
    obtain ⟨o7, h⟩ := h
    refine z_if_ne C 23 dX6_hear_18 (by decide) o7 (fun c8 => ?_) (fun c8 => ?_)
    · have h := h.1 c8
      refine z_aload_n C 0 dX6_hear_23 rfl rfl ?_
      refine g_X6_6 C kf_X6_51 dX6_hear_24 ?_
      refine z_iload_n C 1 dX6_hear_27 rfl rfl ?_
      refine z_iload_n C 2 dX6_hear_28 rfl rfl ?_
      refine z_callV (av := fun w => [.int (zI (v1)), .int (zI (v2))]) C [] cs_X0_holds (by decide) (fun _ _ => rfl) rfl (mX0_holds v1 v2  σ5 _ h) km_X6_227 dX6_hear_29 rfl rfl ⟨rfl, rfl⟩ ⟨by decide, by decide⟩ (Nat.le_of_ble_eq_true rfl) (fun rv σ9 hp => ?_)
      obtain ⟨a10, rfl, h⟩ := hp
      change zV x σ9 32 [(0, za x (0)), (1, .int (zI (v1))), (2, .int (zI (v2)))] [.int (zI (a10))]
      obtain ⟨o11, h⟩ := h
      refine z_if_eq C 38 dX6_hear_32 (by decide) o11 (fun c12 => ?_) (fun c12 => ?_)
      · have h := h.1 c12
        refine z_aload_n C 0 dX6_hear_38 rfl rfl ?_
        refine g_X6_6 C kf_X6_51 dX6_hear_39 ?_
        refine z_callV (av := fun w => []) C [] cs_X0_isFull (by decide) (fun _ _ => rfl) rfl (mX0_isFull   σ9 _ h) km_X6_231 dX6_hear_42 rfl rfl ⟨rfl, rfl⟩ ⟨by decide, by decide⟩ (Nat.le_of_ble_eq_true rfl) (fun rv σ13 hp => ?_)
        obtain ⟨a14, rfl, h⟩ := hp
        change zV x σ13 45 [(0, za x (0)), (1, .int (zI (v1))), (2, .int (zI (v2)))] [.int (zI (a14))]
        obtain ⟨o15, h⟩ := h
        refine z_if_eq C 51 dX6_hear_45 (by decide) o15 (fun c16 => ?_) (fun c16 => ?_)
        · have h := h.1 c16
          refine z_aload_n C 0 dX6_hear_51 rfl rfl ?_
          refine g_X6_6 C kf_X6_51 dX6_hear_52 ?_
          refine z_iload_n C 1 dX6_hear_55 rfl rfl ?_
          refine z_iload_n C 2 dX6_hear_56 rfl rfl ?_
          refine z_callV (av := fun w => [.int (zI (v1)), .int (zI (v2))]) C [] cs_X0_add (by decide) (fun _ _ => rfl) rfl (mX0_add v1 v2  σ13 _ h) km_X6_234 dX6_hear_57 rfl rfl ⟨rfl, rfl⟩ ⟨by decide, by decide⟩ (Nat.le_of_ble_eq_true rfl) (fun rv σ17 hp => ?_)
          obtain ⟨rfl, h⟩ := hp
          change zV x σ17 60 [(0, za x (0)), (1, .int (zI (v1))), (2, .int (zI (v2)))] []
          refine z_aload_n C 0 dX6_hear_60 rfl rfl ?_
          refine g_X6_6 C kf_X6_51 dX6_hear_61 ?_
          refine z_callV (av := fun w => []) C [] cs_X0_size (by decide) (fun _ _ => rfl) rfl (mX0_size   σ17 _ h) km_X6_236 dX6_hear_64 rfl rfl ⟨rfl, rfl⟩ ⟨by decide, by decide⟩ (Nat.le_of_ble_eq_true rfl) (fun rv σ18 hp => ?_)
          obtain ⟨a19, rfl, h⟩ := hp
          change zV x σ18 67 [(0, za x (0)), (1, .int (zI (v1))), (2, .int (zI (v2)))] [.int (zI (a19))]
          exact z_iret C E dX6_hear_67 ⟨_, rfl, h⟩
        · have h := h.2 c16
          refine z_bipush C dX6_hear_48 rfl ?_
          exact z_iret C E dX6_hear_50 ⟨_, rfl, h⟩
      · have h := h.2 c12
        refine z_bipush C dX6_hear_35 rfl ?_
        exact z_iret C E dX6_hear_37 ⟨_, rfl, h⟩
    · have h := h.2 c8
      refine z_iconst C dX6_hear_21 ?_
      exact z_iret C E dX6_hear_22 ⟨_, rfl, h⟩
def wX6_meeting_6 (k : Int → Hp → Prop) : Nat → Nat → Nat → Int → Int → Int → Int → Hp → Prop
  | 0, _, _, _, _, _, _, _ => False
  | n + 1, r0, r1, v2, v3, v4, v5, σ => wX3_columns r0 σ (fun a2 σ1 => zrg v5 ∧ zrg a2 ∧ ((a2 ≤ v5 → k v4 σ1) ∧ (¬ (a2 ≤ v5) → wX3_markedAt r0 v5 σ1 (fun a7 σ6 => zrg a7 ∧ ((a7 = 0 → wX6_meeting_6 k n r0 r1 v2 v3 v4 (v5 + 1) σ6) ∧ (¬ (a7 = 0) → wX3_lineAt r0 v5 σ6 (fun a11 σ10 => wX3_hasMark r1 (v5 + v2) (a11 + v3) σ10 (fun a13 σ12 => zrg a13 ∧ ((a13 = 0 → wX6_meeting_6 k n r0 r1 v2 v3 v4 (v5 + 1) σ12) ∧ (¬ (a13 = 0) → wX6_meeting_6 k n r0 r1 v2 v3 (v4 + 1) (v5 + 1) σ12))))))))))
set_option maxRecDepth 100000 in
theorem sX6_meeting_6 {x : Cx} (C : zOk x cX6_meeting RX6 (some .int) (3) (65)) (hN : x.2.2.2.2.1 = 6) {k : Int → Hp → Prop} (E : zEnd x (zPi k x.2.1)) : ∀ (n : Nat) (r0 : Nat) (r1 : Nat) (v2 : Int) (v3 : Int) (v4 : Int) (v5 : Int) (hr0 : r0 < 7) (hr1 : r1 < 7) (σ : Hp), wX6_meeting_6 k n r0 r1 v2 v3 v4 v5 σ → zV x σ 6 [(0, za x (29 + r0)), (1, za x (29 + r1)), (2, .int (zI (v2))), (3, .int (zI (v3))), (4, .int (zI (v4))), (5, .int (zI (v5)))] [] := by
  intro n
  induction n with
  | zero => intro _ _ _ _ _ _ _ _ _ h; exact h.elim
  | succ n ih =>
    intro r0 r1 v2 v3 v4 v5 hr0 hr1 σ h
    unfold wX6_meeting_6 at h
    refine z_iload C 5 dX6_meeting_6 rfl ?_
    refine z_aload_n C 0 dX6_meeting_8 rfl rfl ?_
    refine z_callV (av := fun w => []) C [.int (zI (v5))] cs_X3_columns (by have := hr0; omega) (zcell_row hr0) rfl (mX3_columns r0 hr0 σ _ h) km_X6_71 dX6_meeting_9 rfl rfl ⟨rfl, rfl⟩ ⟨by decide, by decide⟩ (Nat.le_of_ble_eq_true rfl) (fun rv σ1 hp => ?_)
    obtain ⟨a2, rfl, h⟩ := hp
    change zV x σ1 12 [(0, za x (29 + r0)), (1, za x (29 + r1)), (2, .int (zI (v2))), (3, .int (zI (v3))), (4, .int (zI (v4))), (5, .int (zI (v5)))] [.int (zI (a2)), .int (zI (v5))]
    obtain ⟨o3, h⟩ := h
    obtain ⟨o4, h⟩ := h
    refine z_icmp_ge C 52 dX6_meeting_12 (by decide) o3 o4 (fun c5 => ?_) (fun c5 => ?_)
    · have h := h.1 c5
      refine z_iload C 4 dX6_meeting_52 rfl ?_
      exact z_iret C E dX6_meeting_54 ⟨_, rfl, h⟩
    · have h := h.2 c5
      refine z_aload_n C 0 dX6_meeting_15 rfl rfl ?_
      refine z_iload C 5 dX6_meeting_16 rfl ?_
      refine z_callV (av := fun w => [.int (zI (v5))]) C [] cs_X3_markedAt (by have := hr0; omega) (zcell_row hr0) rfl (mX3_markedAt r0 v5 hr0 σ1 _ h) km_X6_116 dX6_meeting_18 rfl rfl ⟨rfl, rfl⟩ ⟨by decide, by decide⟩ (Nat.le_of_ble_eq_true rfl) (fun rv σ6 hp => ?_)
      obtain ⟨a7, rfl, h⟩ := hp
      change zV x σ6 21 [(0, za x (29 + r0)), (1, za x (29 + r1)), (2, .int (zI (v2))), (3, .int (zI (v3))), (4, .int (zI (v4))), (5, .int (zI (v5)))] [.int (zI (a7))]
      obtain ⟨o8, h⟩ := h
      refine z_if_eq C 46 dX6_meeting_21 (by decide) o8 (fun c9 => ?_) (fun c9 => ?_)
      · have h := h.1 c9
        refine z_iinc C 5 [(5, .int (zI (v5 + 1))), (0, za x (29 + r0)), (1, za x (29 + r1)), (2, .int (zI (v2))), (3, .int (zI (v3))), (4, .int (zI (v4)))] dX6_meeting_46 rfl (by rw [hN]; decide) rfl ?_
        refine z_goto C 6 dX6_meeting_49 (by decide) ?_
        refine z_sub C [1, 2, 3, 4, 5, 0] [(0, za x (29 + r0)), (1, za x (29 + r1)), (2, .int (zI (v2))), (3, .int (zI (v3))), (4, .int (zI (v4))), (5, .int (zI (v5 + 1)))] rfl ?_
        exact ih r0 r1 v2 v3 v4 (v5 + 1) hr0 hr1 σ6 h
      · have h := h.2 c9
        refine z_aload_n C 1 dX6_meeting_24 rfl rfl ?_
        refine z_iload C 5 dX6_meeting_25 rfl ?_
        refine z_iload_n C 2 dX6_meeting_27 rfl rfl ?_
        refine z_iadd C dX6_meeting_28 ?_
        refine z_aload_n C 0 dX6_meeting_29 rfl rfl ?_
        refine z_iload C 5 dX6_meeting_30 rfl ?_
        refine z_callV (av := fun w => [.int (zI (v5))]) C [.int (zI (v5 + v2)), za x (29 + r1)] cs_X3_lineAt (by have := hr0; omega) (zcell_row hr0) rfl (mX3_lineAt r0 v5 hr0 σ6 _ h) km_X6_119 dX6_meeting_32 rfl rfl ⟨rfl, rfl⟩ ⟨by decide, by decide⟩ (Nat.le_of_ble_eq_true rfl) (fun rv σ10 hp => ?_)
        obtain ⟨a11, rfl, h⟩ := hp
        change zV x σ10 35 [(0, za x (29 + r0)), (1, za x (29 + r1)), (2, .int (zI (v2))), (3, .int (zI (v3))), (4, .int (zI (v4))), (5, .int (zI (v5)))] [.int (zI (a11)), .int (zI (v5 + v2)), za x (29 + r1)]
        refine z_iload_n C 3 dX6_meeting_35 rfl rfl ?_
        refine z_iadd C dX6_meeting_36 ?_
        refine z_callV (av := fun w => [.int (zI (v5 + v2)), .int (zI (a11 + v3))]) C [] cs_X3_hasMark (by have := hr1; omega) (zcell_row hr1) rfl (mX3_hasMark r1 (v5 + v2) (a11 + v3) hr1 σ10 _ h) km_X6_275 dX6_meeting_37 rfl rfl ⟨rfl, rfl⟩ ⟨by decide, by decide⟩ (Nat.le_of_ble_eq_true rfl) (fun rv σ12 hp => ?_)
        obtain ⟨a13, rfl, h⟩ := hp
        change zV x σ12 40 [(0, za x (29 + r0)), (1, za x (29 + r1)), (2, .int (zI (v2))), (3, .int (zI (v3))), (4, .int (zI (v4))), (5, .int (zI (v5)))] [.int (zI (a13))]
        obtain ⟨o14, h⟩ := h
        refine z_if_eq C 46 dX6_meeting_40 (by decide) o14 (fun c15 => ?_) (fun c15 => ?_)
        · have h := h.1 c15
          refine z_iinc C 5 [(5, .int (zI (v5 + 1))), (0, za x (29 + r0)), (1, za x (29 + r1)), (2, .int (zI (v2))), (3, .int (zI (v3))), (4, .int (zI (v4)))] dX6_meeting_46 rfl (by rw [hN]; decide) rfl ?_
          refine z_goto C 6 dX6_meeting_49 (by decide) ?_
          refine z_sub C [1, 2, 3, 4, 5, 0] [(0, za x (29 + r0)), (1, za x (29 + r1)), (2, .int (zI (v2))), (3, .int (zI (v3))), (4, .int (zI (v4))), (5, .int (zI (v5 + 1)))] rfl ?_
          exact ih r0 r1 v2 v3 v4 (v5 + 1) hr0 hr1 σ12 h
        · have h := h.2 c15
          refine z_iinc C 4 [(4, .int (zI (v4 + 1))), (0, za x (29 + r0)), (1, za x (29 + r1)), (2, .int (zI (v2))), (3, .int (zI (v3))), (5, .int (zI (v5)))] dX6_meeting_43 rfl (by rw [hN]; decide) rfl ?_
          refine z_iinc C 5 [(5, .int (zI (v5 + 1))), (4, .int (zI (v4 + 1))), (0, za x (29 + r0)), (1, za x (29 + r1)), (2, .int (zI (v2))), (3, .int (zI (v3)))] dX6_meeting_46 rfl (by rw [hN]; decide) rfl ?_
          refine z_goto C 6 dX6_meeting_49 (by decide) ?_
          refine z_sub C [2, 3, 4, 5, 1, 0] [(0, za x (29 + r0)), (1, za x (29 + r1)), (2, .int (zI (v2))), (3, .int (zI (v3))), (4, .int (zI (v4 + 1))), (5, .int (zI (v5 + 1)))] rfl ?_
          exact ih r0 r1 v2 v3 (v4 + 1) (v5 + 1) hr0 hr1 σ12 h
def wX6_meeting (r0 : Nat) (r1 : Nat) (v2 : Int) (v3 : Int) (σ : Hp) (k : Int → Hp → Prop) : Prop :=
  (∃ N1, wX6_meeting_6 k N1 r0 r1 v2 v3 0 0 σ)
set_option maxRecDepth 100000 in
theorem mX6_meeting (r0 : Nat) (r1 : Nat) (v2 : Int) (v3 : Int) (hr0 : r0 < 7) (hr1 : r1 < 7) (σ : Hp) (k : Int → Hp → Prop) (h : wX6_meeting r0 r1 v2 v3 σ k) (l : Launch) : zMt l yX6_meeting cX6_meeting 6 (some .int) { frames := 3, cells := 0, slots := 0, locals := 65 } (fun w => [.ref (w.2.1 (29 + r0)), .ref (w.2.1 (29 + r1)), .int (zI (v2)), .int (zI (v3))]) σ (zPi k) := by
  refine zMt_of (plainFor_of_name (by decide)) (fun w => Nat.le_of_ble_eq_true rfl) (fun x hl hN C E => ?_)
  change zV x σ 0 [(0, za x (29 + r0)), (1, za x (29 + r1)), (2, .int (zI (v2))), (3, .int (zI (v3)))] []
  change zOk x cX6_meeting RX6 (some .int) (3) (65) at C
  unfold wX6_meeting at h
  refine z_iconst C dX6_meeting_0 ?_
  refine z_istore C [(4, .int (zI (0))), (0, za x (29 + r0)), (1, za x (29 + r1)), (2, .int (zI (v2))), (3, .int (zI (v3)))] dX6_meeting_1 (by rw [hN]; decide) rfl ?_
  refine z_iconst C dX6_meeting_3 ?_
  refine z_istore C [(5, .int (zI (0))), (4, .int (zI (0))), (0, za x (29 + r0)), (1, za x (29 + r1)), (2, .int (zI (v2))), (3, .int (zI (v3)))] dX6_meeting_4 (by rw [hN]; decide) rfl ?_
  refine z_sub C [2, 3, 4, 5, 1, 0] [(0, za x (29 + r0)), (1, za x (29 + r1)), (2, .int (zI (v2))), (3, .int (zI (v3))), (4, .int (zI (0))), (5, .int (zI (0)))] rfl ?_
  obtain ⟨n1, h⟩ := h
  exact sX6_meeting_6 C hN E n1 r0 r1 v2 v3 0 0 hr0 hr1 σ h
def wX6_meetingRound_6 (k : Int → Hp → Prop) : Nat → Nat → Nat → Int → Int → Int → Int → Hp → Prop
  | 0, _, _, _, _, _, _, _ => False
  | n + 1, r0, r1, v2, v3, v4, v5, σ => wX3_columns r0 σ (fun a2 σ1 => zrg v5 ∧ zrg a2 ∧ ((a2 ≤ v5 → k v4 σ1) ∧ (¬ (a2 ≤ v5) → wX3_columns r1 σ1 (fun a7 σ6 => zrg a7 ∧ ((a7 ≤ v5 → k v4 σ6) ∧ (¬ (a7 ≤ v5) → wX3_lineAt r0 v5 σ6 (fun a11 σ10 => zrg a11 ∧ ((a11 = 15 → wX6_meetingRound_6 k n r0 r1 v2 v3 v4 (v5 + 1) σ10) ∧ (¬ (a11 = 15) → wX3_lines r1 σ10 (fun a15 σ14 => zrg a15 ∧ ((a15 ≤ a11 → wX6_meetingRound_6 k n r0 r1 v2 v3 v4 (v5 + 1) σ14) ∧ (¬ (a15 ≤ a11) → wX3_columns r1 σ14 (fun a19 σ18 => wX6_rest (v5 + v2) a19 σ18 (fun a21 σ20 => wX3_lines r1 σ20 (fun a23 σ22 => wX6_rest (a11 + v3) a23 σ22 (fun a25 σ24 => wX3_hasMark r1 a21 a25 σ24 (fun a27 σ26 => zrg a27 ∧ ((a27 = 0 → wX6_meetingRound_6 k n r0 r1 v2 v3 v4 (v5 + 1) σ26) ∧ (¬ (a27 = 0) → wX6_meetingRound_6 k n r0 r1 v2 v3 (v4 + 1) (v5 + 1) σ26)))))))))))))))))))
set_option maxRecDepth 100000 in
theorem sX6_meetingRound_6 {x : Cx} (C : zOk x cX6_meetingRound RX6 (some .int) (3) (65)) (hN : x.2.2.2.2.1 = 7) {k : Int → Hp → Prop} (E : zEnd x (zPi k x.2.1)) : ∀ (n : Nat) (r0 : Nat) (r1 : Nat) (v2 : Int) (v3 : Int) (v4 : Int) (v5 : Int) (hr0 : r0 < 7) (hr1 : r1 < 7) (σ : Hp), wX6_meetingRound_6 k n r0 r1 v2 v3 v4 v5 σ → zV x σ 6 [(0, za x (29 + r0)), (1, za x (29 + r1)), (2, .int (zI (v2))), (3, .int (zI (v3))), (4, .int (zI (v4))), (5, .int (zI (v5)))] [] := by
  intro n
  induction n with
  | zero => intro _ _ _ _ _ _ _ _ _ h; exact h.elim
  | succ n ih =>
    intro r0 r1 v2 v3 v4 v5 hr0 hr1 σ h
    unfold wX6_meetingRound_6 at h
    refine z_iload C 5 dX6_meetingRound_6 rfl ?_
    refine z_aload_n C 0 dX6_meetingRound_8 rfl rfl ?_
    refine z_callV (av := fun w => []) C [.int (zI (v5))] cs_X3_columns (by have := hr0; omega) (zcell_row hr0) rfl (mX3_columns r0 hr0 σ _ h) km_X6_71 dX6_meetingRound_9 rfl rfl ⟨rfl, rfl⟩ ⟨by decide, by decide⟩ (Nat.le_of_ble_eq_true rfl) (fun rv σ1 hp => ?_)
    obtain ⟨a2, rfl, h⟩ := hp
    change zV x σ1 12 [(0, za x (29 + r0)), (1, za x (29 + r1)), (2, .int (zI (v2))), (3, .int (zI (v3))), (4, .int (zI (v4))), (5, .int (zI (v5)))] [.int (zI (a2)), .int (zI (v5))]
    obtain ⟨o3, h⟩ := h
    obtain ⟨o4, h⟩ := h
    refine z_icmp_ge C 86 dX6_meetingRound_12 (by decide) o3 o4 (fun c5 => ?_) (fun c5 => ?_)
    · have h := h.1 c5
      refine z_iload C 4 dX6_meetingRound_86 rfl ?_
      exact z_iret C E dX6_meetingRound_88 ⟨_, rfl, h⟩
    · have h := h.2 c5
      refine z_iload C 5 dX6_meetingRound_15 rfl ?_
      refine z_aload_n C 1 dX6_meetingRound_17 rfl rfl ?_
      refine z_callV (av := fun w => []) C [.int (zI (v5))] cs_X3_columns (by have := hr1; omega) (zcell_row hr1) rfl (mX3_columns r1 hr1 σ1 _ h) km_X6_71 dX6_meetingRound_18 rfl rfl ⟨rfl, rfl⟩ ⟨by decide, by decide⟩ (Nat.le_of_ble_eq_true rfl) (fun rv σ6 hp => ?_)
      obtain ⟨a7, rfl, h⟩ := hp
      change zV x σ6 21 [(0, za x (29 + r0)), (1, za x (29 + r1)), (2, .int (zI (v2))), (3, .int (zI (v3))), (4, .int (zI (v4))), (5, .int (zI (v5)))] [.int (zI (a7)), .int (zI (v5))]
      obtain ⟨o8, h⟩ := h
      refine z_icmp_ge C 86 dX6_meetingRound_21 (by decide) o3 o8 (fun c9 => ?_) (fun c9 => ?_)
      · have h := h.1 c9
        refine z_iload C 4 dX6_meetingRound_86 rfl ?_
        exact z_iret C E dX6_meetingRound_88 ⟨_, rfl, h⟩
      · have h := h.2 c9
        refine z_aload_n C 0 dX6_meetingRound_24 rfl rfl ?_
        refine z_iload C 5 dX6_meetingRound_25 rfl ?_
        refine z_callV (av := fun w => [.int (zI (v5))]) C [] cs_X3_lineAt (by have := hr0; omega) (zcell_row hr0) rfl (mX3_lineAt r0 v5 hr0 σ6 _ h) km_X6_119 dX6_meetingRound_27 rfl rfl ⟨rfl, rfl⟩ ⟨by decide, by decide⟩ (Nat.le_of_ble_eq_true rfl) (fun rv σ10 hp => ?_)
        obtain ⟨a11, rfl, h⟩ := hp
        change zV x σ10 30 [(0, za x (29 + r0)), (1, za x (29 + r1)), (2, .int (zI (v2))), (3, .int (zI (v3))), (4, .int (zI (v4))), (5, .int (zI (v5)))] [.int (zI (a11))]
        refine z_istore C [(6, .int (zI (a11))), (0, za x (29 + r0)), (1, za x (29 + r1)), (2, .int (zI (v2))), (3, .int (zI (v3))), (4, .int (zI (v4))), (5, .int (zI (v5)))] dX6_meetingRound_30 (by rw [hN]; decide) rfl ?_
        refine z_iload C 0 dX6_meetingRound_32 rfl ?_
        refine z_bipush C dX6_meetingRound_34 rfl ?_
        obtain ⟨o12, h⟩ := h
        refine z_icmp_eq C 80 dX6_meetingRound_36 (by decide) o12 (zrg_d rfl) (fun c13 => ?_) (fun c13 => ?_)
        · have h := h.1 c13
          refine z_iinc C 6 [(5, .int (zI (v5 + 1))), (6, .int (zI (a11))), (0, za x (29 + r0)), (1, za x (29 + r1)), (2, .int (zI (v2))), (3, .int (zI (v3))), (4, .int (zI (v4)))] dX6_meetingRound_80 rfl (by rw [hN]; decide) rfl ?_
          refine z_goto C 6 dX6_meetingRound_83 (by decide) ?_
          refine z_sub C [2, 3, 4, 5, 6, 0] [(0, za x (29 + r0)), (1, za x (29 + r1)), (2, .int (zI (v2))), (3, .int (zI (v3))), (4, .int (zI (v4))), (5, .int (zI (v5 + 1)))] rfl ?_
          exact ih r0 r1 v2 v3 v4 (v5 + 1) hr0 hr1 σ10 h
        · have h := h.2 c13
          refine z_iload C 0 dX6_meetingRound_39 rfl ?_
          refine z_aload_n C 2 dX6_meetingRound_41 rfl rfl ?_
          refine z_callV (av := fun w => []) C [.int (zI (a11))] cs_X3_lines (by have := hr1; omega) (zcell_row hr1) rfl (mX3_lines r1 hr1 σ10 _ h) km_X6_113 dX6_meetingRound_42 rfl rfl ⟨rfl, rfl⟩ ⟨by decide, by decide⟩ (Nat.le_of_ble_eq_true rfl) (fun rv σ14 hp => ?_)
          obtain ⟨a15, rfl, h⟩ := hp
          change zV x σ14 45 [(6, .int (zI (a11))), (0, za x (29 + r0)), (1, za x (29 + r1)), (2, .int (zI (v2))), (3, .int (zI (v3))), (4, .int (zI (v4))), (5, .int (zI (v5)))] [.int (zI (a15)), .int (zI (a11))]
          obtain ⟨o16, h⟩ := h
          refine z_icmp_ge C 80 dX6_meetingRound_45 (by decide) o12 o16 (fun c17 => ?_) (fun c17 => ?_)
          · have h := h.1 c17
            refine z_iinc C 6 [(5, .int (zI (v5 + 1))), (6, .int (zI (a11))), (0, za x (29 + r0)), (1, za x (29 + r1)), (2, .int (zI (v2))), (3, .int (zI (v3))), (4, .int (zI (v4)))] dX6_meetingRound_80 rfl (by rw [hN]; decide) rfl ?_
            refine z_goto C 6 dX6_meetingRound_83 (by decide) ?_
            refine z_sub C [2, 3, 4, 5, 6, 0] [(0, za x (29 + r0)), (1, za x (29 + r1)), (2, .int (zI (v2))), (3, .int (zI (v3))), (4, .int (zI (v4))), (5, .int (zI (v5 + 1)))] rfl ?_
            exact ih r0 r1 v2 v3 v4 (v5 + 1) hr0 hr1 σ14 h
          · have h := h.2 c17
            refine z_aload_n C 2 dX6_meetingRound_48 rfl rfl ?_
            refine z_iload C 6 dX6_meetingRound_49 rfl ?_
            refine z_iload_n C 3 dX6_meetingRound_51 rfl rfl ?_
            refine z_iadd C dX6_meetingRound_52 ?_
            refine z_aload_n C 2 dX6_meetingRound_53 rfl rfl ?_
            refine z_callV (av := fun w => []) C [.int (zI (v5 + v2)), za x (29 + r1)] cs_X3_columns (by have := hr1; omega) (zcell_row hr1) rfl (mX3_columns r1 hr1 σ14 _ h) km_X6_71 dX6_meetingRound_54 rfl rfl ⟨rfl, rfl⟩ ⟨by decide, by decide⟩ (Nat.le_of_ble_eq_true rfl) (fun rv σ18 hp => ?_)
            obtain ⟨a19, rfl, h⟩ := hp
            change zV x σ18 57 [(6, .int (zI (a11))), (0, za x (29 + r0)), (1, za x (29 + r1)), (2, .int (zI (v2))), (3, .int (zI (v3))), (4, .int (zI (v4))), (5, .int (zI (v5)))] [.int (zI (a19)), .int (zI (v5 + v2)), za x (29 + r1)]
            refine z_callS (av := fun w => [.int (zI (v5 + v2)), .int (zI (a19))]) C [za x (29 + r1)] cs_X6_rest (mX6_rest (v5 + v2) a19  σ18 _ h) km_X6_196 dX6_meetingRound_57 rfl rfl ⟨rfl, rfl⟩ ⟨by decide, by decide⟩ (Nat.le_of_ble_eq_true rfl) (fun rv σ20 hp => ?_)
            obtain ⟨a21, rfl, h⟩ := hp
            change zV x σ20 60 [(6, .int (zI (a11))), (0, za x (29 + r0)), (1, za x (29 + r1)), (2, .int (zI (v2))), (3, .int (zI (v3))), (4, .int (zI (v4))), (5, .int (zI (v5)))] [.int (zI (a21)), za x (29 + r1)]
            refine z_iload C 0 dX6_meetingRound_60 rfl ?_
            refine z_iload_n C 4 dX6_meetingRound_62 rfl rfl ?_
            refine z_iadd C dX6_meetingRound_63 ?_
            refine z_aload_n C 2 dX6_meetingRound_64 rfl rfl ?_
            refine z_callV (av := fun w => []) C [.int (zI (a11 + v3)), .int (zI (a21)), za x (29 + r1)] cs_X3_lines (by have := hr1; omega) (zcell_row hr1) rfl (mX3_lines r1 hr1 σ20 _ h) km_X6_113 dX6_meetingRound_65 rfl rfl ⟨rfl, rfl⟩ ⟨by decide, by decide⟩ (Nat.le_of_ble_eq_true rfl) (fun rv σ22 hp => ?_)
            obtain ⟨a23, rfl, h⟩ := hp
            change zV x σ22 68 [(6, .int (zI (a11))), (0, za x (29 + r0)), (1, za x (29 + r1)), (2, .int (zI (v2))), (3, .int (zI (v3))), (4, .int (zI (v4))), (5, .int (zI (v5)))] [.int (zI (a23)), .int (zI (a11 + v3)), .int (zI (a21)), za x (29 + r1)]
            refine z_callS (av := fun w => [.int (zI (a11 + v3)), .int (zI (a23))]) C [.int (zI (a21)), za x (29 + r1)] cs_X6_rest (mX6_rest (a11 + v3) a23  σ22 _ h) km_X6_196 dX6_meetingRound_68 rfl rfl ⟨rfl, rfl⟩ ⟨by decide, by decide⟩ (Nat.le_of_ble_eq_true rfl) (fun rv σ24 hp => ?_)
            obtain ⟨a25, rfl, h⟩ := hp
            change zV x σ24 71 [(6, .int (zI (a11))), (0, za x (29 + r0)), (1, za x (29 + r1)), (2, .int (zI (v2))), (3, .int (zI (v3))), (4, .int (zI (v4))), (5, .int (zI (v5)))] [.int (zI (a25)), .int (zI (a21)), za x (29 + r1)]
            refine z_callV (av := fun w => [.int (zI (a21)), .int (zI (a25))]) C [] cs_X3_hasMark (by have := hr1; omega) (zcell_row hr1) rfl (mX3_hasMark r1 a21 a25 hr1 σ24 _ h) km_X6_275 dX6_meetingRound_71 rfl rfl ⟨rfl, rfl⟩ ⟨by decide, by decide⟩ (Nat.le_of_ble_eq_true rfl) (fun rv σ26 hp => ?_)
            obtain ⟨a27, rfl, h⟩ := hp
            change zV x σ26 74 [(6, .int (zI (a11))), (0, za x (29 + r0)), (1, za x (29 + r1)), (2, .int (zI (v2))), (3, .int (zI (v3))), (4, .int (zI (v4))), (5, .int (zI (v5)))] [.int (zI (a27))]
            obtain ⟨o28, h⟩ := h
            refine z_if_eq C 80 dX6_meetingRound_74 (by decide) o28 (fun c29 => ?_) (fun c29 => ?_)
            · have h := h.1 c29
              refine z_iinc C 6 [(5, .int (zI (v5 + 1))), (6, .int (zI (a11))), (0, za x (29 + r0)), (1, za x (29 + r1)), (2, .int (zI (v2))), (3, .int (zI (v3))), (4, .int (zI (v4)))] dX6_meetingRound_80 rfl (by rw [hN]; decide) rfl ?_
              refine z_goto C 6 dX6_meetingRound_83 (by decide) ?_
              refine z_sub C [2, 3, 4, 5, 6, 0] [(0, za x (29 + r0)), (1, za x (29 + r1)), (2, .int (zI (v2))), (3, .int (zI (v3))), (4, .int (zI (v4))), (5, .int (zI (v5 + 1)))] rfl ?_
              exact ih r0 r1 v2 v3 v4 (v5 + 1) hr0 hr1 σ26 h
            · have h := h.2 c29
              refine z_iinc C 5 [(4, .int (zI (v4 + 1))), (6, .int (zI (a11))), (0, za x (29 + r0)), (1, za x (29 + r1)), (2, .int (zI (v2))), (3, .int (zI (v3))), (5, .int (zI (v5)))] dX6_meetingRound_77 rfl (by rw [hN]; decide) rfl ?_
              refine z_iinc C 6 [(5, .int (zI (v5 + 1))), (4, .int (zI (v4 + 1))), (6, .int (zI (a11))), (0, za x (29 + r0)), (1, za x (29 + r1)), (2, .int (zI (v2))), (3, .int (zI (v3)))] dX6_meetingRound_80 rfl (by rw [hN]; decide) rfl ?_
              refine z_goto C 6 dX6_meetingRound_83 (by decide) ?_
              refine z_sub C [3, 4, 5, 6, 1, 0] [(0, za x (29 + r0)), (1, za x (29 + r1)), (2, .int (zI (v2))), (3, .int (zI (v3))), (4, .int (zI (v4 + 1))), (5, .int (zI (v5 + 1)))] rfl ?_
              exact ih r0 r1 v2 v3 (v4 + 1) (v5 + 1) hr0 hr1 σ26 h
def wX6_meetingRound (r0 : Nat) (r1 : Nat) (v2 : Int) (v3 : Int) (σ : Hp) (k : Int → Hp → Prop) : Prop :=
  (∃ N1, wX6_meetingRound_6 k N1 r0 r1 v2 v3 0 0 σ)
set_option maxRecDepth 100000 in
theorem mX6_meetingRound (r0 : Nat) (r1 : Nat) (v2 : Int) (v3 : Int) (hr0 : r0 < 7) (hr1 : r1 < 7) (σ : Hp) (k : Int → Hp → Prop) (h : wX6_meetingRound r0 r1 v2 v3 σ k) (l : Launch) : zMt l yX6_meetingRound cX6_meetingRound 7 (some .int) { frames := 3, cells := 0, slots := 0, locals := 65 } (fun w => [.ref (w.2.1 (29 + r0)), .ref (w.2.1 (29 + r1)), .int (zI (v2)), .int (zI (v3))]) σ (zPi k) := by
  refine zMt_of (plainFor_of_name (by decide)) (fun w => Nat.le_of_ble_eq_true rfl) (fun x hl hN C E => ?_)
  change zV x σ 0 [(0, za x (29 + r0)), (1, za x (29 + r1)), (2, .int (zI (v2))), (3, .int (zI (v3)))] []
  change zOk x cX6_meetingRound RX6 (some .int) (3) (65) at C
  unfold wX6_meetingRound at h
  refine z_iconst C dX6_meetingRound_0 ?_
  refine z_istore C [(4, .int (zI (0))), (0, za x (29 + r0)), (1, za x (29 + r1)), (2, .int (zI (v2))), (3, .int (zI (v3)))] dX6_meetingRound_1 (by rw [hN]; decide) rfl ?_
  refine z_iconst C dX6_meetingRound_3 ?_
  refine z_istore C [(5, .int (zI (0))), (4, .int (zI (0))), (0, za x (29 + r0)), (1, za x (29 + r1)), (2, .int (zI (v2))), (3, .int (zI (v3)))] dX6_meetingRound_4 (by rw [hN]; decide) rfl ?_
  refine z_sub C [2, 3, 4, 5, 1, 0] [(0, za x (29 + r0)), (1, za x (29 + r1)), (2, .int (zI (v2))), (3, .int (zI (v3))), (4, .int (zI (0))), (5, .int (zI (0)))] rfl ?_
  obtain ⟨n1, h⟩ := h
  exact sX6_meetingRound_6 C hN E n1 r0 r1 v2 v3 0 0 hr0 hr1 σ h
def wX6_hits (v1 : Int) (v2 : Int) (v3 : Int) (v4 : Int) (v5 : Int) (σ : Hp) (k : Int → Hp → Prop) : Prop :=
  wX6_rowAt v1 σ (fun w23 σ1 => (w23 = none → wX6_rowAt v2 σ1 (fun w5 σ3 => (w5 = none → k ((-1)) σ3) ∧ ∀ q4, w5 = some q4 → k ((-1)) σ3)) ∧ ∀ q2, w23 = some q2 → wX6_rowAt v2 σ1 (fun w22 σ6 => (w22 = none → k ((-1)) σ6) ∧ ∀ q7, w22 = some q7 → wX6_isMove v3 σ6 (fun a9 σ8 => zrg a9 ∧ ((a9 = 0 → k ((-1)) σ8) ∧ (¬ (a9 = 0) → wX6_isMove v4 σ8 (fun a13 σ12 => zrg a13 ∧ ((a13 ≠ 0 → zrg v5 ∧ ((v5 = 0 → wX6_meeting q2 q7 v3 v4 σ12 (fun a19 σ18 => k a19 σ18)) ∧ (¬ (v5 = 0) → wX6_meetingRound q2 q7 v3 v4 σ12 (fun a21 σ20 => k a21 σ20)))) ∧ (¬ (a13 ≠ 0) → k ((-1)) σ12))))))))
set_option maxRecDepth 100000 in
theorem mX6_hits (v1 : Int) (v2 : Int) (v3 : Int) (v4 : Int) (v5 : Int) (σ : Hp) (k : Int → Hp → Prop) (h : wX6_hits v1 v2 v3 v4 v5 σ k) (l : Launch) : zMt l yX6_hits cX6_hits 8 (some .int) { frames := 4, cells := 0, slots := 0, locals := 91 } (fun w => [.ref (w.2.1 (0)), .int (zI (v1)), .int (zI (v2)), .int (zI (v3)), .int (zI (v4)), .int (zI (v5))]) σ (zPi k) := by
  refine zMt_of (plainFor_of_name (by decide)) (fun w => Nat.le_of_ble_eq_true rfl) (fun x hl hN C E => ?_)
  change zV x σ 0 [(0, za x (0)), (1, .int (zI (v1))), (2, .int (zI (v2))), (3, .int (zI (v3))), (4, .int (zI (v4))), (5, .int (zI (v5)))] []
  change zOk x cX6_hits RX6 (some .int) (4) (91) at C
  unfold wX6_hits at h
  refine z_aload_n C 0 dX6_hits_0 rfl rfl ?_
  refine z_iload_n C 1 dX6_hits_1 rfl rfl ?_
  refine z_callV (av := fun w => [.int (zI (v1))]) C [] cs_X6_rowAt (by decide) (fun _ _ => rfl) rfl (mX6_rowAt v1  σ _ h) km_X6_59 dX6_hits_2 rfl rfl ⟨rfl, rfl⟩ ⟨by decide, by decide⟩ (Nat.le_of_ble_eq_true rfl) (fun rv σ1 hp => ?_)
  rcases hp with ⟨rfl, h⟩ | ⟨q2, hq2, rfl, h⟩
  · have h := h.1 rfl
    change zV x σ1 5 [(0, za x (0)), (1, .int (zI (v1))), (2, .int (zI (v2))), (3, .int (zI (v3))), (4, .int (zI (v4))), (5, .int (zI (v5)))] [.null]
    refine z_astoreN C [(6, .null), (0, za x (0)), (1, .int (zI (v1))), (2, .int (zI (v2))), (3, .int (zI (v3))), (4, .int (zI (v4))), (5, .int (zI (v5)))] dX6_hits_5 (by rw [hN]; decide) rfl ?_
    refine z_aload_n C 1 dX6_hits_7 rfl rfl ?_
    refine z_iload_n C 3 dX6_hits_8 rfl rfl ?_
    refine z_callV (av := fun w => [.int (zI (v2))]) C [] cs_X6_rowAt (by decide) (fun _ _ => rfl) rfl (mX6_rowAt v2  σ1 _ h) km_X6_59 dX6_hits_9 rfl rfl ⟨rfl, rfl⟩ ⟨by decide, by decide⟩ (Nat.le_of_ble_eq_true rfl) (fun rv σ3 hp => ?_)
    rcases hp with ⟨rfl, h⟩ | ⟨q4, hq4, rfl, h⟩
    · have h := h.1 rfl
      change zV x σ3 12 [(6, .null), (0, za x (0)), (1, .int (zI (v1))), (2, .int (zI (v2))), (3, .int (zI (v3))), (4, .int (zI (v4))), (5, .int (zI (v5)))] [.null]
      refine z_astoreN C [(7, .null), (6, .null), (0, za x (0)), (1, .int (zI (v1))), (2, .int (zI (v2))), (3, .int (zI (v3))), (4, .int (zI (v4))), (5, .int (zI (v5)))] dX6_hits_12 (by rw [hN]; decide) rfl ?_
      refine z_aloadN C 1 dX6_hits_14 rfl ?_
      refine z_ifnullN C 39 dX6_hits_16 (by decide) ?_
      refine z_iconst C dX6_hits_39 ?_
      exact z_iret C E dX6_hits_40 ⟨_, rfl, h⟩
    · have h := h.2 q4 rfl
      change zV x σ3 12 [(6, .null), (0, za x (0)), (1, .int (zI (v1))), (2, .int (zI (v2))), (3, .int (zI (v3))), (4, .int (zI (v4))), (5, .int (zI (v5)))] [za x (29 + q4)]
      refine z_astore C [(7, za x (29 + q4)), (6, .null), (0, za x (0)), (1, .int (zI (v1))), (2, .int (zI (v2))), (3, .int (zI (v3))), (4, .int (zI (v4))), (5, .int (zI (v5)))] dX6_hits_12 (by rw [hN]; decide) rfl ?_
      refine z_aloadN C 1 dX6_hits_14 rfl ?_
      refine z_ifnullN C 39 dX6_hits_16 (by decide) ?_
      refine z_iconst C dX6_hits_39 ?_
      exact z_iret C E dX6_hits_40 ⟨_, rfl, h⟩
  · have h := h.2 q2 rfl
    change zV x σ1 5 [(0, za x (0)), (1, .int (zI (v1))), (2, .int (zI (v2))), (3, .int (zI (v3))), (4, .int (zI (v4))), (5, .int (zI (v5)))] [za x (29 + q2)]
    refine z_astore C [(6, za x (29 + q2)), (0, za x (0)), (1, .int (zI (v1))), (2, .int (zI (v2))), (3, .int (zI (v3))), (4, .int (zI (v4))), (5, .int (zI (v5)))] dX6_hits_5 (by rw [hN]; decide) rfl ?_
    refine z_aload_n C 1 dX6_hits_7 rfl rfl ?_
    refine z_iload_n C 3 dX6_hits_8 rfl rfl ?_
    refine z_callV (av := fun w => [.int (zI (v2))]) C [] cs_X6_rowAt (by decide) (fun _ _ => rfl) rfl (mX6_rowAt v2  σ1 _ h) km_X6_59 dX6_hits_9 rfl rfl ⟨rfl, rfl⟩ ⟨by decide, by decide⟩ (Nat.le_of_ble_eq_true rfl) (fun rv σ6 hp => ?_)
    rcases hp with ⟨rfl, h⟩ | ⟨q7, hq7, rfl, h⟩
    · have h := h.1 rfl
      change zV x σ6 12 [(6, za x (29 + q2)), (0, za x (0)), (1, .int (zI (v1))), (2, .int (zI (v2))), (3, .int (zI (v3))), (4, .int (zI (v4))), (5, .int (zI (v5)))] [.null]
      refine z_astoreN C [(7, .null), (6, za x (29 + q2)), (0, za x (0)), (1, .int (zI (v1))), (2, .int (zI (v2))), (3, .int (zI (v3))), (4, .int (zI (v4))), (5, .int (zI (v5)))] dX6_hits_12 (by rw [hN]; decide) rfl ?_
      refine z_aload C 1 dX6_hits_14 rfl ?_
      refine z_ifnull C dX6_hits_16 ?_
      refine z_aloadN C 0 dX6_hits_19 rfl ?_
      refine z_ifnullN C 39 dX6_hits_21 (by decide) ?_
      refine z_iconst C dX6_hits_39 ?_
      exact z_iret C E dX6_hits_40 ⟨_, rfl, h⟩
    · have h := h.2 q7 rfl
      change zV x σ6 12 [(6, za x (29 + q2)), (0, za x (0)), (1, .int (zI (v1))), (2, .int (zI (v2))), (3, .int (zI (v3))), (4, .int (zI (v4))), (5, .int (zI (v5)))] [za x (29 + q7)]
      refine z_astore C [(7, za x (29 + q7)), (6, za x (29 + q2)), (0, za x (0)), (1, .int (zI (v1))), (2, .int (zI (v2))), (3, .int (zI (v3))), (4, .int (zI (v4))), (5, .int (zI (v5)))] dX6_hits_12 (by rw [hN]; decide) rfl ?_
      refine z_aload C 1 dX6_hits_14 rfl ?_
      refine z_ifnull C dX6_hits_16 ?_
      refine z_aload C 0 dX6_hits_19 rfl ?_
      refine z_ifnull C dX6_hits_21 ?_
      refine z_iload_n C 5 dX6_hits_24 rfl rfl ?_
      refine z_callS (av := fun w => [.int (zI (v3))]) C [] cs_X6_isMove (mX6_isMove v3  σ6 _ h) km_X6_143 dX6_hits_25 rfl rfl ⟨rfl, rfl⟩ ⟨by decide, by decide⟩ (Nat.le_of_ble_eq_true rfl) (fun rv σ8 hp => ?_)
      obtain ⟨a9, rfl, h⟩ := hp
      change zV x σ8 28 [(7, za x (29 + q7)), (6, za x (29 + q2)), (0, za x (0)), (1, .int (zI (v1))), (2, .int (zI (v2))), (3, .int (zI (v3))), (4, .int (zI (v4))), (5, .int (zI (v5)))] [.int (zI (a9))]
      obtain ⟨o10, h⟩ := h
      refine z_if_eq C 39 dX6_hits_28 (by decide) o10 (fun c11 => ?_) (fun c11 => ?_)
      · have h := h.1 c11
        refine z_iconst C dX6_hits_39 ?_
        exact z_iret C E dX6_hits_40 ⟨_, rfl, h⟩
      · have h := h.2 c11
        refine z_iload C 6 dX6_hits_31 rfl ?_
        refine z_callS (av := fun w => [.int (zI (v4))]) C [] cs_X6_isMove (mX6_isMove v4  σ8 _ h) km_X6_143 dX6_hits_33 rfl rfl ⟨rfl, rfl⟩ ⟨by decide, by decide⟩ (Nat.le_of_ble_eq_true rfl) (fun rv σ12 hp => ?_)
        obtain ⟨a13, rfl, h⟩ := hp
        change zV x σ12 36 [(7, za x (29 + q7)), (6, za x (29 + q2)), (0, za x (0)), (1, .int (zI (v1))), (2, .int (zI (v2))), (3, .int (zI (v3))), (4, .int (zI (v4))), (5, .int (zI (v5)))] [.int (zI (a13))]
        obtain ⟨o14, h⟩ := h
        refine z_if_ne C 41 dX6_hits_36 (by decide) o14 (fun c15 => ?_) (fun c15 => ?_)
        · have h := h.1 c15
          refine z_iload C 7 dX6_hits_41 rfl ?_
          obtain ⟨o16, h⟩ := h
          refine z_if_eq C 59 dX6_hits_43 (by decide) o16 (fun c17 => ?_) (fun c17 => ?_)
          · have h := h.1 c17
            refine z_aload C 1 dX6_hits_59 rfl ?_
            refine z_aload C 0 dX6_hits_61 rfl ?_
            refine z_iload_n C 5 dX6_hits_63 rfl rfl ?_
            refine z_iload C 6 dX6_hits_64 rfl ?_
            refine z_callS (av := fun w => [.ref (w.2.1 (29 + q2)), .ref (w.2.1 (29 + q7)), .int (zI (v3)), .int (zI (v4))]) C [] cs_X6_meeting (mX6_meeting q2 q7 v3 v4 hq2 hq7 σ12 _ h) km_X6_150 dX6_hits_66 rfl rfl ⟨rfl, rfl⟩ ⟨by decide, by decide⟩ (Nat.le_of_ble_eq_true rfl) (fun rv σ18 hp => ?_)
            obtain ⟨a19, rfl, h⟩ := hp
            change zV x σ18 69 [(7, za x (29 + q7)), (6, za x (29 + q2)), (0, za x (0)), (1, .int (zI (v1))), (2, .int (zI (v2))), (3, .int (zI (v3))), (4, .int (zI (v4))), (5, .int (zI (v5)))] [.int (zI (a19))]
            exact z_iret C E dX6_hits_69 ⟨_, rfl, h⟩
          · have h := h.2 c17
            refine z_aload C 1 dX6_hits_46 rfl ?_
            refine z_aload C 0 dX6_hits_48 rfl ?_
            refine z_iload_n C 5 dX6_hits_50 rfl rfl ?_
            refine z_iload C 6 dX6_hits_51 rfl ?_
            refine z_callS (av := fun w => [.ref (w.2.1 (29 + q2)), .ref (w.2.1 (29 + q7)), .int (zI (v3)), .int (zI (v4))]) C [] cs_X6_meetingRound (mX6_meetingRound q2 q7 v3 v4 hq2 hq7 σ12 _ h) km_X6_146 dX6_hits_53 rfl rfl ⟨rfl, rfl⟩ ⟨by decide, by decide⟩ (Nat.le_of_ble_eq_true rfl) (fun rv σ20 hp => ?_)
            obtain ⟨a21, rfl, h⟩ := hp
            change zV x σ20 56 [(7, za x (29 + q7)), (6, za x (29 + q2)), (0, za x (0)), (1, .int (zI (v1))), (2, .int (zI (v2))), (3, .int (zI (v3))), (4, .int (zI (v4))), (5, .int (zI (v5)))] [.int (zI (a21))]
            refine z_goto C 69 dX6_hits_56 (by decide) ?_
            exact z_iret C E dX6_hits_69 ⟨_, rfl, h⟩
        · have h := h.2 c15
          refine z_iconst C dX6_hits_39 ?_
          exact z_iret C E dX6_hits_40 ⟨_, rfl, h⟩
def wX6_holding (v1 : Int) (v2 : Int) (v3 : Int) (σ : Hp) (k : Int → Hp → Prop) : Prop :=
  wX6_rowAt v1 σ (fun w25 σ1 => (w25 = none → k ((-1)) σ1) ∧ ∀ q2, w25 = some q2 → zrg v2 ∧ ((v2 < (-1) → k ((-1)) σ1) ∧ (¬ (v2 < (-1)) → wX6_rowAt v3 σ1 (fun w24 σ5 => (w24 = none → k ((-1)) σ5) ∧ ∀ q6, w24 = some q6 → wX3_columns q2 σ5 (fun a8 σ7 => zrg a8 ∧ ((8 < a8 → k ((-2)) σ7) ∧ (¬ (8 < a8) → wX3_columns q2 σ7 (fun a12 σ11 => wX3_lines q2 σ11 (fun a14 σ13 => zrg a12 ∧ zrg a14 ∧ ((a12 = a14 → wX3_columns q2 σ13 (fun a19 σ18 => wX4_amongSquares a19 σ18 (fun σ20 => wX4_keepMarksOf q2 σ20 (fun σ21 => wX6_countOrMake v2 v3 σ21 (fun a23 σ22 => k a23 σ22))))) ∧ (¬ (a12 = a14) → k ((-2)) σ13)))))))))))
set_option maxRecDepth 100000 in
theorem mX6_holding (v1 : Int) (v2 : Int) (v3 : Int) (σ : Hp) (k : Int → Hp → Prop) (h : wX6_holding v1 v2 v3 σ k) (l : Launch) : zMt l yX6_holding cX6_holding 5 (some .int) { frames := 20, cells := 0, slots := 0, locals := 467 } (fun w => [.ref (w.2.1 (0)), .int (zI (v1)), .int (zI (v2)), .int (zI (v3))]) σ (zPi k) := by
  refine zMt_of (plainFor_of_name (by decide)) (fun w => Nat.le_of_ble_eq_true rfl) (fun x hl hN C E => ?_)
  change zV x σ 0 [(0, za x (0)), (1, .int (zI (v1))), (2, .int (zI (v2))), (3, .int (zI (v3)))] []
  change zOk x cX6_holding RX6 (some .int) (20) (467) at C
  unfold wX6_holding at h
  refine z_aload_n C 0 dX6_holding_0 rfl rfl ?_
  refine z_iload_n C 1 dX6_holding_1 rfl rfl ?_
  refine z_callV (av := fun w => [.int (zI (v1))]) C [] cs_X6_rowAt (by decide) (fun _ _ => rfl) rfl (mX6_rowAt v1  σ _ h) km_X6_59 dX6_holding_2 rfl rfl ⟨rfl, rfl⟩ ⟨by decide, by decide⟩ (Nat.le_of_ble_eq_true rfl) (fun rv σ1 hp => ?_)
  rcases hp with ⟨rfl, h⟩ | ⟨q2, hq2, rfl, h⟩
  · have h := h.1 rfl
    change zV x σ1 5 [(0, za x (0)), (1, .int (zI (v1))), (2, .int (zI (v2))), (3, .int (zI (v3)))] [.null]
    refine z_astoreN C [(4, .null), (0, za x (0)), (1, .int (zI (v1))), (2, .int (zI (v2))), (3, .int (zI (v3)))] dX6_holding_5 (by rw [hN]; decide) rfl ?_
    refine z_aloadN C 0 dX6_holding_7 rfl ?_
    refine z_ifnullN C 25 dX6_holding_9 (by decide) ?_
    refine z_iconst C dX6_holding_25 ?_
    exact z_iret C E dX6_holding_26 ⟨_, rfl, h⟩
  · have h := h.2 q2 rfl
    change zV x σ1 5 [(0, za x (0)), (1, .int (zI (v1))), (2, .int (zI (v2))), (3, .int (zI (v3)))] [za x (29 + q2)]
    refine z_astore C [(4, za x (29 + q2)), (0, za x (0)), (1, .int (zI (v1))), (2, .int (zI (v2))), (3, .int (zI (v3)))] dX6_holding_5 (by rw [hN]; decide) rfl ?_
    refine z_aload C 0 dX6_holding_7 rfl ?_
    refine z_ifnull C dX6_holding_9 ?_
    refine z_iload_n C 3 dX6_holding_12 rfl rfl ?_
    refine z_iconst C dX6_holding_13 ?_
    obtain ⟨o3, h⟩ := h
    refine z_icmp_lt C 25 dX6_holding_14 (by decide) o3 (zrg_d rfl) (fun c4 => ?_) (fun c4 => ?_)
    · have h := h.1 c4
      refine z_iconst C dX6_holding_25 ?_
      exact z_iret C E dX6_holding_26 ⟨_, rfl, h⟩
    · have h := h.2 c4
      refine z_aload_n C 1 dX6_holding_17 rfl rfl ?_
      refine z_iload_n C 4 dX6_holding_18 rfl rfl ?_
      refine z_callV (av := fun w => [.int (zI (v3))]) C [] cs_X6_rowAt (by decide) (fun _ _ => rfl) rfl (mX6_rowAt v3  σ1 _ h) km_X6_59 dX6_holding_19 rfl rfl ⟨rfl, rfl⟩ ⟨by decide, by decide⟩ (Nat.le_of_ble_eq_true rfl) (fun rv σ5 hp => ?_)
      rcases hp with ⟨rfl, h⟩ | ⟨q6, hq6, rfl, h⟩
      · have h := h.1 rfl
        change zV x σ5 22 [(4, za x (29 + q2)), (0, za x (0)), (1, .int (zI (v1))), (2, .int (zI (v2))), (3, .int (zI (v3)))] [.null]
        refine z_ifnonnullN C dX6_holding_22 ?_
        refine z_iconst C dX6_holding_25 ?_
        exact z_iret C E dX6_holding_26 ⟨_, rfl, h⟩
      · have h := h.2 q6 rfl
        change zV x σ5 22 [(4, za x (29 + q2)), (0, za x (0)), (1, .int (zI (v1))), (2, .int (zI (v2))), (3, .int (zI (v3)))] [za x (29 + q6)]
        refine z_ifnonnull C 27 dX6_holding_22 (by decide) ?_
        refine z_aload C 0 dX6_holding_27 rfl ?_
        refine z_callV (av := fun w => []) C [] cs_X3_columns (by have := hq2; omega) (zcell_row hq2) rfl (mX3_columns q2 hq2 σ5 _ h) km_X6_71 dX6_holding_29 rfl rfl ⟨rfl, rfl⟩ ⟨by decide, by decide⟩ (Nat.le_of_ble_eq_true rfl) (fun rv σ7 hp => ?_)
        obtain ⟨a8, rfl, h⟩ := hp
        change zV x σ7 32 [(4, za x (29 + q2)), (0, za x (0)), (1, .int (zI (v1))), (2, .int (zI (v2))), (3, .int (zI (v3)))] [.int (zI (a8))]
        refine z_bipush C dX6_holding_32 rfl ?_
        obtain ⟨o9, h⟩ := h
        refine z_icmp_gt C 50 dX6_holding_34 (by decide) o9 (zrg_d rfl) (fun c10 => ?_) (fun c10 => ?_)
        · have h := h.1 c10
          refine z_bipush C dX6_holding_50 rfl ?_
          exact z_iret C E dX6_holding_52 ⟨_, rfl, h⟩
        · have h := h.2 c10
          refine z_aload C 0 dX6_holding_37 rfl ?_
          refine z_callV (av := fun w => []) C [] cs_X3_columns (by have := hq2; omega) (zcell_row hq2) rfl (mX3_columns q2 hq2 σ7 _ h) km_X6_71 dX6_holding_39 rfl rfl ⟨rfl, rfl⟩ ⟨by decide, by decide⟩ (Nat.le_of_ble_eq_true rfl) (fun rv σ11 hp => ?_)
          obtain ⟨a12, rfl, h⟩ := hp
          change zV x σ11 42 [(4, za x (29 + q2)), (0, za x (0)), (1, .int (zI (v1))), (2, .int (zI (v2))), (3, .int (zI (v3)))] [.int (zI (a12))]
          refine z_aload C 0 dX6_holding_42 rfl ?_
          refine z_callV (av := fun w => []) C [.int (zI (a12))] cs_X3_lines (by have := hq2; omega) (zcell_row hq2) rfl (mX3_lines q2 hq2 σ11 _ h) km_X6_113 dX6_holding_44 rfl rfl ⟨rfl, rfl⟩ ⟨by decide, by decide⟩ (Nat.le_of_ble_eq_true rfl) (fun rv σ13 hp => ?_)
          obtain ⟨a14, rfl, h⟩ := hp
          change zV x σ13 47 [(4, za x (29 + q2)), (0, za x (0)), (1, .int (zI (v1))), (2, .int (zI (v2))), (3, .int (zI (v3)))] [.int (zI (a14)), .int (zI (a12))]
          obtain ⟨o15, h⟩ := h
          obtain ⟨o16, h⟩ := h
          refine z_icmp_eq C 53 dX6_holding_47 (by decide) o15 o16 (fun c17 => ?_) (fun c17 => ?_)
          · have h := h.1 c17
            refine z_aload_n C 1 dX6_holding_53 rfl rfl ?_
            refine g_X6_4 C kf_X6_37 dX6_holding_54 ?_
            refine z_aload C 0 dX6_holding_57 rfl ?_
            refine z_callV (av := fun w => []) C [za x (6)] cs_X3_columns (by have := hq2; omega) (zcell_row hq2) rfl (mX3_columns q2 hq2 σ13 _ h) km_X6_71 dX6_holding_59 rfl rfl ⟨rfl, rfl⟩ ⟨by decide, by decide⟩ (Nat.le_of_ble_eq_true rfl) (fun rv σ18 hp => ?_)
            obtain ⟨a19, rfl, h⟩ := hp
            change zV x σ18 62 [(4, za x (29 + q2)), (0, za x (0)), (1, .int (zI (v1))), (2, .int (zI (v2))), (3, .int (zI (v3)))] [.int (zI (a19)), za x (6)]
            refine z_callV (av := fun w => [.int (zI (a19))]) C [] cs_X4_amongSquares (by decide) (fun _ _ => rfl) rfl (mX4_amongSquares a19  σ18 _ h) km_X6_169 dX6_holding_62 rfl rfl ⟨rfl, rfl⟩ ⟨by decide, by decide⟩ (Nat.le_of_ble_eq_true rfl) (fun rv σ20 hp => ?_)
            obtain ⟨rfl, h⟩ := hp
            change zV x σ20 65 [(4, za x (29 + q2)), (0, za x (0)), (1, .int (zI (v1))), (2, .int (zI (v2))), (3, .int (zI (v3)))] []
            refine z_aload_n C 1 dX6_holding_65 rfl rfl ?_
            refine g_X6_4 C kf_X6_37 dX6_holding_66 ?_
            refine z_aload C 0 dX6_holding_69 rfl ?_
            refine z_callV (av := fun w => [.ref (w.2.1 (29 + q2))]) C [] cs_X4_keepMarksOf (by decide) (fun _ _ => rfl) rfl (mX4_keepMarksOf q2 hq2 σ20 _ h) km_X6_176 dX6_holding_71 rfl rfl ⟨rfl, rfl⟩ ⟨by decide, by decide⟩ (Nat.le_of_ble_eq_true rfl) (fun rv σ21 hp => ?_)
            obtain ⟨rfl, h⟩ := hp
            change zV x σ21 74 [(4, za x (29 + q2)), (0, za x (0)), (1, .int (zI (v1))), (2, .int (zI (v2))), (3, .int (zI (v3)))] []
            refine z_aload_n C 1 dX6_holding_74 rfl rfl ?_
            refine z_iload_n C 3 dX6_holding_75 rfl rfl ?_
            refine z_iload_n C 4 dX6_holding_76 rfl rfl ?_
            refine z_callV (av := fun w => [.int (zI (v2)), .int (zI (v3))]) C [] cs_X6_countOrMake (by decide) (fun _ _ => rfl) rfl (mX6_countOrMake v2 v3  σ21 _ h) km_X6_172 dX6_holding_77 rfl rfl ⟨rfl, rfl⟩ ⟨by decide, by decide⟩ (Nat.le_of_ble_eq_true rfl) (fun rv σ22 hp => ?_)
            obtain ⟨a23, rfl, h⟩ := hp
            change zV x σ22 80 [(4, za x (29 + q2)), (0, za x (0)), (1, .int (zI (v1))), (2, .int (zI (v2))), (3, .int (zI (v3)))] [.int (zI (a23))]
            exact z_iret C E dX6_holding_80 ⟨_, rfl, h⟩
          · have h := h.2 c17
            refine z_bipush C dX6_holding_50 rfl ?_
            exact z_iret C E dX6_holding_52 ⟨_, rfl, h⟩
