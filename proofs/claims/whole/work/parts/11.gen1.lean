def wX3_hasMark (r0 : Nat) (v1 : Int) (v2 : Int) (σ : Hp) (k : Int → Hp → Prop) : Prop :=
  zrg v2 ∧ ((v2 = 15 → k 0 σ) ∧ (¬ (v2 = 15) → wX3_lineAt r0 v1 σ (fun a4 σ3 => zrg a4 ∧ ((a4 ≠ v2 → k 0 σ3) ∧ (¬ (a4 ≠ v2) → k 1 σ3)))))
set_option maxRecDepth 100000 in
theorem mX3_hasMark (r0 : Nat) (v1 : Int) (v2 : Int) (hr0 : r0 < 7) (σ : Hp) (k : Int → Hp → Prop) (h : wX3_hasMark r0 v1 v2 σ k) (l : Launch) : zMt l yX3_hasMark cX3_hasMark 3 (some .boolean) { frames := 2, cells := 0, slots := 0, locals := 43 } (fun w => [.ref (w.2.1 (29 + r0)), .int (zI (v1)), .int (zI (v2))]) σ (zPi k) := by
  refine zMt_of (plainFor_of_name (by decide)) (fun w => Nat.le_of_ble_eq_true rfl) (fun x hl hN C E => ?_)
  change zV x σ 0 [(0, za x (29 + r0)), (1, .int (zI (v1))), (2, .int (zI (v2)))] []
  change zOk x cX3_hasMark RX3 (some .boolean) (2) (43) at C
  unfold wX3_hasMark at h
  refine z_iload_n C 2 dX3_hasMark_0 rfl rfl ?_
  refine z_bipush C dX3_hasMark_1 rfl ?_
  obtain ⟨o1, h⟩ := h
  refine z_icmp_eq C 19 dX3_hasMark_3 (by decide) o1 (zrg_d rfl) (fun c2 => ?_) (fun c2 => ?_)
  · have h := h.1 c2
    refine z_iconst C dX3_hasMark_19 ?_
    exact z_zret C E dX3_hasMark_20 (by decide) ⟨_, rfl, h⟩
  · have h := h.2 c2
    refine z_aload_n C 0 dX3_hasMark_6 rfl rfl ?_
    refine z_iload_n C 1 dX3_hasMark_7 rfl rfl ?_
    refine z_callV (av := fun w => [.int (zI (v1))]) C [] cs_X3_lineAt (by have := hr0; omega) (zcell_row hr0) rfl (mX3_lineAt r0 v1 hr0 σ _ h) km_X3_32 dX3_hasMark_8 rfl rfl ⟨rfl, rfl⟩ ⟨by decide, by decide⟩ (Nat.le_of_ble_eq_true rfl) (fun rv σ3 hp => ?_)
    obtain ⟨a4, rfl, h⟩ := hp
    change zV x σ3 11 [(0, za x (29 + r0)), (1, .int (zI (v1))), (2, .int (zI (v2)))] [.int (zI (a4))]
    refine z_iload_n C 2 dX3_hasMark_11 rfl rfl ?_
    obtain ⟨o5, h⟩ := h
    refine z_icmp_ne C 19 dX3_hasMark_12 (by decide) o5 o1 (fun c6 => ?_) (fun c6 => ?_)
    · have h := h.1 c6
      refine z_iconst C dX3_hasMark_19 ?_
      exact z_zret C E dX3_hasMark_20 (by decide) ⟨_, rfl, h⟩
    · have h := h.2 c6
      refine z_iconst C dX3_hasMark_15 ?_
      refine z_goto C 20 dX3_hasMark_16 (by decide) ?_
      exact z_zret C E dX3_hasMark_20 (by decide) ⟨_, rfl, h⟩
def wX3_isSquare_4 (k : Int → Hp → Prop) : Nat → Nat → Int → Int → Hp → Prop
  | 0, _, _, _, _ => False
  | n + 1, r0, v1, v2, σ => zrg v2 ∧ zrg (σ (29 + r0) 0) ∧ ((σ (29 + r0) 0 ≤ v2 → zrg (σ (29 + r0) 1) ∧ ((σ (29 + r0) 0 ≠ σ (29 + r0) 1 → k 0 σ) ∧ (¬ (σ (29 + r0) 0 ≠ σ (29 + r0) 1) → zrg v1 ∧ zrg ((zshl 1 (σ (29 + r0) 0)) - 1) ∧ ((v1 ≠ (zshl 1 (σ (29 + r0) 0)) - 1 → k 0 σ) ∧ (¬ (v1 ≠ (zshl 1 (σ (29 + r0) 0)) - 1) → k 1 σ))))) ∧ (¬ (σ (29 + r0) 0 ≤ v2) → wX3_lineAt r0 v2 σ (fun a10 σ9 => wX3_isSquare_4 k n r0 (zor v1 (zshl 1 a10)) (v2 + 1) σ9)))
set_option maxRecDepth 100000 in
theorem sX3_isSquare_4 {x : Cx} (C : zOk x cX3_isSquare RX3 (some .boolean) (2) (43)) (hN : x.2.2.2.2.1 = 3) {k : Int → Hp → Prop} (E : zEnd x (zPi k x.2.1)) : ∀ (n : Nat) (r0 : Nat) (v1 : Int) (v2 : Int) (hr0 : r0 < 7) (σ : Hp), wX3_isSquare_4 k n r0 v1 v2 σ → zV x σ 4 [(0, za x (29 + r0)), (1, .int (zI (v1))), (2, .int (zI (v2)))] [] := by
  intro n
  induction n with
  | zero => intro _ _ _ _ _ h; exact h.elim
  | succ n ih =>
    intro r0 v1 v2 hr0 σ h
    unfold wX3_isSquare_4 at h
    refine z_iload_n C 2 dX3_isSquare_4 rfl rfl ?_
    refine z_aload_n C 0 dX3_isSquare_5 rfl rfl ?_
    refine g_X3_0 C hr0 kf_X3_9 dX3_isSquare_6 ?_
    obtain ⟨o1, h⟩ := h
    obtain ⟨o2, h⟩ := h
    refine z_icmp_ge C 28 dX3_isSquare_9 (by decide) o1 o2 (fun c3 => ?_) (fun c3 => ?_)
    · have h := h.1 c3
      refine z_aload_n C 0 dX3_isSquare_28 rfl rfl ?_
      refine g_X3_0 C hr0 kf_X3_9 dX3_isSquare_29 ?_
      refine z_aload_n C 0 dX3_isSquare_32 rfl rfl ?_
      refine g_X3_1 C hr0 kf_X3_15 dX3_isSquare_33 ?_
      obtain ⟨o4, h⟩ := h
      refine z_icmp_ne C 55 dX3_isSquare_36 (by decide) o2 o4 (fun c5 => ?_) (fun c5 => ?_)
      · have h := h.1 c5
        refine z_iconst C dX3_isSquare_55 ?_
        exact z_zret C E dX3_isSquare_56 (by decide) ⟨_, rfl, h⟩
      · have h := h.2 c5
        refine z_iload_n C 1 dX3_isSquare_39 rfl rfl ?_
        refine z_iconst C dX3_isSquare_40 ?_
        refine z_aload_n C 0 dX3_isSquare_41 rfl rfl ?_
        refine g_X3_0 C hr0 kf_X3_9 dX3_isSquare_42 ?_
        refine z_ishl C dX3_isSquare_45 ?_
        refine z_iconst C dX3_isSquare_46 ?_
        refine z_isub C dX3_isSquare_47 ?_
        obtain ⟨o6, h⟩ := h
        obtain ⟨o7, h⟩ := h
        refine z_icmp_ne C 55 dX3_isSquare_48 (by decide) o6 o7 (fun c8 => ?_) (fun c8 => ?_)
        · have h := h.1 c8
          refine z_iconst C dX3_isSquare_55 ?_
          exact z_zret C E dX3_isSquare_56 (by decide) ⟨_, rfl, h⟩
        · have h := h.2 c8
          refine z_iconst C dX3_isSquare_51 ?_
          refine z_goto C 56 dX3_isSquare_52 (by decide) ?_
          exact z_zret C E dX3_isSquare_56 (by decide) ⟨_, rfl, h⟩
    · have h := h.2 c3
      refine z_iload_n C 1 dX3_isSquare_12 rfl rfl ?_
      refine z_iconst C dX3_isSquare_13 ?_
      refine z_aload_n C 0 dX3_isSquare_14 rfl rfl ?_
      refine z_iload_n C 2 dX3_isSquare_15 rfl rfl ?_
      refine z_callV (av := fun w => [.int (zI (v2))]) C [.int (zI (1)), .int (zI (v1))] cs_X3_lineAt (by have := hr0; omega) (zcell_row hr0) rfl (mX3_lineAt r0 v2 hr0 σ _ h) km_X3_32 dX3_isSquare_16 rfl rfl ⟨rfl, rfl⟩ ⟨by decide, by decide⟩ (Nat.le_of_ble_eq_true rfl) (fun rv σ9 hp => ?_)
      obtain ⟨a10, rfl, h⟩ := hp
      change zV x σ9 19 [(0, za x (29 + r0)), (1, .int (zI (v1))), (2, .int (zI (v2)))] [.int (zI (a10)), .int (zI (1)), .int (zI (v1))]
      refine z_ishl C dX3_isSquare_19 ?_
      refine z_ior C dX3_isSquare_20 ?_
      refine z_istore_n C [(1, .int (zI (zor v1 (zshl 1 a10)))), (0, za x (29 + r0)), (2, .int (zI (v2)))] dX3_isSquare_21 rfl (by rw [hN]; decide) rfl ?_
      refine z_iinc C 2 [(2, .int (zI (v2 + 1))), (1, .int (zI (zor v1 (zshl 1 a10)))), (0, za x (29 + r0))] dX3_isSquare_22 rfl (by rw [hN]; decide) rfl ?_
      refine z_goto C 4 dX3_isSquare_25 (by decide) ?_
      refine z_sub C [2, 1, 0] [(0, za x (29 + r0)), (1, .int (zI (zor v1 (zshl 1 a10)))), (2, .int (zI (v2 + 1)))] rfl ?_
      exact ih r0 (zor v1 (zshl 1 a10)) (v2 + 1) hr0 σ9 h
def wX3_isSquare (r0 : Nat) (σ : Hp) (k : Int → Hp → Prop) : Prop :=
  (∃ N1, wX3_isSquare_4 k N1 r0 0 0 σ)
set_option maxRecDepth 100000 in
theorem mX3_isSquare (r0 : Nat) (hr0 : r0 < 7) (σ : Hp) (k : Int → Hp → Prop) (h : wX3_isSquare r0 σ k) (l : Launch) : zMt l yX3_isSquare cX3_isSquare 3 (some .boolean) { frames := 2, cells := 0, slots := 0, locals := 43 } (fun w => [.ref (w.2.1 (29 + r0))]) σ (zPi k) := by
  refine zMt_of (plainFor_of_name (by decide)) (fun w => Nat.le_of_ble_eq_true rfl) (fun x hl hN C E => ?_)
  change zV x σ 0 [(0, za x (29 + r0))] []
  change zOk x cX3_isSquare RX3 (some .boolean) (2) (43) at C
  unfold wX3_isSquare at h
  refine z_iconst C dX3_isSquare_0 ?_
  refine z_istore_n C [(1, .int (zI (0))), (0, za x (29 + r0))] dX3_isSquare_1 rfl (by rw [hN]; decide) rfl ?_
  refine z_iconst C dX3_isSquare_2 ?_
  refine z_istore_n C [(2, .int (zI (0))), (1, .int (zI (0))), (0, za x (29 + r0))] dX3_isSquare_3 rfl (by rw [hN]; decide) rfl ?_
  refine z_sub C [2, 1, 0] [(0, za x (29 + r0)), (1, .int (zI (0))), (2, .int (zI (0)))] rfl ?_
  obtain ⟨n1, h⟩ := h
  exact sX3_isSquare_4 C hN E n1 r0 0 0 hr0 σ h
def wX3_lines (r0 : Nat) (σ : Hp) (k : Int → Hp → Prop) : Prop :=
  k (σ (29 + r0) 1) σ
set_option maxRecDepth 100000 in
theorem mX3_lines (r0 : Nat) (hr0 : r0 < 7) (σ : Hp) (k : Int → Hp → Prop) (h : wX3_lines r0 σ k) (l : Launch) : zMt l yX3_lines cX3_lines 1 (some .int) { frames := 0, cells := 0, slots := 0, locals := 0 } (fun w => [.ref (w.2.1 (29 + r0))]) σ (zPi k) := by
  refine zMt_of (plainFor_of_name (by decide)) (fun w => Nat.le_of_ble_eq_true rfl) (fun x hl hN C E => ?_)
  change zV x σ 0 [(0, za x (29 + r0))] []
  change zOk x cX3_lines RX3 (some .int) (0) (0) at C
  unfold wX3_lines at h
  refine z_aload_n C 0 dX3_lines_0 rfl rfl ?_
  refine g_X3_1 C hr0 kf_X3_15 dX3_lines_1 ?_
  exact z_iret C E dX3_lines_4 ⟨_, rfl, h⟩
def wX3_markCount_4 (k : Int → Hp → Prop) : Nat → Nat → Int → Int → Hp → Prop
  | 0, _, _, _, _ => False
  | n + 1, r0, v1, v2, σ => zrg v2 ∧ zrg (σ (29 + r0) 0) ∧ ((σ (29 + r0) 0 ≤ v2 → k v1 σ) ∧ (¬ (σ (29 + r0) 0 ≤ v2) → wX3_markedAt r0 v2 σ (fun a5 σ4 => zrg a5 ∧ ((a5 = 0 → wX3_markCount_4 k n r0 v1 (v2 + 1) σ4) ∧ (¬ (a5 = 0) → wX3_markCount_4 k n r0 (v1 + 1) (v2 + 1) σ4)))))
set_option maxRecDepth 100000 in
theorem sX3_markCount_4 {x : Cx} (C : zOk x cX3_markCount RX3 (some .int) (3) (64)) (hN : x.2.2.2.2.1 = 3) {k : Int → Hp → Prop} (E : zEnd x (zPi k x.2.1)) : ∀ (n : Nat) (r0 : Nat) (v1 : Int) (v2 : Int) (hr0 : r0 < 7) (σ : Hp), wX3_markCount_4 k n r0 v1 v2 σ → zV x σ 4 [(0, za x (29 + r0)), (1, .int (zI (v1))), (2, .int (zI (v2)))] [] := by
  intro n
  induction n with
  | zero => intro _ _ _ _ _ h; exact h.elim
  | succ n ih =>
    intro r0 v1 v2 hr0 σ h
    unfold wX3_markCount_4 at h
    refine z_iload_n C 2 dX3_markCount_4 rfl rfl ?_
    refine z_aload_n C 0 dX3_markCount_5 rfl rfl ?_
    refine g_X3_0 C hr0 kf_X3_9 dX3_markCount_6 ?_
    obtain ⟨o1, h⟩ := h
    obtain ⟨o2, h⟩ := h
    refine z_icmp_ge C 29 dX3_markCount_9 (by decide) o1 o2 (fun c3 => ?_) (fun c3 => ?_)
    · have h := h.1 c3
      refine z_iload_n C 1 dX3_markCount_29 rfl rfl ?_
      exact z_iret C E dX3_markCount_30 ⟨_, rfl, h⟩
    · have h := h.2 c3
      refine z_aload_n C 0 dX3_markCount_12 rfl rfl ?_
      refine z_iload_n C 2 dX3_markCount_13 rfl rfl ?_
      refine z_callV (av := fun w => [.int (zI (v2))]) C [] cs_X3_markedAt (by have := hr0; omega) (zcell_row hr0) rfl (mX3_markedAt r0 v2 hr0 σ _ h) km_X3_40 dX3_markCount_14 rfl rfl ⟨rfl, rfl⟩ ⟨by decide, by decide⟩ (Nat.le_of_ble_eq_true rfl) (fun rv σ4 hp => ?_)
      obtain ⟨a5, rfl, h⟩ := hp
      change zV x σ4 17 [(0, za x (29 + r0)), (1, .int (zI (v1))), (2, .int (zI (v2)))] [.int (zI (a5))]
      obtain ⟨o6, h⟩ := h
      refine z_if_eq C 23 dX3_markCount_17 (by decide) o6 (fun c7 => ?_) (fun c7 => ?_)
      · have h := h.1 c7
        refine z_iinc C 2 [(2, .int (zI (v2 + 1))), (0, za x (29 + r0)), (1, .int (zI (v1)))] dX3_markCount_23 rfl (by rw [hN]; decide) rfl ?_
        refine z_goto C 4 dX3_markCount_26 (by decide) ?_
        refine z_sub C [1, 2, 0] [(0, za x (29 + r0)), (1, .int (zI (v1))), (2, .int (zI (v2 + 1)))] rfl ?_
        exact ih r0 v1 (v2 + 1) hr0 σ4 h
      · have h := h.2 c7
        refine z_iinc C 1 [(1, .int (zI (v1 + 1))), (0, za x (29 + r0)), (2, .int (zI (v2)))] dX3_markCount_20 rfl (by rw [hN]; decide) rfl ?_
        refine z_iinc C 2 [(2, .int (zI (v2 + 1))), (1, .int (zI (v1 + 1))), (0, za x (29 + r0))] dX3_markCount_23 rfl (by rw [hN]; decide) rfl ?_
        refine z_goto C 4 dX3_markCount_26 (by decide) ?_
        refine z_sub C [2, 1, 0] [(0, za x (29 + r0)), (1, .int (zI (v1 + 1))), (2, .int (zI (v2 + 1)))] rfl ?_
        exact ih r0 (v1 + 1) (v2 + 1) hr0 σ4 h
def wX3_markCount (r0 : Nat) (σ : Hp) (k : Int → Hp → Prop) : Prop :=
  (∃ N1, wX3_markCount_4 k N1 r0 0 0 σ)
set_option maxRecDepth 100000 in
theorem mX3_markCount (r0 : Nat) (hr0 : r0 < 7) (σ : Hp) (k : Int → Hp → Prop) (h : wX3_markCount r0 σ k) (l : Launch) : zMt l yX3_markCount cX3_markCount 3 (some .int) { frames := 3, cells := 0, slots := 0, locals := 64 } (fun w => [.ref (w.2.1 (29 + r0))]) σ (zPi k) := by
  refine zMt_of (plainFor_of_name (by decide)) (fun w => Nat.le_of_ble_eq_true rfl) (fun x hl hN C E => ?_)
  change zV x σ 0 [(0, za x (29 + r0))] []
  change zOk x cX3_markCount RX3 (some .int) (3) (64) at C
  unfold wX3_markCount at h
  refine z_iconst C dX3_markCount_0 ?_
  refine z_istore_n C [(1, .int (zI (0))), (0, za x (29 + r0))] dX3_markCount_1 rfl (by rw [hN]; decide) rfl ?_
  refine z_iconst C dX3_markCount_2 ?_
  refine z_istore_n C [(2, .int (zI (0))), (1, .int (zI (0))), (0, za x (29 + r0))] dX3_markCount_3 rfl (by rw [hN]; decide) rfl ?_
  refine z_sub C [2, 1, 0] [(0, za x (29 + r0)), (1, .int (zI (0))), (2, .int (zI (0)))] rfl ?_
  obtain ⟨n1, h⟩ := h
  exact sX3_markCount_4 C hN E n1 r0 0 0 hr0 σ h
def wX3_packed_4 (k : Int → Hp → Prop) : Nat → Nat → Int → Int → Hp → Prop
  | 0, _, _, _, _ => False
  | n + 1, r0, v1, v3, σ => zrg v3 ∧ zrg (σ (29 + r0) 0) ∧ ((σ (29 + r0) 0 ≤ v3 → k v1 σ) ∧ (¬ (σ (29 + r0) 0 ≤ v3) → wX3_lineAt r0 v3 σ (fun a5 σ4 => zrg a5 ∧ wX3_packed_4 k n r0 (zLor (zLshl v1 4) a5) (v3 + 1) σ4)))
set_option maxRecDepth 100000 in
theorem sX3_packed_4 {x : Cx} (C : zOk x cX3_packed RX3 (some .long) (2) (43)) (hN : x.2.2.2.2.1 = 4) {k : Int → Hp → Prop} (E : zEnd x (zPl k x.2.1)) : ∀ (n : Nat) (r0 : Nat) (v1 : Int) (v3 : Int) (hr0 : r0 < 7) (σ : Hp), wX3_packed_4 k n r0 v1 v3 σ → zV x σ 4 [(0, za x (29 + r0)), (1, .long (zJ (v1))), (3, .int (zI (v3)))] [] := by
  intro n
  induction n with
  | zero => intro _ _ _ _ _ h; exact h.elim
  | succ n ih =>
    intro r0 v1 v3 hr0 σ h
    unfold wX3_packed_4 at h
    refine z_iload_n C 2 dX3_packed_4 rfl rfl ?_
    refine z_aload_n C 0 dX3_packed_5 rfl rfl ?_
    refine g_X3_0 C hr0 kf_X3_9 dX3_packed_6 ?_
    obtain ⟨o1, h⟩ := h
    obtain ⟨o2, h⟩ := h
    refine z_icmp_ge C 29 dX3_packed_9 (by decide) o1 o2 (fun c3 => ?_) (fun c3 => ?_)
    · have h := h.1 c3
      refine z_lload_n C 1 dX3_packed_29 rfl rfl ?_
      exact z_lret C E dX3_packed_30 ⟨_, rfl, h⟩
    · have h := h.2 c3
      refine z_lload_n C 1 dX3_packed_12 rfl rfl ?_
      refine z_iconst C dX3_packed_13 ?_
      refine z_lshl C dX3_packed_14 ?_
      refine z_aload_n C 0 dX3_packed_15 rfl rfl ?_
      refine z_iload_n C 2 dX3_packed_16 rfl rfl ?_
      refine z_callV (av := fun w => [.int (zI (v3))]) C [.long (zJ (zLshl v1 4))] cs_X3_lineAt (by have := hr0; omega) (zcell_row hr0) rfl (mX3_lineAt r0 v3 hr0 σ _ h) km_X3_32 dX3_packed_17 rfl rfl ⟨rfl, rfl⟩ ⟨by decide, by decide⟩ (Nat.le_of_ble_eq_true rfl) (fun rv σ4 hp => ?_)
      obtain ⟨a5, rfl, h⟩ := hp
      change zV x σ4 20 [(0, za x (29 + r0)), (1, .long (zJ (v1))), (3, .int (zI (v3)))] [.int (zI (a5)), .long (zJ (zLshl v1 4))]
      obtain ⟨o6, h⟩ := h
      refine z_i2l C dX3_packed_20 o6 ?_
      refine z_lor C dX3_packed_21 ?_
      refine z_lstore_n C [(1, .long (zJ (zLor (zLshl v1 4) a5))), (0, za x (29 + r0)), (3, .int (zI (v3)))] dX3_packed_22 rfl (by rw [hN]; decide) rfl ?_
      refine z_iinc C 2 [(3, .int (zI (v3 + 1))), (1, .long (zJ (zLor (zLshl v1 4) a5))), (0, za x (29 + r0))] dX3_packed_23 rfl (by rw [hN]; decide) rfl ?_
      refine z_goto C 4 dX3_packed_26 (by decide) ?_
      refine z_sub C [2, 1, 0] [(0, za x (29 + r0)), (1, .long (zJ (zLor (zLshl v1 4) a5))), (3, .int (zI (v3 + 1)))] rfl ?_
      exact ih r0 (zLor (zLshl v1 4) a5) (v3 + 1) hr0 σ4 h
def wX3_packed (r0 : Nat) (σ : Hp) (k : Int → Hp → Prop) : Prop :=
  (∃ N1, wX3_packed_4 k N1 r0 0 0 σ)
set_option maxRecDepth 100000 in
theorem mX3_packed (r0 : Nat) (hr0 : r0 < 7) (σ : Hp) (k : Int → Hp → Prop) (h : wX3_packed r0 σ k) (l : Launch) : zMt l yX3_packed cX3_packed 4 (some .long) { frames := 2, cells := 0, slots := 0, locals := 43 } (fun w => [.ref (w.2.1 (29 + r0))]) σ (zPl k) := by
  refine zMt_of (plainFor_of_name (by decide)) (fun w => Nat.le_of_ble_eq_true rfl) (fun x hl hN C E => ?_)
  change zV x σ 0 [(0, za x (29 + r0))] []
  change zOk x cX3_packed RX3 (some .long) (2) (43) at C
  unfold wX3_packed at h
  refine z_lconst (z := 0) C dX3_packed_0 rfl ?_
  refine z_lstore_n C [(1, .long (zJ (0))), (0, za x (29 + r0))] dX3_packed_1 rfl (by rw [hN]; decide) rfl ?_
  refine z_iconst C dX3_packed_2 ?_
  refine z_istore_n C [(3, .int (zI (0))), (1, .long (zJ (0))), (0, za x (29 + r0))] dX3_packed_3 rfl (by rw [hN]; decide) rfl ?_
  refine z_sub C [2, 1, 0] [(0, za x (29 + r0)), (1, .long (zJ (0))), (3, .int (zI (0)))] rfl ?_
  obtain ⟨n1, h⟩ := h
  exact sX3_packed_4 C hN E n1 r0 0 0 hr0 σ h
def wX6_rest (v0 : Int) (v1 : Int) (σ : Hp) (k : Int → Hp → Prop) : Prop :=
  zrg v1 ∧ ((1 ≤ v1 → wJ9_floorMod_7cf53 v0 v1 σ (fun a4 σ3 => k a4 σ3)) ∧ (¬ (1 ≤ v1) → k 0 σ))
set_option maxRecDepth 100000 in
theorem mX6_rest (v0 : Int) (v1 : Int) (σ : Hp) (k : Int → Hp → Prop) (h : wX6_rest v0 v1 σ k) (l : Launch) : zMt l yX6_rest cX6_rest 2 (some .int) { frames := 1, cells := 0, slots := 0, locals := 22 } (fun w => [.int (zI (v0)), .int (zI (v1))]) σ (zPi k) := by
  refine zMt_of (plainFor_of_name (by decide)) (fun w => Nat.le_of_ble_eq_true rfl) (fun x hl hN C E => ?_)
  change zV x σ 0 [(0, .int (zI (v0))), (1, .int (zI (v1)))] []
  change zOk x cX6_rest RX6 (some .int) (1) (22) at C
  unfold wX6_rest at h
  refine z_iload_n C 1 dX6_rest_0 rfl rfl ?_
  refine z_iconst C dX6_rest_1 ?_
  obtain ⟨o1, h⟩ := h
  refine z_icmp_ge C 9 dX6_rest_2 (by decide) o1 (zrg_d rfl) (fun c2 => ?_) (fun c2 => ?_)
  · have h := h.1 c2
    refine z_iload_n C 0 dX6_rest_9 rfl rfl ?_
    refine z_iload_n C 1 dX6_rest_10 rfl rfl ?_
    refine z_callS (av := fun w => [.int (zI (v0)), .int (zI (v1))]) C [] cs_J9_floorMod_7cf53 (mJ9_floorMod_7cf53 v0 v1  σ _ h) km_X6_259 dX6_rest_11 rfl rfl ⟨rfl, rfl⟩ ⟨by decide, by decide⟩ (Nat.le_of_ble_eq_true rfl) (fun rv σ3 hp => ?_)
    obtain ⟨a4, rfl, h⟩ := hp
    change zV x σ3 14 [(0, .int (zI (v0))), (1, .int (zI (v1)))] [.int (zI (a4))]
    exact z_iret C E dX6_rest_14 ⟨_, rfl, h⟩
  · have h := h.2 c2
    refine z_iconst C dX6_rest_5 ?_
    refine z_goto C 14 dX6_rest_6 (by decide) ?_
    exact z_iret C E dX6_rest_14 ⟨_, rfl, h⟩
def wX3_step (r0 : Nat) (v1 : Int) (v2 : Int) (v3 : Int) (σ : Hp) (k : Int → Hp → Prop) : Prop :=
  wX3_lineAt r0 v2 σ (fun a2 σ1 => wX3_lineAt r0 v1 σ1 (fun a4 σ3 => zrg v3 ∧ ((v3 ≠ 0 → wX6_rest (a2 - a4) (σ3 (29 + r0) 1) σ3 (fun a8 σ7 => k a8 σ7)) ∧ (¬ (v3 ≠ 0) → k (a2 - a4) σ3))))
set_option maxRecDepth 100000 in
theorem mX3_step (r0 : Nat) (v1 : Int) (v2 : Int) (v3 : Int) (hr0 : r0 < 7) (σ : Hp) (k : Int → Hp → Prop) (h : wX3_step r0 v1 v2 v3 σ k) (l : Launch) : zMt l yX3_step cX3_step 5 (some .int) { frames := 2, cells := 0, slots := 0, locals := 43 } (fun w => [.ref (w.2.1 (29 + r0)), .int (zI (v1)), .int (zI (v2)), .int (zI (v3))]) σ (zPi k) := by
  refine zMt_of (plainFor_of_name (by decide)) (fun w => Nat.le_of_ble_eq_true rfl) (fun x hl hN C E => ?_)
  change zV x σ 0 [(0, za x (29 + r0)), (1, .int (zI (v1))), (2, .int (zI (v2))), (3, .int (zI (v3)))] []
  change zOk x cX3_step RX3 (some .int) (2) (43) at C
  unfold wX3_step at h
  refine z_aload_n C 0 dX3_step_0 rfl rfl ?_
  refine z_iload_n C 2 dX3_step_1 rfl rfl ?_
  refine z_callV (av := fun w => [.int (zI (v2))]) C [] cs_X3_lineAt (by have := hr0; omega) (zcell_row hr0) rfl (mX3_lineAt r0 v2 hr0 σ _ h) km_X3_32 dX3_step_2 rfl rfl ⟨rfl, rfl⟩ ⟨by decide, by decide⟩ (Nat.le_of_ble_eq_true rfl) (fun rv σ1 hp => ?_)
  obtain ⟨a2, rfl, h⟩ := hp
  change zV x σ1 5 [(0, za x (29 + r0)), (1, .int (zI (v1))), (2, .int (zI (v2))), (3, .int (zI (v3)))] [.int (zI (a2))]
  refine z_aload_n C 0 dX3_step_5 rfl rfl ?_
  refine z_iload_n C 1 dX3_step_6 rfl rfl ?_
  refine z_callV (av := fun w => [.int (zI (v1))]) C [.int (zI (a2))] cs_X3_lineAt (by have := hr0; omega) (zcell_row hr0) rfl (mX3_lineAt r0 v1 hr0 σ1 _ h) km_X3_32 dX3_step_7 rfl rfl ⟨rfl, rfl⟩ ⟨by decide, by decide⟩ (Nat.le_of_ble_eq_true rfl) (fun rv σ3 hp => ?_)
  obtain ⟨a4, rfl, h⟩ := hp
  change zV x σ3 10 [(0, za x (29 + r0)), (1, .int (zI (v1))), (2, .int (zI (v2))), (3, .int (zI (v3)))] [.int (zI (a4)), .int (zI (a2))]
  refine z_isub C dX3_step_10 ?_
  refine z_istore C [(4, .int (zI (a2 - a4))), (0, za x (29 + r0)), (1, .int (zI (v1))), (2, .int (zI (v2))), (3, .int (zI (v3)))] dX3_step_11 (by rw [hN]; decide) rfl ?_
  refine z_iload_n C 4 dX3_step_13 rfl rfl ?_
  obtain ⟨o5, h⟩ := h
  refine z_if_ne C 22 dX3_step_14 (by decide) o5 (fun c6 => ?_) (fun c6 => ?_)
  · have h := h.1 c6
    refine z_iload C 0 dX3_step_22 rfl ?_
    refine z_aload_n C 1 dX3_step_24 rfl rfl ?_
    refine g_X3_1 C hr0 kf_X3_15 dX3_step_25 ?_
    refine z_callN (av := fun w => [.int (zI (a2 - a4)), .int (zI (σ3 (29 + r0) 1))]) C [] cs_X6_rest (mX6_rest (a2 - a4) (σ3 (29 + r0) 1)  σ3 _ h) kn_X3_36 dX3_step_28 rfl rfl ⟨rfl, rfl⟩ ⟨by decide, by decide⟩ (Nat.le_of_ble_eq_true rfl) (fun rv σ7 hp => ?_)
    obtain ⟨a8, rfl, h⟩ := hp
    change zV x σ7 31 [(4, .int (zI (a2 - a4))), (0, za x (29 + r0)), (1, .int (zI (v1))), (2, .int (zI (v2))), (3, .int (zI (v3)))] [.int (zI (a8))]
    exact z_iret C E dX3_step_31 ⟨_, rfl, h⟩
  · have h := h.2 c6
    refine z_iload C 0 dX3_step_17 rfl ?_
    refine z_goto C 31 dX3_step_19 (by decide) ?_
    exact z_iret C E dX3_step_31 ⟨_, rfl, h⟩
def wX4_amongRows (v1 : Int) (v2 : Int) (v3 : Int) (σ : Hp) (k : Hp → Prop) : Prop :=
  wX6_within v1 1 12 σ (fun a2 σ1 => zrg a2 ∧ ((a2 = 0 → k σ1) ∧ (¬ (a2 = 0) → wX6_within v2 1 12 σ1 (fun a6 σ5 => zrg a6 ∧ ((a6 ≠ 0 → wJ7_fill_53178 9 12 ((zshl 1 v2) - 1) (zst (zst (zst (zst σ5 6 3 v1) 6 4 v2) 6 5 v3) 6 6 0) (fun σ9 => k σ9)) ∧ (¬ (a6 ≠ 0) → k σ5))))))
set_option maxRecDepth 100000 in
theorem mX4_amongRows (v1 : Int) (v2 : Int) (v3 : Int) (σ : Hp) (k : Hp → Prop) (h : wX4_amongRows v1 v2 v3 σ k) (l : Launch) : zMt l yX4_amongRows cX4_amongRows 4 (none) { frames := 1, cells := 0, slots := 0, locals := 23 } (fun w => [.ref (w.2.1 (6)), .int (zI (v1)), .int (zI (v2)), .int (zI (v3))]) σ (zPv k) := by
  refine zMt_of (plainFor_of_name (by decide)) (fun w => Nat.le_of_ble_eq_true rfl) (fun x hl hN C E => ?_)
  change zV x σ 0 [(0, za x (6)), (1, .int (zI (v1))), (2, .int (zI (v2))), (3, .int (zI (v3)))] []
  change zOk x cX4_amongRows RX4 (none) (1) (23) at C
  unfold wX4_amongRows at h
  refine z_iload_n C 1 dX4_amongRows_0 rfl rfl ?_
  refine z_iconst C dX4_amongRows_1 ?_
  refine z_bipush C dX4_amongRows_2 rfl ?_
  refine z_callN (av := fun w => [.int (zI (v1)), .int (zI (1)), .int (zI (12))]) C [] cs_X6_within (mX6_within v1 1 12  σ _ h) kn_X4_28 dX4_amongRows_4 rfl rfl ⟨rfl, rfl⟩ ⟨by decide, by decide⟩ (Nat.le_of_ble_eq_true rfl) (fun rv σ1 hp => ?_)
  obtain ⟨a2, rfl, h⟩ := hp
  change zV x σ1 7 [(0, za x (6)), (1, .int (zI (v1))), (2, .int (zI (v2))), (3, .int (zI (v3)))] [.int (zI (a2))]
  obtain ⟨o3, h⟩ := h
  refine z_if_eq C 20 dX4_amongRows_7 (by decide) o3 (fun c4 => ?_) (fun c4 => ?_)
  · have h := h.1 c4
    exact z_vret C E dX4_amongRows_20 ⟨rfl, h⟩
  · have h := h.2 c4
    refine z_iload_n C 2 dX4_amongRows_10 rfl rfl ?_
    refine z_iconst C dX4_amongRows_11 ?_
    refine z_bipush C dX4_amongRows_12 rfl ?_
    refine z_callN (av := fun w => [.int (zI (v2)), .int (zI (1)), .int (zI (12))]) C [] cs_X6_within (mX6_within v2 1 12  σ1 _ h) kn_X4_28 dX4_amongRows_14 rfl rfl ⟨rfl, rfl⟩ ⟨by decide, by decide⟩ (Nat.le_of_ble_eq_true rfl) (fun rv σ5 hp => ?_)
    obtain ⟨a6, rfl, h⟩ := hp
    change zV x σ5 17 [(0, za x (6)), (1, .int (zI (v1))), (2, .int (zI (v2))), (3, .int (zI (v3)))] [.int (zI (a6))]
    obtain ⟨o7, h⟩ := h
    refine z_if_ne C 21 dX4_amongRows_17 (by decide) o7 (fun c8 => ?_) (fun c8 => ?_)
    · have h := h.1 c8
      refine z_aload_n C 0 dX4_amongRows_21 rfl rfl ?_
      refine z_iload_n C 1 dX4_amongRows_22 rfl rfl ?_
      refine p_X4_3 C kf_X4_21 dX4_amongRows_23 ?_
      refine z_aload_n C 0 dX4_amongRows_26 rfl rfl ?_
      refine z_iload_n C 2 dX4_amongRows_27 rfl rfl ?_
      refine p_X4_4 C kf_X4_25 dX4_amongRows_28 ?_
      refine z_aload_n C 0 dX4_amongRows_31 rfl rfl ?_
      refine z_iload_n C 3 dX4_amongRows_32 rfl rfl ?_
      refine p_X4_5 C kf_X4_32 dX4_amongRows_33 ?_
      refine z_aload_n C 0 dX4_amongRows_36 rfl rfl ?_
      refine z_iconst C dX4_amongRows_37 ?_
      refine p_X4_6 C (by decide) kf_X4_35 dX4_amongRows_38 ?_
      refine z_aload_n C 0 dX4_amongRows_41 rfl rfl ?_
      refine g_X4_2 C kf_X4_18 dX4_amongRows_42 ?_
      refine z_iconst C dX4_amongRows_45 ?_
      refine z_iload_n C 2 dX4_amongRows_46 rfl rfl ?_
      refine z_ishl C dX4_amongRows_47 ?_
      refine z_iconst C dX4_amongRows_48 ?_
      refine z_isub C dX4_amongRows_49 ?_
      refine z_callS (av := fun w => [.ref (w.2.1 (9)), .int (zI ((zshl 1 v2) - 1))]) C [] cs_J7_fill_53178 (mJ7_fill_53178 9 12 ((zshl 1 v2) - 1) ia_9 (zst (zst (zst (zst σ5 6 3 v1) 6 4 v2) 6 5 v3) 6 6 0) _ h) km_X4_39 dX4_amongRows_50 rfl rfl ⟨rfl, rfl⟩ ⟨by decide, by decide⟩ (Nat.le_of_ble_eq_true rfl) (fun rv σ9 hp => ?_)
      obtain ⟨rfl, h⟩ := hp
      change zV x σ9 53 [(0, za x (6)), (1, .int (zI (v1))), (2, .int (zI (v2))), (3, .int (zI (v3)))] []
      exact z_vret C E dX4_amongRows_53 ⟨rfl, h⟩
    · have h := h.2 c8
      exact z_vret C E dX4_amongRows_20 ⟨rfl, h⟩
def wX4_amongSquares (v1 : Int) (σ : Hp) (k : Hp → Prop) : Prop :=
  wX4_amongRows v1 v1 0 σ (fun σ1 => k (zst σ1 6 6 1))
set_option maxRecDepth 100000 in
theorem mX4_amongSquares (v1 : Int) (σ : Hp) (k : Hp → Prop) (h : wX4_amongSquares v1 σ k) (l : Launch) : zMt l yX4_amongSquares cX4_amongSquares 2 (none) { frames := 2, cells := 0, slots := 0, locals := 46 } (fun w => [.ref (w.2.1 (6)), .int (zI (v1))]) σ (zPv k) := by
  refine zMt_of (plainFor_of_name (by decide)) (fun w => Nat.le_of_ble_eq_true rfl) (fun x hl hN C E => ?_)
  change zV x σ 0 [(0, za x (6)), (1, .int (zI (v1)))] []
  change zOk x cX4_amongSquares RX4 (none) (2) (46) at C
  unfold wX4_amongSquares at h
  refine z_aload_n C 0 dX4_amongSquares_0 rfl rfl ?_
  refine z_iload_n C 1 dX4_amongSquares_1 rfl rfl ?_
  refine z_iload_n C 1 dX4_amongSquares_2 rfl rfl ?_
  refine z_iconst C dX4_amongSquares_3 ?_
  refine z_callV (av := fun w => [.int (zI (v1)), .int (zI (v1)), .int (zI (0))]) C [] cs_X4_amongRows (by decide) (fun _ _ => rfl) rfl (mX4_amongRows v1 v1 0  σ _ h) km_X4_45 dX4_amongSquares_4 rfl rfl ⟨rfl, rfl⟩ ⟨by decide, by decide⟩ (Nat.le_of_ble_eq_true rfl) (fun rv σ1 hp => ?_)
  obtain ⟨rfl, h⟩ := hp
  change zV x σ1 7 [(0, za x (6)), (1, .int (zI (v1)))] []
  refine z_aload_n C 0 dX4_amongSquares_7 rfl rfl ?_
  refine z_iconst C dX4_amongSquares_8 ?_
  refine p_X4_6 C (by decide) kf_X4_35 dX4_amongSquares_9 ?_
  exact z_vret C E dX4_amongSquares_12 ⟨rfl, h⟩
def wX4_begin (v1 : Int) (σ : Hp) (k : Hp → Prop) : Prop :=
  wJ7_fill_53178 8 12 0 (zst (zst σ 6 7 v1) 6 8 0) (fun σ1 => k σ1)
set_option maxRecDepth 100000 in
theorem mX4_begin (v1 : Int) (σ : Hp) (k : Hp → Prop) (h : wX4_begin v1 σ k) (l : Launch) : zMt l yX4_begin cX4_begin 2 (none) { frames := 1, cells := 0, slots := 0, locals := 23 } (fun w => [.ref (w.2.1 (6)), .int (zI (v1))]) σ (zPv k) := by
  refine zMt_of (plainFor_of_name (by decide)) (fun w => Nat.le_of_ble_eq_true rfl) (fun x hl hN C E => ?_)
  change zV x σ 0 [(0, za x (6)), (1, .int (zI (v1)))] []
  change zOk x cX4_begin RX4 (none) (1) (23) at C
  unfold wX4_begin at h
  refine z_aload_n C 0 dX4_begin_0 rfl rfl ?_
  refine z_iload_n C 1 dX4_begin_1 rfl rfl ?_
  refine p_X4_7 C kf_X4_77 dX4_begin_2 ?_
  refine z_aload_n C 0 dX4_begin_5 rfl rfl ?_
  refine z_iconst C dX4_begin_6 ?_
  refine p_X4_8 C kf_X4_67 dX4_begin_7 ?_
  refine z_aload_n C 0 dX4_begin_10 rfl rfl ?_
  refine g_X4_1 C kf_X4_15 dX4_begin_11 ?_
  refine z_iconst C dX4_begin_14 ?_
  refine z_callS (av := fun w => [.ref (w.2.1 (8)), .int (zI (0))]) C [] cs_J7_fill_53178 (mJ7_fill_53178 8 12 0 ia_8 (zst (zst σ 6 7 v1) 6 8 0) _ h) km_X4_39 dX4_begin_15 rfl rfl ⟨rfl, rfl⟩ ⟨by decide, by decide⟩ (Nat.le_of_ble_eq_true rfl) (fun rv σ1 hp => ?_)
  obtain ⟨rfl, h⟩ := hp
  change zV x σ1 18 [(0, za x (6)), (1, .int (zI (v1)))] []
  exact z_vret C E dX4_begin_18 ⟨rfl, h⟩
def wX4_endIn_40 (k : Int → Hp → Prop) : Nat → Int → Int → Int → Hp → Prop
  | 0, _, _, _, _ => False
  | n + 1, v1, v2, v4, σ => zrg v4 ∧ zrg (σ 6 4) ∧ ((σ 6 4 ≤ v4 → k 0 σ) ∧ (¬ (σ 6 4 ≤ v4) → zrg (zand (zshr v2 v4) 1) ∧ ((zand (zshr v2 v4) 1 = 0 → wX4_endIn_40 k n v1 v2 (v4 + 1) σ) ∧ (¬ (zand (zshr v2 v4) 1 = 0) → zrg (σ 6 8) ∧ zrg (σ 6 7) ∧ ((σ 6 8 ≠ σ 6 7 → wX4_endIn_40 k n v1 v2 (v4 + 1) (zst σ 6 8 ((σ 6 8) + 1))) ∧ (¬ (σ 6 8 ≠ σ 6 7) → (0 ≤ v1 ∧ v1 < 12) ∧ k 1 (zst σ 7 v1.toNat v4)))))))
set_option maxRecDepth 100000 in
theorem sX4_endIn_40 {x : Cx} (C : zOk x cX4_endIn RX4 (some .boolean) (1) (20)) (hN : x.2.2.2.2.1 = 5) {k : Int → Hp → Prop} (E : zEnd x (zPi k x.2.1)) : ∀ (n : Nat) (v1 : Int) (v2 : Int) (v4 : Int) (σ : Hp), wX4_endIn_40 k n v1 v2 v4 σ → zV x σ 40 [(0, za x (6)), (1, .int (zI (v1))), (2, .int (zI (v2))), (4, .int (zI (v4)))] [] := by
  intro n
  induction n with
  | zero => intro _ _ _ _ h; exact h.elim
  | succ n ih =>
    intro v1 v2 v4 σ h
    unfold wX4_endIn_40 at h
    refine z_iload C 3 dX4_endIn_40 rfl ?_
    refine z_aload_n C 0 dX4_endIn_42 rfl rfl ?_
    refine g_X4_4 C kf_X4_25 dX4_endIn_43 ?_
    obtain ⟨o1, h⟩ := h
    obtain ⟨o2, h⟩ := h
    refine z_icmp_ge C 95 dX4_endIn_46 (by decide) o1 o2 (fun c3 => ?_) (fun c3 => ?_)
    · have h := h.1 c3
      refine z_iconst C dX4_endIn_95 ?_
      exact z_zret C E dX4_endIn_96 (by decide) ⟨_, rfl, h⟩
    · have h := h.2 c3
      refine z_iload_n C 2 dX4_endIn_49 rfl rfl ?_
      refine z_iload C 3 dX4_endIn_50 rfl ?_
      refine z_ishr C dX4_endIn_52 ?_
      refine z_iconst C dX4_endIn_53 ?_
      refine z_iand C dX4_endIn_54 ?_
      obtain ⟨o4, h⟩ := h
      refine z_if_eq C 89 dX4_endIn_55 (by decide) o4 (fun c5 => ?_) (fun c5 => ?_)
      · have h := h.1 c5
        refine z_iinc C 3 [(4, .int (zI (v4 + 1))), (0, za x (6)), (1, .int (zI (v1))), (2, .int (zI (v2)))] dX4_endIn_89 rfl (by rw [hN]; decide) rfl ?_
        refine z_goto C 40 dX4_endIn_92 (by decide) ?_
        refine z_sub C [1, 2, 3, 0] [(0, za x (6)), (1, .int (zI (v1))), (2, .int (zI (v2))), (4, .int (zI (v4 + 1)))] rfl ?_
        exact ih v1 v2 (v4 + 1)  σ h
      · have h := h.2 c5
        refine z_aload_n C 0 dX4_endIn_58 rfl rfl ?_
        refine g_X4_8 C kf_X4_67 dX4_endIn_59 ?_
        refine z_aload_n C 0 dX4_endIn_62 rfl rfl ?_
        refine g_X4_7 C kf_X4_77 dX4_endIn_63 ?_
        obtain ⟨o6, h⟩ := h
        obtain ⟨o7, h⟩ := h
        refine z_icmp_ne C 79 dX4_endIn_66 (by decide) o6 o7 (fun c8 => ?_) (fun c8 => ?_)
        · have h := h.1 c8
          refine z_aload_n C 0 dX4_endIn_79 rfl rfl ?_
          refine z_dup C dX4_endIn_80 rfl ?_
          refine g_X4_8 C kf_X4_67 dX4_endIn_81 ?_
          refine z_iconst C dX4_endIn_84 ?_
          refine z_iadd C dX4_endIn_85 ?_
          refine p_X4_8 C kf_X4_67 dX4_endIn_86 ?_
          refine z_iinc C 3 [(4, .int (zI (v4 + 1))), (0, za x (6)), (1, .int (zI (v1))), (2, .int (zI (v2)))] dX4_endIn_89 rfl (by rw [hN]; decide) rfl ?_
          refine z_goto C 40 dX4_endIn_92 (by decide) ?_
          refine z_sub C [1, 2, 3, 0] [(0, za x (6)), (1, .int (zI (v1))), (2, .int (zI (v2))), (4, .int (zI (v4 + 1)))] rfl ?_
          exact ih v1 v2 (v4 + 1)  (zst σ 6 8 ((σ 6 8) + 1)) h
        · have h := h.2 c8
          refine z_aload_n C 0 dX4_endIn_69 rfl rfl ?_
          refine g_X4_0 C kf_X4_9 dX4_endIn_70 ?_
          refine z_iload_n C 1 dX4_endIn_73 rfl rfl ?_
          refine z_iload C 3 dX4_endIn_74 rfl ?_
          obtain ⟨o9, h⟩ := h
          refine z_iast C ia_7 dX4_endIn_76 o9.1 o9.2 ?_
          refine z_iconst C dX4_endIn_77 ?_
          exact z_zret C E dX4_endIn_78 (by decide) ⟨_, rfl, h⟩
def wX4_endIn_25 (k : Int → Hp → Prop) (v3 : Int) (σ : Hp) : Prop :=
  k 0 (zst σ 6 8 ((σ 6 8) + v3))
set_option maxRecDepth 100000 in
theorem sX4_endIn_25 {x : Cx} (C : zOk x cX4_endIn RX4 (some .boolean) (1) (20)) (hN : x.2.2.2.2.1 = 5) {k : Int → Hp → Prop} (E : zEnd x (zPi k x.2.1)) (v3 : Int) (σ : Hp) (h : wX4_endIn_25 k v3 σ) : zV x σ 25 [(0, za x (6)), (3, .int (zI (v3)))] [] := by
  unfold wX4_endIn_25 at h
  refine z_aload_n C 0 dX4_endIn_25 rfl rfl ?_
  refine z_dup C dX4_endIn_26 rfl ?_
  refine g_X4_8 C kf_X4_67 dX4_endIn_27 ?_
  refine z_iload_n C 1 dX4_endIn_30 rfl rfl ?_
  refine z_iadd C dX4_endIn_31 ?_
  refine p_X4_8 C kf_X4_67 dX4_endIn_32 ?_
  refine z_iconst C dX4_endIn_35 ?_
  exact z_zret C E dX4_endIn_36 (by decide) ⟨_, rfl, h⟩
def wX4_endIn (v1 : Int) (v2 : Int) (σ : Hp) (k : Int → Hp → Prop) : Prop :=
  wJ6_bitCount_0f7a4 v2 σ (fun a2 σ1 => zrg (σ1 6 7) ∧ ((σ1 6 7 < 0 → wX4_endIn_25 k a2 σ1) ∧ (¬ (σ1 6 7 < 0) → zrg ((σ1 6 7) - (σ1 6 8)) ∧ zrg a2 ∧ (((σ1 6 7) - (σ1 6 8) < a2 → (∃ N8, wX4_endIn_40 k N8 v1 v2 0 σ1)) ∧ (¬ ((σ1 6 7) - (σ1 6 8) < a2) → wX4_endIn_25 k a2 σ1)))))
set_option maxRecDepth 100000 in
theorem mX4_endIn (v1 : Int) (v2 : Int) (σ : Hp) (k : Int → Hp → Prop) (h : wX4_endIn v1 v2 σ k) (l : Launch) : zMt l yX4_endIn cX4_endIn 5 (some .boolean) { frames := 1, cells := 0, slots := 0, locals := 20 } (fun w => [.ref (w.2.1 (6)), .int (zI (v1)), .int (zI (v2))]) σ (zPi k) := by
  refine zMt_of (plainFor_of_name (by decide)) (fun w => Nat.le_of_ble_eq_true rfl) (fun x hl hN C E => ?_)
  change zV x σ 0 [(0, za x (6)), (1, .int (zI (v1))), (2, .int (zI (v2)))] []
  change zOk x cX4_endIn RX4 (some .boolean) (1) (20) at C
  unfold wX4_endIn at h
  refine z_iload_n C 2 dX4_endIn_0 rfl rfl ?_
  refine z_callS (av := fun w => [.int (zI (v2))]) C [] cs_J6_bitCount_0f7a4 (mJ6_bitCount_0f7a4 v2  σ _ h) km_X4_96 dX4_endIn_1 rfl rfl ⟨rfl, rfl⟩ ⟨by decide, by decide⟩ (Nat.le_of_ble_eq_true rfl) (fun rv σ1 hp => ?_)
  obtain ⟨a2, rfl, h⟩ := hp
  change zV x σ1 4 [(0, za x (6)), (1, .int (zI (v1))), (2, .int (zI (v2)))] [.int (zI (a2))]
  refine z_istore_n C [(3, .int (zI (a2))), (0, za x (6)), (1, .int (zI (v1))), (2, .int (zI (v2)))] dX4_endIn_4 rfl (by rw [hN]; decide) rfl ?_
  refine z_aload_n C 1 dX4_endIn_5 rfl rfl ?_
  refine g_X4_7 C kf_X4_77 dX4_endIn_6 ?_
  obtain ⟨o3, h⟩ := h
  refine z_if_lt C 25 dX4_endIn_9 (by decide) o3 (fun c4 => ?_) (fun c4 => ?_)
  · have h := h.1 c4
    refine z_sub C [1, 0] [(0, za x (6)), (3, .int (zI (a2)))] rfl ?_
    exact sX4_endIn_25 C hN E a2  σ1 h
  · have h := h.2 c4
    refine z_aload_n C 1 dX4_endIn_12 rfl rfl ?_
    refine g_X4_7 C kf_X4_77 dX4_endIn_13 ?_
    refine z_aload_n C 1 dX4_endIn_16 rfl rfl ?_
    refine g_X4_8 C kf_X4_67 dX4_endIn_17 ?_
    refine z_isub C dX4_endIn_20 ?_
    refine z_iload_n C 0 dX4_endIn_21 rfl rfl ?_
    obtain ⟨o5, h⟩ := h
    obtain ⟨o6, h⟩ := h
    refine z_icmp_lt C 37 dX4_endIn_22 (by decide) o5 o6 (fun c7 => ?_) (fun c7 => ?_)
    · have h := h.1 c7
      refine z_iconst C dX4_endIn_37 ?_
      refine z_istore C [(4, .int (zI (0))), (3, .int (zI (a2))), (0, za x (6)), (1, .int (zI (v1))), (2, .int (zI (v2)))] dX4_endIn_38 (by rw [hN]; decide) rfl ?_
      refine z_sub C [2, 3, 4, 0] [(0, za x (6)), (1, .int (zI (v1))), (2, .int (zI (v2))), (4, .int (zI (0)))] rfl ?_
      obtain ⟨n8, h⟩ := h
      exact sX4_endIn_40 C hN E n8 v1 v2 0  σ1 h
    · have h := h.2 c7
      refine z_sub C [1, 0] [(0, za x (6)), (3, .int (zI (a2)))] rfl ?_
      exact sX4_endIn_25 C hN E a2  σ1 h
def wX4_stepBits (v1 : Int) (σ : Hp) (k : Int → Hp → Prop) : Prop :=
  zrg (σ 6 5) ∧ ((σ 6 5 ≠ 0 → wX6_rest v1 (σ 6 4) σ (fun a4 σ3 => k (zor (zshl 1 (12 + a4)) (zshl 1 ((12 + a4) - (σ3 6 4)))) σ3)) ∧ (¬ (σ 6 5 ≠ 0) → k (zshl 1 (12 + v1)) σ))
set_option maxRecDepth 100000 in
theorem mX4_stepBits (v1 : Int) (σ : Hp) (k : Int → Hp → Prop) (h : wX4_stepBits v1 σ k) (l : Launch) : zMt l yX4_stepBits cX4_stepBits 3 (some .int) { frames := 2, cells := 0, slots := 0, locals := 43 } (fun w => [.ref (w.2.1 (6)), .int (zI (v1))]) σ (zPi k) := by
  refine zMt_of (plainFor_of_name (by decide)) (fun w => Nat.le_of_ble_eq_true rfl) (fun x hl hN C E => ?_)
  change zV x σ 0 [(0, za x (6)), (1, .int (zI (v1)))] []
  change zOk x cX4_stepBits RX4 (some .int) (2) (43) at C
  unfold wX4_stepBits at h
  refine z_aload_n C 0 dX4_stepBits_0 rfl rfl ?_
  refine g_X4_5 C kf_X4_32 dX4_stepBits_1 ?_
  obtain ⟨o1, h⟩ := h
  refine z_if_ne C 14 dX4_stepBits_4 (by decide) o1 (fun c2 => ?_) (fun c2 => ?_)
  · have h := h.1 c2
    refine z_iload_n C 1 dX4_stepBits_14 rfl rfl ?_
    refine z_aload_n C 0 dX4_stepBits_15 rfl rfl ?_
    refine g_X4_4 C kf_X4_25 dX4_stepBits_16 ?_
    refine z_callN (av := fun w => [.int (zI (v1)), .int (zI (σ 6 4))]) C [] cs_X6_rest (mX6_rest v1 (σ 6 4)  σ _ h) kn_X4_93 dX4_stepBits_19 rfl rfl ⟨rfl, rfl⟩ ⟨by decide, by decide⟩ (Nat.le_of_ble_eq_true rfl) (fun rv σ3 hp => ?_)
    obtain ⟨a4, rfl, h⟩ := hp
    change zV x σ3 22 [(0, za x (6)), (1, .int (zI (v1)))] [.int (zI (a4))]
    refine z_istore_n C [(2, .int (zI (a4))), (0, za x (6)), (1, .int (zI (v1)))] dX4_stepBits_22 rfl (by rw [hN]; decide) rfl ?_
    refine z_iconst C dX4_stepBits_23 ?_
    refine z_bipush C dX4_stepBits_24 rfl ?_
    refine z_iload_n C 0 dX4_stepBits_26 rfl rfl ?_
    refine z_iadd C dX4_stepBits_27 ?_
    refine z_ishl C dX4_stepBits_28 ?_
    refine z_iconst C dX4_stepBits_29 ?_
    refine z_bipush C dX4_stepBits_30 rfl ?_
    refine z_iload_n C 0 dX4_stepBits_32 rfl rfl ?_
    refine z_iadd C dX4_stepBits_33 ?_
    refine z_aload_n C 1 dX4_stepBits_34 rfl rfl ?_
    refine g_X4_4 C kf_X4_25 dX4_stepBits_35 ?_
    refine z_isub C dX4_stepBits_38 ?_
    refine z_ishl C dX4_stepBits_39 ?_
    refine z_ior C dX4_stepBits_40 ?_
    exact z_iret C E dX4_stepBits_41 ⟨_, rfl, h⟩
  · have h := h.2 c2
    refine z_iconst C dX4_stepBits_7 ?_
    refine z_bipush C dX4_stepBits_8 rfl ?_
    refine z_iload_n C 1 dX4_stepBits_10 rfl rfl ?_
    refine z_iadd C dX4_stepBits_11 ?_
    refine z_ishl C dX4_stepBits_12 ?_
    exact z_iret C E dX4_stepBits_13 ⟨_, rfl, h⟩
def wX4_flipSteps_2 (k : Hp → Prop) : Nat → Int → Int → Hp → Prop
  | 0, _, _, _ => False
  | n + 1, v1, v2, σ => zrg v2 ∧ zrg v1 ∧ ((v1 < v2 → k σ) ∧ (¬ (v1 < v2) → (0 ≤ v2 ∧ v2 < 12) ∧ (0 ≤ v1 ∧ v1 < 12) ∧ (0 ≤ v1 - v2 ∧ v1 - v2 < 12) ∧ wX4_stepBits ((σ 7 v1.toNat) - (σ 7 (v1 - v2).toNat)) σ (fun a8 σ7 => wX4_flipSteps_2 k n v1 (v2 + 1) (zst σ7 8 v2.toNat (zxor (σ 8 v2.toNat) a8)))))
set_option maxRecDepth 100000 in
theorem sX4_flipSteps_2 {x : Cx} (C : zOk x cX4_flipSteps RX4 (none) (3) (65)) (hN : x.2.2.2.2.1 = 3) {k : Hp → Prop} (E : zEnd x (zPv k x.2.1)) : ∀ (n : Nat) (v1 : Int) (v2 : Int) (σ : Hp), wX4_flipSteps_2 k n v1 v2 σ → zV x σ 2 [(0, za x (6)), (1, .int (zI (v1))), (2, .int (zI (v2)))] [] := by
  intro n
  induction n with
  | zero => intro _ _ _ h; exact h.elim
  | succ n ih =>
    intro v1 v2 σ h
    unfold wX4_flipSteps_2 at h
    refine z_iload_n C 2 dX4_flipSteps_2 rfl rfl ?_
    refine z_iload_n C 1 dX4_flipSteps_3 rfl rfl ?_
    obtain ⟨o1, h⟩ := h
    obtain ⟨o2, h⟩ := h
    refine z_icmp_gt C 41 dX4_flipSteps_4 (by decide) o1 o2 (fun c3 => ?_) (fun c3 => ?_)
    · have h := h.1 c3
      exact z_vret C E dX4_flipSteps_41 ⟨rfl, h⟩
    · have h := h.2 c3
      refine z_aload_n C 0 dX4_flipSteps_7 rfl rfl ?_
      refine g_X4_1 C kf_X4_15 dX4_flipSteps_8 ?_
      refine z_iload_n C 2 dX4_flipSteps_11 rfl rfl ?_
      refine z_dup2 C dX4_flipSteps_12 rfl rfl ?_
      obtain ⟨o4, h⟩ := h
      refine z_iald C ia_8 dX4_flipSteps_13 o4.1 o4.2 ?_
      refine z_aload_n C 0 dX4_flipSteps_14 rfl rfl ?_
      refine z_aload_n C 0 dX4_flipSteps_15 rfl rfl ?_
      refine g_X4_0 C kf_X4_9 dX4_flipSteps_16 ?_
      refine z_iload_n C 1 dX4_flipSteps_19 rfl rfl ?_
      obtain ⟨o5, h⟩ := h
      refine z_iald C ia_7 dX4_flipSteps_20 o5.1 o5.2 ?_
      refine z_aload_n C 0 dX4_flipSteps_21 rfl rfl ?_
      refine g_X4_0 C kf_X4_9 dX4_flipSteps_22 ?_
      refine z_iload_n C 1 dX4_flipSteps_25 rfl rfl ?_
      refine z_iload_n C 2 dX4_flipSteps_26 rfl rfl ?_
      refine z_isub C dX4_flipSteps_27 ?_
      obtain ⟨o6, h⟩ := h
      refine z_iald C ia_7 dX4_flipSteps_28 o6.1 o6.2 ?_
      refine z_isub C dX4_flipSteps_29 ?_
      refine z_callV (av := fun w => [.int (zI ((σ 7 v1.toNat) - (σ 7 (v1 - v2).toNat)))]) C [.int (zI (σ 8 v2.toNat)), .int (zI (v2)), za x (8)] cs_X4_stepBits (by decide) (fun _ _ => rfl) rfl (mX4_stepBits ((σ 7 v1.toNat) - (σ 7 (v1 - v2).toNat))  σ _ h) km_X4_90 dX4_flipSteps_30 rfl rfl ⟨rfl, rfl⟩ ⟨by decide, by decide⟩ (Nat.le_of_ble_eq_true rfl) (fun rv σ7 hp => ?_)
      obtain ⟨a8, rfl, h⟩ := hp
      change zV x σ7 33 [(0, za x (6)), (1, .int (zI (v1))), (2, .int (zI (v2)))] [.int (zI (a8)), .int (zI (σ 8 v2.toNat)), .int (zI (v2)), za x (8)]
      refine z_ixor C dX4_flipSteps_33 ?_
      refine z_iast C ia_8 dX4_flipSteps_34 o4.1 o4.2 ?_
      refine z_iinc C 2 [(2, .int (zI (v2 + 1))), (0, za x (6)), (1, .int (zI (v1)))] dX4_flipSteps_35 rfl (by rw [hN]; decide) rfl ?_
      refine z_goto C 2 dX4_flipSteps_38 (by decide) ?_
      refine z_sub C [1, 2, 0] [(0, za x (6)), (1, .int (zI (v1))), (2, .int (zI (v2 + 1)))] rfl ?_
      exact ih v1 (v2 + 1)  (zst σ7 8 v2.toNat (zxor (σ 8 v2.toNat) a8)) h
def wX4_flipSteps (v1 : Int) (σ : Hp) (k : Hp → Prop) : Prop :=
  (∃ N1, wX4_flipSteps_2 k N1 v1 1 σ)
set_option maxRecDepth 100000 in
theorem mX4_flipSteps (v1 : Int) (σ : Hp) (k : Hp → Prop) (h : wX4_flipSteps v1 σ k) (l : Launch) : zMt l yX4_flipSteps cX4_flipSteps 3 (none) { frames := 3, cells := 0, slots := 0, locals := 65 } (fun w => [.ref (w.2.1 (6)), .int (zI (v1))]) σ (zPv k) := by
  refine zMt_of (plainFor_of_name (by decide)) (fun w => Nat.le_of_ble_eq_true rfl) (fun x hl hN C E => ?_)
  change zV x σ 0 [(0, za x (6)), (1, .int (zI (v1)))] []
  change zOk x cX4_flipSteps RX4 (none) (3) (65) at C
  unfold wX4_flipSteps at h
  refine z_iconst C dX4_flipSteps_0 ?_
  refine z_istore_n C [(2, .int (zI (1))), (0, za x (6)), (1, .int (zI (v1)))] dX4_flipSteps_1 rfl (by rw [hN]; decide) rfl ?_
  refine z_sub C [1, 2, 0] [(0, za x (6)), (1, .int (zI (v1))), (2, .int (zI (1)))] rfl ?_
  obtain ⟨n1, h⟩ := h
  exact sX4_flipSteps_2 C hN E n1 v1 1  σ h
def wX4_freeLines_14 (k : Int → Hp → Prop) : Nat → Int → Int → Int → Hp → Prop
  | 0, _, _, _, _ => False
  | n + 1, v1, v3, v4, σ => zrg v4 ∧ zrg v1 ∧ ((v1 < v4 → k v3 σ) ∧ (¬ (v1 < v4) → zrg v3 ∧ ((v3 = 0 → k v3 σ) ∧ (¬ (v3 = 0) → (0 ≤ v4 ∧ v4 < 12) ∧ (0 ≤ v1 - v4 ∧ v1 - v4 < 12) ∧ wX4_freeLines_14 k n v1 (zand v3 (zxor (zushr (σ 8 v4.toNat) (12 - (σ 7 (v1 - v4).toNat))) ((-1)))) (v4 + 1) σ))))
set_option maxRecDepth 100000 in
theorem sX4_freeLines_14 {x : Cx} (C : zOk x cX4_freeLines RX4 (some .int) (0) (0)) (hN : x.2.2.2.2.1 = 5) {k : Int → Hp → Prop} (E : zEnd x (zPi k x.2.1)) : ∀ (n : Nat) (v1 : Int) (v3 : Int) (v4 : Int) (σ : Hp), wX4_freeLines_14 k n v1 v3 v4 σ → zV x σ 14 [(0, za x (6)), (1, .int (zI (v1))), (3, .int (zI (v3))), (4, .int (zI (v4)))] [] := by
  intro n
  induction n with
  | zero => intro _ _ _ _ h; exact h.elim
  | succ n ih =>
    intro v1 v3 v4 σ h
    unfold wX4_freeLines_14 at h
    refine z_iload C 3 dX4_freeLines_14 rfl ?_
    refine z_iload_n C 1 dX4_freeLines_16 rfl rfl ?_
    obtain ⟨o1, h⟩ := h
    obtain ⟨o2, h⟩ := h
    refine z_icmp_gt C 55 dX4_freeLines_17 (by decide) o1 o2 (fun c3 => ?_) (fun c3 => ?_)
    · have h := h.1 c3
      refine z_iload_n C 2 dX4_freeLines_55 rfl rfl ?_
      exact z_iret C E dX4_freeLines_56 ⟨_, rfl, h⟩
    · have h := h.2 c3
      refine z_iload_n C 2 dX4_freeLines_20 rfl rfl ?_
      obtain ⟨o4, h⟩ := h
      refine z_if_eq C 55 dX4_freeLines_21 (by decide) o4 (fun c5 => ?_) (fun c5 => ?_)
      · have h := h.1 c5
        refine z_iload_n C 2 dX4_freeLines_55 rfl rfl ?_
        exact z_iret C E dX4_freeLines_56 ⟨_, rfl, h⟩
      · have h := h.2 c5
        refine z_iload_n C 2 dX4_freeLines_24 rfl rfl ?_
        refine z_aload_n C 0 dX4_freeLines_25 rfl rfl ?_
        refine g_X4_1 C kf_X4_15 dX4_freeLines_26 ?_
        refine z_iload C 3 dX4_freeLines_29 rfl ?_
        obtain ⟨o6, h⟩ := h
        refine z_iald C ia_8 dX4_freeLines_31 o6.1 o6.2 ?_
        refine z_bipush C dX4_freeLines_32 rfl ?_
        refine z_aload_n C 0 dX4_freeLines_34 rfl rfl ?_
        refine g_X4_0 C kf_X4_9 dX4_freeLines_35 ?_
        refine z_iload_n C 1 dX4_freeLines_38 rfl rfl ?_
        refine z_iload C 3 dX4_freeLines_39 rfl ?_
        refine z_isub C dX4_freeLines_41 ?_
        obtain ⟨o7, h⟩ := h
        refine z_iald C ia_7 dX4_freeLines_42 o7.1 o7.2 ?_
        refine z_isub C dX4_freeLines_43 ?_
        refine z_iushr C dX4_freeLines_44 ?_
        refine z_iconst C dX4_freeLines_45 ?_
        refine z_ixor C dX4_freeLines_46 ?_
        refine z_iand C dX4_freeLines_47 ?_
        refine z_istore_n C [(3, .int (zI (zand v3 (zxor (zushr (σ 8 v4.toNat) (12 - (σ 7 (v1 - v4).toNat))) ((-1)))))), (0, za x (6)), (1, .int (zI (v1))), (4, .int (zI (v4)))] dX4_freeLines_48 rfl (by rw [hN]; decide) rfl ?_
        refine z_iinc C 3 [(4, .int (zI (v4 + 1))), (3, .int (zI (zand v3 (zxor (zushr (σ 8 v4.toNat) (12 - (σ 7 (v1 - v4).toNat))) ((-1)))))), (0, za x (6)), (1, .int (zI (v1)))] dX4_freeLines_49 rfl (by rw [hN]; decide) rfl ?_
        refine z_goto C 14 dX4_freeLines_52 (by decide) ?_
        refine z_sub C [2, 3, 1, 0] [(0, za x (6)), (1, .int (zI (v1))), (3, .int (zI (zand v3 (zxor (zushr (σ 8 v4.toNat) (12 - (σ 7 (v1 - v4).toNat))) ((-1)))))), (4, .int (zI (v4 + 1)))] rfl ?_
        exact ih v1 (zand v3 (zxor (zushr (σ 8 v4.toNat) (12 - (σ 7 (v1 - v4).toNat))) ((-1)))) (v4 + 1)  σ h
def wX4_freeLines (v1 : Int) (v2 : Int) (σ : Hp) (k : Int → Hp → Prop) : Prop :=
  (0 ≤ v1 ∧ v1 < 12) ∧ (∃ N2, wX4_freeLines_14 k N2 v1 (zand (σ 9 v1.toNat) (zxor v2 ((-1)))) 1 σ)
set_option maxRecDepth 100000 in
theorem mX4_freeLines (v1 : Int) (v2 : Int) (σ : Hp) (k : Int → Hp → Prop) (h : wX4_freeLines v1 v2 σ k) (l : Launch) : zMt l yX4_freeLines cX4_freeLines 5 (some .int) { frames := 0, cells := 0, slots := 0, locals := 0 } (fun w => [.ref (w.2.1 (6)), .int (zI (v1)), .int (zI (v2))]) σ (zPi k) := by
  refine zMt_of (plainFor_of_name (by decide)) (fun w => Nat.le_of_ble_eq_true rfl) (fun x hl hN C E => ?_)
  change zV x σ 0 [(0, za x (6)), (1, .int (zI (v1))), (2, .int (zI (v2)))] []
  change zOk x cX4_freeLines RX4 (some .int) (0) (0) at C
  unfold wX4_freeLines at h
  refine z_aload_n C 0 dX4_freeLines_0 rfl rfl ?_
  refine g_X4_2 C kf_X4_18 dX4_freeLines_1 ?_
  refine z_iload_n C 1 dX4_freeLines_4 rfl rfl ?_
  obtain ⟨o1, h⟩ := h
  refine z_iald C ia_9 dX4_freeLines_5 o1.1 o1.2 ?_
  refine z_iload_n C 2 dX4_freeLines_6 rfl rfl ?_
  refine z_iconst C dX4_freeLines_7 ?_
  refine z_ixor C dX4_freeLines_8 ?_
  refine z_iand C dX4_freeLines_9 ?_
  refine z_istore_n C [(3, .int (zI (zand (σ 9 v1.toNat) (zxor v2 ((-1)))))), (0, za x (6)), (1, .int (zI (v1))), (2, .int (zI (v2)))] dX4_freeLines_10 rfl (by rw [hN]; decide) rfl ?_
  refine z_iconst C dX4_freeLines_11 ?_
  refine z_istore C [(4, .int (zI (1))), (3, .int (zI (zand (σ 9 v1.toNat) (zxor v2 ((-1)))))), (0, za x (6)), (1, .int (zI (v1))), (2, .int (zI (v2)))] dX4_freeLines_12 (by rw [hN]; decide) rfl ?_
  refine z_sub C [2, 3, 1, 0] [(0, za x (6)), (1, .int (zI (v1))), (3, .int (zI (zand (σ 9 v1.toNat) (zxor v2 ((-1)))))), (4, .int (zI (1)))] rfl ?_
  obtain ⟨n2, h⟩ := h
  exact sX4_freeLines_14 C hN E n2 v1 (zand (σ 9 v1.toNat) (zxor v2 ((-1)))) 1  σ h
def wX4_walk_101 (rc : Int → Int → Hp → (Int → Hp → Prop) → Prop) (k : Int → Hp → Prop) (K49 : Int → Int → Int → Int → Hp → Prop) (v1 : Int) (v2 : Int) (v3 : Int) (v4 : Int) (t0 : Int) (t1 : Int) (σ : Hp) : Prop :=
  rc t1 t0 σ (fun a2 σ1 => zrg a2 ∧ ((a2 = 0 → wX4_flipSteps v1 σ1 (fun σ5 => K49 v1 v2 v3 (v4 + 1) σ5)) ∧ (¬ (a2 = 0) → k 1 σ1)))
set_option maxRecDepth 100000 in
theorem sX4_walk_101 {x : Cx} {d : Nat} (C : zOk x cX4_walk RX4 (some .boolean) (4 + (d + 1)) (87 + (d + 1) * 24)) (hN : x.2.2.2.2.1 = 5) {k : Int → Hp → Prop} (E : zEnd x (zPi k x.2.1)) {rc : Int → Int → Hp → (Int → Hp → Prop) → Prop} (Hrc : ∀ (v1 : Int) (v2 : Int) (σ : Hp) (k : Int → Hp → Prop), rc v1 v2 σ k → ∀ l, zMt l yX4_walk cX4_walk 5 (some .boolean) { frames := 4 + d, cells := 0, slots := 0, locals := 87 + d * 24 } (fun w => [.ref (w.2.1 (6)), .int (zI (v1)), .int (zI (v2))]) σ (zPi k)) {K49 : Int → Int → Int → Int → Hp → Prop} (H49 : ∀ (v1 : Int) (v2 : Int) (v3 : Int) (v4 : Int) (σ : Hp), K49 v1 v2 v3 v4 σ → zV x σ 49 [(0, za x (6)), (1, .int (zI (v1))), (2, .int (zI (v2))), (3, .int (zI (v3))), (4, .int (zI (v4)))] []) (v1 : Int) (v2 : Int) (v3 : Int) (v4 : Int) (t0 : Int) (t1 : Int) (σ : Hp) (h : wX4_walk_101 rc k K49 v1 v2 v3 v4 t0 t1 σ) : zV x σ 101 [(0, za x (6)), (1, .int (zI (v1))), (2, .int (zI (v2))), (3, .int (zI (v3))), (4, .int (zI (v4)))] [.int (zI (t0)), .int (zI (t1)), za x (6)] := by
  unfold wX4_walk_101 at h
  refine z_callV (av := fun w => [.int (zI (t1)), .int (zI (t0))]) C [] cs_X4_walk (by decide) (fun _ _ => rfl) rfl (Hrc t1 t0  σ _ h) km_X4_63 dX4_walk_101 rfl rfl ⟨rfl, rfl⟩ (by refine ⟨?_, ?_⟩ <;> dsimp only <;> omega) (Nat.le_of_ble_eq_true rfl) (fun rv σ1 hp => ?_)
  obtain ⟨a2, rfl, h⟩ := hp
  change zV x σ1 104 [(0, za x (6)), (1, .int (zI (v1))), (2, .int (zI (v2))), (3, .int (zI (v3))), (4, .int (zI (v4)))] [.int (zI (a2))]
  obtain ⟨o3, h⟩ := h
  refine z_if_eq C 109 dX4_walk_104 (by decide) o3 (fun c4 => ?_) (fun c4 => ?_)
  · have h := h.1 c4
    refine z_aload_n C 0 dX4_walk_109 rfl rfl ?_
    refine z_iload_n C 1 dX4_walk_110 rfl rfl ?_
    refine z_callV (av := fun w => [.int (zI (v1))]) C [] cs_X4_flipSteps (by decide) (fun _ _ => rfl) rfl (mX4_flipSteps v1  σ1 _ h) km_X4_87 dX4_walk_111 rfl rfl ⟨rfl, rfl⟩ (by refine ⟨?_, ?_⟩ <;> dsimp only <;> omega) (Nat.le_of_ble_eq_true rfl) (fun rv σ5 hp => ?_)
    obtain ⟨rfl, h⟩ := hp
    change zV x σ5 114 [(0, za x (6)), (1, .int (zI (v1))), (2, .int (zI (v2))), (3, .int (zI (v3))), (4, .int (zI (v4)))] []
    refine z_iinc C 4 [(4, .int (zI (v4 + 1))), (0, za x (6)), (1, .int (zI (v1))), (2, .int (zI (v2))), (3, .int (zI (v3)))] dX4_walk_114 rfl (by rw [hN]; decide) rfl ?_
    refine z_goto C 49 dX4_walk_117 (by decide) ?_
    refine z_sub C [1, 2, 3, 4, 0] [(0, za x (6)), (1, .int (zI (v1))), (2, .int (zI (v2))), (3, .int (zI (v3))), (4, .int (zI (v4 + 1)))] rfl ?_
    exact H49 v1 v2 v3 (v4 + 1)  σ5 h
  · have h := h.2 c4
    refine z_iconst C dX4_walk_107 ?_
    exact z_zret C E dX4_walk_108 (by decide) ⟨_, rfl, h⟩
def wX4_walk_49 (rc : Int → Int → Hp → (Int → Hp → Prop) → Prop) (k : Int → Hp → Prop) : Nat → Int → Int → Int → Int → Hp → Prop
  | 0, _, _, _, _, _ => False
  | n + 1, v1, v2, v3, v4, σ => zrg v4 ∧ zrg (σ 6 4) ∧ ((σ 6 4 ≤ v4 → k 0 σ) ∧ (¬ (σ 6 4 ≤ v4) → zrg (zand (zshr v3 v4) 1) ∧ ((zand (zshr v3 v4) 1 = 0 → wX4_walk_49 rc k n v1 v2 v3 (v4 + 1) σ) ∧ (¬ (zand (zshr v3 v4) 1 = 0) → (0 ≤ v1 ∧ v1 < 12) ∧ wX4_flipSteps v1 (zst σ 7 v1.toNat v4) (fun σ7 => zrg (σ7 6 6) ∧ ((σ7 6 6 = 0 → wX4_walk_101 rc k (fun v1 v2 v3 v4 σ => wX4_walk_49 rc k n v1 v2 v3 v4 σ) v1 v2 v3 v4 0 (v1 + 1) σ7) ∧ (¬ (σ7 6 6 = 0) → wX4_walk_101 rc k (fun v1 v2 v3 v4 σ => wX4_walk_49 rc k n v1 v2 v3 v4 σ) v1 v2 v3 v4 (zor v2 (zshl 1 v4)) (v1 + 1) σ7)))))))
set_option maxRecDepth 100000 in
theorem sX4_walk_49 {x : Cx} {d : Nat} (C : zOk x cX4_walk RX4 (some .boolean) (4 + (d + 1)) (87 + (d + 1) * 24)) (hN : x.2.2.2.2.1 = 5) {k : Int → Hp → Prop} (E : zEnd x (zPi k x.2.1)) {rc : Int → Int → Hp → (Int → Hp → Prop) → Prop} (Hrc : ∀ (v1 : Int) (v2 : Int) (σ : Hp) (k : Int → Hp → Prop), rc v1 v2 σ k → ∀ l, zMt l yX4_walk cX4_walk 5 (some .boolean) { frames := 4 + d, cells := 0, slots := 0, locals := 87 + d * 24 } (fun w => [.ref (w.2.1 (6)), .int (zI (v1)), .int (zI (v2))]) σ (zPi k)) : ∀ (n : Nat) (v1 : Int) (v2 : Int) (v3 : Int) (v4 : Int) (σ : Hp), wX4_walk_49 rc k n v1 v2 v3 v4 σ → zV x σ 49 [(0, za x (6)), (1, .int (zI (v1))), (2, .int (zI (v2))), (3, .int (zI (v3))), (4, .int (zI (v4)))] [] := by
  intro n
  induction n with
  | zero => intro _ _ _ _ _ h; exact h.elim
  | succ n ih =>
    intro v1 v2 v3 v4 σ h
    unfold wX4_walk_49 at h
    refine z_iload C 4 dX4_walk_49 rfl ?_
    refine z_aload_n C 0 dX4_walk_51 rfl rfl ?_
    refine g_X4_4 C kf_X4_25 dX4_walk_52 ?_
    obtain ⟨o1, h⟩ := h
    obtain ⟨o2, h⟩ := h
    refine z_icmp_ge C 120 dX4_walk_55 (by decide) o1 o2 (fun c3 => ?_) (fun c3 => ?_)
    · have h := h.1 c3
      refine z_iconst C dX4_walk_120 ?_
      exact z_zret C E dX4_walk_121 (by decide) ⟨_, rfl, h⟩
    · have h := h.2 c3
      refine z_iload_n C 3 dX4_walk_58 rfl rfl ?_
      refine z_iload C 4 dX4_walk_59 rfl ?_
      refine z_ishr C dX4_walk_61 ?_
      refine z_iconst C dX4_walk_62 ?_
      refine z_iand C dX4_walk_63 ?_
      obtain ⟨o4, h⟩ := h
      refine z_if_eq C 114 dX4_walk_64 (by decide) o4 (fun c5 => ?_) (fun c5 => ?_)
      · have h := h.1 c5
        refine z_iinc C 4 [(4, .int (zI (v4 + 1))), (0, za x (6)), (1, .int (zI (v1))), (2, .int (zI (v2))), (3, .int (zI (v3)))] dX4_walk_114 rfl (by rw [hN]; decide) rfl ?_
        refine z_goto C 49 dX4_walk_117 (by decide) ?_
        refine z_sub C [1, 2, 3, 4, 0] [(0, za x (6)), (1, .int (zI (v1))), (2, .int (zI (v2))), (3, .int (zI (v3))), (4, .int (zI (v4 + 1)))] rfl ?_
        exact ih v1 v2 v3 (v4 + 1)  σ h
      · have h := h.2 c5
        refine z_aload_n C 0 dX4_walk_67 rfl rfl ?_
        refine g_X4_0 C kf_X4_9 dX4_walk_68 ?_
        refine z_iload_n C 1 dX4_walk_71 rfl rfl ?_
        refine z_iload C 4 dX4_walk_72 rfl ?_
        obtain ⟨o6, h⟩ := h
        refine z_iast C ia_7 dX4_walk_74 o6.1 o6.2 ?_
        refine z_aload_n C 0 dX4_walk_75 rfl rfl ?_
        refine z_iload_n C 1 dX4_walk_76 rfl rfl ?_
        refine z_callV (av := fun w => [.int (zI (v1))]) C [] cs_X4_flipSteps (by decide) (fun _ _ => rfl) rfl (mX4_flipSteps v1  (zst σ 7 v1.toNat v4) _ h) km_X4_87 dX4_walk_77 rfl rfl ⟨rfl, rfl⟩ (by refine ⟨?_, ?_⟩ <;> dsimp only <;> omega) (Nat.le_of_ble_eq_true rfl) (fun rv σ7 hp => ?_)
        obtain ⟨rfl, h⟩ := hp
        change zV x σ7 80 [(0, za x (6)), (1, .int (zI (v1))), (2, .int (zI (v2))), (3, .int (zI (v3))), (4, .int (zI (v4)))] []
        refine z_aload_n C 0 dX4_walk_80 rfl rfl ?_
        refine z_iload_n C 1 dX4_walk_81 rfl rfl ?_
        refine z_iconst C dX4_walk_82 ?_
        refine z_iadd C dX4_walk_83 ?_
        refine z_aload_n C 0 dX4_walk_84 rfl rfl ?_
        refine g_X4_6 C kf_X4_35 dX4_walk_85 ?_
        obtain ⟨o8, h⟩ := h
        refine z_if_eq C 100 dX4_walk_88 (by decide) o8 (fun c9 => ?_) (fun c9 => ?_)
        · have h := h.1 c9
          refine z_iconst C dX4_walk_100 ?_
          exact sX4_walk_101 C hN E (rc := rc) Hrc (by intro v1 v2 v3 v4 σ h; exact ih v1 v2 v3 v4  σ h) v1 v2 v3 v4 0 (v1 + 1)  σ7 h
        · have h := h.2 c9
          refine z_iload_n C 2 dX4_walk_91 rfl rfl ?_
          refine z_iconst C dX4_walk_92 ?_
          refine z_iload C 4 dX4_walk_93 rfl ?_
          refine z_ishl C dX4_walk_95 ?_
          refine z_ior C dX4_walk_96 ?_
          refine z_goto C 101 dX4_walk_97 (by decide) ?_
          exact sX4_walk_101 C hN E (rc := rc) Hrc (by intro v1 v2 v3 v4 σ h; exact ih v1 v2 v3 v4  σ h) v1 v2 v3 v4 (zor v2 (zshl 1 v4)) (v1 + 1)  σ7 h
def wX4_walk_0 (rc : Int → Int → Hp → (Int → Hp → Prop) → Prop) (v1 : Int) (v2 : Int) (σ : Hp) (k : Int → Hp → Prop) : Prop :=
  wX6_within v1 0 ((σ 6 3) - 1) σ (fun a2 σ1 => zrg a2 ∧ ((a2 = 0 → k 0 σ1) ∧ (¬ (a2 = 0) → zrg v1 ∧ ((v1 < 12 → wX4_freeLines v1 v2 σ1 (fun a8 σ7 => zrg ((σ7 6 3) - 1) ∧ ((v1 ≠ (σ7 6 3) - 1 → (∃ N11, wX4_walk_49 rc k N11 v1 v2 a8 0 σ7)) ∧ (¬ (v1 ≠ (σ7 6 3) - 1) → wX4_endIn v1 a8 σ7 (fun a13 σ12 => (a13 = 0 ∨ a13 = 1) ∧ k a13 σ12))))) ∧ (¬ (v1 < 12) → k 0 σ1)))))
def wX4_walk : Nat → Int → Int → Hp → (Int → Hp → Prop) → Prop
  | 0, _, _, _, _ => False
  | d + 1, v1, v2, σ, k => wX4_walk_0 (wX4_walk d) v1 v2 σ k
set_option maxRecDepth 100000 in
theorem mX4_walk : ∀ (d : Nat) (v1 : Int) (v2 : Int) (σ : Hp) (k : Int → Hp → Prop) (_ : wX4_walk d v1 v2 σ k) (l : Launch), zMt l yX4_walk cX4_walk 5 (some .boolean) { frames := 4 + d, cells := 0, slots := 0, locals := 87 + d * 24 } (fun w => [.ref (w.2.1 (6)), .int (zI (v1)), .int (zI (v2))]) σ (zPi k) := by
  intro d
  induction d with
  | zero => intro _ _ _ _ h; exact h.elim
  | succ d ih =>
    intro v1 v2 σ k h l
    refine zMt_of (plainFor_of_name (by decide)) (fun w => Nat.le_of_ble_eq_true rfl) (fun x hl hN C E => ?_)
    change zV x σ 0 [(0, za x (6)), (1, .int (zI (v1))), (2, .int (zI (v2)))] []
    change zOk x cX4_walk RX4 (some .boolean) (4 + (d + 1)) (87 + (d + 1) * 24) at C
    have Hrc := ih
    unfold wX4_walk wX4_walk_0 at h
    refine z_iload_n C 1 dX4_walk_0 rfl rfl ?_
    refine z_iconst C dX4_walk_1 ?_
    refine z_aload_n C 0 dX4_walk_2 rfl rfl ?_
    refine g_X4_3 C kf_X4_21 dX4_walk_3 ?_
    refine z_iconst C dX4_walk_6 ?_
    refine z_isub C dX4_walk_7 ?_
    refine z_callN (av := fun w => [.int (zI (v1)), .int (zI (0)), .int (zI ((σ 6 3) - 1))]) C [] cs_X6_within (mX6_within v1 0 ((σ 6 3) - 1)  σ _ h) kn_X4_28 dX4_walk_8 rfl rfl ⟨rfl, rfl⟩ (by refine ⟨?_, ?_⟩ <;> dsimp only <;> omega) (Nat.le_of_ble_eq_true rfl) (fun rv σ1 hp => ?_)
    obtain ⟨a2, rfl, h⟩ := hp
    change zV x σ1 11 [(0, za x (6)), (1, .int (zI (v1))), (2, .int (zI (v2)))] [.int (zI (a2))]
    obtain ⟨o3, h⟩ := h
    refine z_if_eq C 20 dX4_walk_11 (by decide) o3 (fun c4 => ?_) (fun c4 => ?_)
    · have h := h.1 c4
      refine z_iconst C dX4_walk_20 ?_
      exact z_zret C E dX4_walk_21 (by decide) ⟨_, rfl, h⟩
    · have h := h.2 c4
      refine z_iload_n C 1 dX4_walk_14 rfl rfl ?_
      refine z_bipush C dX4_walk_15 rfl ?_
      obtain ⟨o5, h⟩ := h
      refine z_icmp_lt C 22 dX4_walk_17 (by decide) o5 (zrg_d rfl) (fun c6 => ?_) (fun c6 => ?_)
      · have h := h.1 c6
        refine z_aload_n C 0 dX4_walk_22 rfl rfl ?_
        refine z_iload_n C 1 dX4_walk_23 rfl rfl ?_
        refine z_iload_n C 2 dX4_walk_24 rfl rfl ?_
        refine z_callV (av := fun w => [.int (zI (v1)), .int (zI (v2))]) C [] cs_X4_freeLines (by decide) (fun _ _ => rfl) rfl (mX4_freeLines v1 v2  σ1 _ h) km_X4_80 dX4_walk_25 rfl rfl ⟨rfl, rfl⟩ (by refine ⟨?_, ?_⟩ <;> dsimp only <;> omega) (Nat.le_of_ble_eq_true rfl) (fun rv σ7 hp => ?_)
        obtain ⟨a8, rfl, h⟩ := hp
        change zV x σ7 28 [(0, za x (6)), (1, .int (zI (v1))), (2, .int (zI (v2)))] [.int (zI (a8))]
        refine z_istore_n C [(3, .int (zI (a8))), (0, za x (6)), (1, .int (zI (v1))), (2, .int (zI (v2)))] dX4_walk_28 rfl (by rw [hN]; decide) rfl ?_
        refine z_iload_n C 2 dX4_walk_29 rfl rfl ?_
        refine z_aload_n C 1 dX4_walk_30 rfl rfl ?_
        refine g_X4_3 C kf_X4_21 dX4_walk_31 ?_
        refine z_iconst C dX4_walk_34 ?_
        refine z_isub C dX4_walk_35 ?_
        obtain ⟨o9, h⟩ := h
        refine z_icmp_ne C 46 dX4_walk_36 (by decide) o5 o9 (fun c10 => ?_) (fun c10 => ?_)
        · have h := h.1 c10
          refine z_iconst C dX4_walk_46 ?_
          refine z_istore C [(4, .int (zI (0))), (3, .int (zI (a8))), (0, za x (6)), (1, .int (zI (v1))), (2, .int (zI (v2)))] dX4_walk_47 (by rw [hN]; decide) rfl ?_
          refine z_sub C [2, 3, 4, 1, 0] [(0, za x (6)), (1, .int (zI (v1))), (2, .int (zI (v2))), (3, .int (zI (a8))), (4, .int (zI (0)))] rfl ?_
          obtain ⟨n11, h⟩ := h
          exact sX4_walk_49 C hN E (rc := wX4_walk d) Hrc n11 v1 v2 a8 0  σ7 h
        · have h := h.2 c10
          refine z_aload_n C 1 dX4_walk_39 rfl rfl ?_
          refine z_iload_n C 2 dX4_walk_40 rfl rfl ?_
          refine z_iload_n C 0 dX4_walk_41 rfl rfl ?_
          refine z_callV (av := fun w => [.int (zI (v1)), .int (zI (a8))]) C [] cs_X4_endIn (by decide) (fun _ _ => rfl) rfl (mX4_endIn v1 a8  σ7 _ h) km_X4_84 dX4_walk_42 rfl rfl ⟨rfl, rfl⟩ (by refine ⟨?_, ?_⟩ <;> dsimp only <;> omega) (Nat.le_of_ble_eq_true rfl) (fun rv σ12 hp => ?_)
          obtain ⟨a13, rfl, h⟩ := hp
          change zV x σ12 45 [(3, .int (zI (a8))), (0, za x (6)), (1, .int (zI (v1))), (2, .int (zI (v2)))] [.int (zI (a13))]
          obtain ⟨o14, h⟩ := h
          exact z_zret C E dX4_walk_45 o14 ⟨_, rfl, h⟩
      · have h := h.2 c6
        refine z_iconst C dX4_walk_20 ?_
        exact z_zret C E dX4_walk_21 (by decide) ⟨_, rfl, h⟩
def wdX4_walk (v1 : Int) (v2 : Int) (σ : Hp) (k : Int → Hp → Prop) : Prop := wX4_walk 13 v1 v2 σ k
theorem mdX4_walk (v1 : Int) (v2 : Int) (σ : Hp) (k : Int → Hp → Prop) (h : wdX4_walk v1 v2 σ k) (l : Launch) : zMt l yX4_walk cX4_walk 5 (some .boolean) { frames := 17, cells := 0, slots := 0, locals := 399 } (fun w => [.ref (w.2.1 (6)), .int (zI (v1)), .int (zI (v2))]) σ (zPi k) := mX4_walk 13 v1 v2  σ k h l
def wX4_countAll (σ : Hp) (k : Int → Hp → Prop) : Prop :=
  wX4_begin ((-1)) σ (fun σ1 => wdX4_walk 0 0 σ1 (fun a3 σ2 => k (σ2 6 8) σ2))
set_option maxRecDepth 100000 in
theorem mX4_countAll (σ : Hp) (k : Int → Hp → Prop) (h : wX4_countAll  σ k) (l : Launch) : zMt l yX4_countAll cX4_countAll 1 (some .int) { frames := 18, cells := 0, slots := 0, locals := 423 } (fun w => [.ref (w.2.1 (6))]) σ (zPi k) := by
  refine zMt_of (plainFor_of_name (by decide)) (fun w => Nat.le_of_ble_eq_true rfl) (fun x hl hN C E => ?_)
  change zV x σ 0 [(0, za x (6))] []
  change zOk x cX4_countAll RX4 (some .int) (18) (423) at C
  unfold wX4_countAll at h
  refine z_aload_n C 0 dX4_countAll_0 rfl rfl ?_
  refine z_iconst C dX4_countAll_1 ?_
  refine z_callV (av := fun w => [.int (zI ((-1)))]) C [] cs_X4_begin (by decide) (fun _ _ => rfl) rfl (mX4_begin ((-1))  σ _ h) km_X4_59 dX4_countAll_2 rfl rfl ⟨rfl, rfl⟩ ⟨by decide, by decide⟩ (Nat.le_of_ble_eq_true rfl) (fun rv σ1 hp => ?_)
  obtain ⟨rfl, h⟩ := hp
  change zV x σ1 5 [(0, za x (6))] []
  refine z_aload_n C 0 dX4_countAll_5 rfl rfl ?_
  refine z_iconst C dX4_countAll_6 ?_
  refine z_iconst C dX4_countAll_7 ?_
  refine z_callV (av := fun w => [.int (zI (0)), .int (zI (0))]) C [] cs_X4_walk (by decide) (fun _ _ => rfl) rfl (mdX4_walk 0 0  σ1 _ h) km_X4_63 dX4_countAll_8 rfl rfl ⟨rfl, rfl⟩ ⟨by decide, by decide⟩ (Nat.le_of_ble_eq_true rfl) (fun rv σ2 hp => ?_)
  obtain ⟨a3, rfl, h⟩ := hp
  change zV x σ2 11 [(0, za x (6))] [.int (zI (a3))]
  refine z_pop C dX4_countAll_11 rfl ?_
  refine z_aload_n C 0 dX4_countAll_12 rfl rfl ?_
  refine g_X4_8 C kf_X4_67 dX4_countAll_13 ?_
  exact z_iret C E dX4_countAll_16 ⟨_, rfl, h⟩
def wX4_giveTo_14 (k : Hp → Prop) : Nat → Nat → Int → Hp → Prop
  | 0, _, _, _ => False
  | n + 1, r1, v2, σ => zrg v2 ∧ zrg (σ 6 3) ∧ ((σ 6 3 ≤ v2 → k σ) ∧ (¬ (σ 6 3 ≤ v2) → ((12 ≤ v2 → k σ) ∧ (¬ (12 ≤ v2) → (0 ≤ v2 ∧ v2 < 12) ∧ wX3_put r1 v2 (σ 7 v2.toNat) σ (fun σ6 => wX4_giveTo_14 k n r1 (v2 + 1) σ6)))))
set_option maxRecDepth 100000 in
theorem sX4_giveTo_14 {x : Cx} (C : zOk x cX4_giveTo RX4 (none) (2) (45)) (hN : x.2.2.2.2.1 = 3) {k : Hp → Prop} (E : zEnd x (zPv k x.2.1)) : ∀ (n : Nat) (r1 : Nat) (v2 : Int) (hr1 : r1 < 7) (σ : Hp), wX4_giveTo_14 k n r1 v2 σ → zV x σ 14 [(0, za x (6)), (1, za x (29 + r1)), (2, .int (zI (v2)))] [] := by
  intro n
  induction n with
  | zero => intro _ _ _ _ h; exact h.elim
  | succ n ih =>
    intro r1 v2 hr1 σ h
    unfold wX4_giveTo_14 at h
    refine z_iload_n C 2 dX4_giveTo_14 rfl rfl ?_
    refine z_aload_n C 0 dX4_giveTo_15 rfl rfl ?_
    refine g_X4_3 C kf_X4_21 dX4_giveTo_16 ?_
    obtain ⟨o1, h⟩ := h
    obtain ⟨o2, h⟩ := h
    refine z_icmp_ge C 45 dX4_giveTo_19 (by decide) o1 o2 (fun c3 => ?_) (fun c3 => ?_)
    · have h := h.1 c3
      exact z_vret C E dX4_giveTo_45 ⟨rfl, h⟩
    · have h := h.2 c3
      refine z_iload_n C 2 dX4_giveTo_22 rfl rfl ?_
      refine z_bipush C dX4_giveTo_23 rfl ?_
      refine z_icmp_ge C 45 dX4_giveTo_25 (by decide) o1 (zrg_d rfl) (fun c4 => ?_) (fun c4 => ?_)
      · have h := h.1 c4
        exact z_vret C E dX4_giveTo_45 ⟨rfl, h⟩
      · have h := h.2 c4
        refine z_aload_n C 1 dX4_giveTo_28 rfl rfl ?_
        refine z_iload_n C 2 dX4_giveTo_29 rfl rfl ?_
        refine z_aload_n C 0 dX4_giveTo_30 rfl rfl ?_
        refine g_X4_0 C kf_X4_9 dX4_giveTo_31 ?_
        refine z_iload_n C 2 dX4_giveTo_34 rfl rfl ?_
        obtain ⟨o5, h⟩ := h
        refine z_iald C ia_7 dX4_giveTo_35 o5.1 o5.2 ?_
        refine z_callV (av := fun w => [.int (zI (v2)), .int (zI (σ 7 v2.toNat))]) C [] cs_X3_put (by have := hr1; omega) (zcell_row hr1) rfl (mX3_put r1 v2 (σ 7 v2.toNat) hr1 σ _ h) km_X4_74 dX4_giveTo_36 rfl rfl ⟨rfl, rfl⟩ ⟨by decide, by decide⟩ (Nat.le_of_ble_eq_true rfl) (fun rv σ6 hp => ?_)
        obtain ⟨rfl, h⟩ := hp
        change zV x σ6 39 [(0, za x (6)), (1, za x (29 + r1)), (2, .int (zI (v2)))] []
        refine z_iinc C 2 [(2, .int (zI (v2 + 1))), (0, za x (6)), (1, za x (29 + r1))] dX4_giveTo_39 rfl (by rw [hN]; decide) rfl ?_
        refine z_goto C 14 dX4_giveTo_42 (by decide) ?_
        refine z_sub C [1, 2, 0] [(0, za x (6)), (1, za x (29 + r1)), (2, .int (zI (v2 + 1)))] rfl ?_
        exact ih r1 (v2 + 1) hr1 σ6 h
def wX4_giveTo (r1 : Nat) (σ : Hp) (k : Hp → Prop) : Prop :=
  wX3_shape r1 (σ 6 3) (σ 6 4) σ (fun σ1 => (∃ N2, wX4_giveTo_14 k N2 r1 0 σ1))
set_option maxRecDepth 100000 in
theorem mX4_giveTo (r1 : Nat) (hr1 : r1 < 7) (σ : Hp) (k : Hp → Prop) (h : wX4_giveTo r1 σ k) (l : Launch) : zMt l yX4_giveTo cX4_giveTo 3 (none) { frames := 2, cells := 0, slots := 0, locals := 45 } (fun w => [.ref (w.2.1 (6)), .ref (w.2.1 (29 + r1))]) σ (zPv k) := by
  refine zMt_of (plainFor_of_name (by decide)) (fun w => Nat.le_of_ble_eq_true rfl) (fun x hl hN C E => ?_)
  change zV x σ 0 [(0, za x (6)), (1, za x (29 + r1))] []
  change zOk x cX4_giveTo RX4 (none) (2) (45) at C
  unfold wX4_giveTo at h
  refine z_aload_n C 1 dX4_giveTo_0 rfl rfl ?_
  refine z_aload_n C 0 dX4_giveTo_1 rfl rfl ?_
  refine g_X4_3 C kf_X4_21 dX4_giveTo_2 ?_
  refine z_aload_n C 0 dX4_giveTo_5 rfl rfl ?_
  refine g_X4_4 C kf_X4_25 dX4_giveTo_6 ?_
  refine z_callV (av := fun w => [.int (zI (σ 6 3)), .int (zI (σ 6 4))]) C [] cs_X3_shape (by have := hr1; omega) (zcell_row hr1) rfl (mX3_shape r1 (σ 6 3) (σ 6 4) hr1 σ _ h) km_X4_70 dX4_giveTo_9 rfl rfl ⟨rfl, rfl⟩ ⟨by decide, by decide⟩ (Nat.le_of_ble_eq_true rfl) (fun rv σ1 hp => ?_)
  obtain ⟨rfl, h⟩ := hp
  change zV x σ1 12 [(0, za x (6)), (1, za x (29 + r1))] []
  refine z_iconst C dX4_giveTo_12 ?_
  refine z_istore_n C [(2, .int (zI (0))), (0, za x (6)), (1, za x (29 + r1))] dX4_giveTo_13 rfl (by rw [hN]; decide) rfl ?_
  refine z_sub C [1, 2, 0] [(0, za x (6)), (1, za x (29 + r1)), (2, .int (zI (0)))] rfl ?_
  obtain ⟨n2, h⟩ := h
  exact sX4_giveTo_14 C hN E n2 r1 0 hr1 σ1 h
def wX4_keepMarksOf_2 (k : Hp → Prop) : Nat → Nat → Int → Hp → Prop
  | 0, _, _, _ => False
  | n + 1, r1, v2, σ => zrg v2 ∧ zrg (σ 6 3) ∧ ((σ 6 3 ≤ v2 → k σ) ∧ (¬ (σ 6 3 ≤ v2) → ((12 ≤ v2 → k σ) ∧ (¬ (12 ≤ v2) → wX3_markedAt r1 v2 σ (fun a6 σ5 => zrg a6 ∧ ((a6 = 0 → wX4_keepMarksOf_2 k n r1 (v2 + 1) σ5) ∧ (¬ (a6 = 0) → wX3_lineAt r1 v2 σ5 (fun a10 σ9 => (0 ≤ v2 ∧ v2 < 12) ∧ wX4_keepMarksOf_2 k n r1 (v2 + 1) (zst σ9 9 v2.toNat (zshl 1 a10))))))))))
set_option maxRecDepth 100000 in
theorem sX4_keepMarksOf_2 {x : Cx} (C : zOk x cX4_keepMarksOf RX4 (none) (3) (64)) (hN : x.2.2.2.2.1 = 3) {k : Hp → Prop} (E : zEnd x (zPv k x.2.1)) : ∀ (n : Nat) (r1 : Nat) (v2 : Int) (hr1 : r1 < 7) (σ : Hp), wX4_keepMarksOf_2 k n r1 v2 σ → zV x σ 2 [(0, za x (6)), (1, za x (29 + r1)), (2, .int (zI (v2)))] [] := by
  intro n
  induction n with
  | zero => intro _ _ _ _ h; exact h.elim
  | succ n ih =>
    intro r1 v2 hr1 σ h
    unfold wX4_keepMarksOf_2 at h
    refine z_iload_n C 2 dX4_keepMarksOf_2 rfl rfl ?_
    refine z_aload_n C 0 dX4_keepMarksOf_3 rfl rfl ?_
    refine g_X4_3 C kf_X4_21 dX4_keepMarksOf_4 ?_
    obtain ⟨o1, h⟩ := h
    obtain ⟨o2, h⟩ := h
    refine z_icmp_ge C 43 dX4_keepMarksOf_7 (by decide) o1 o2 (fun c3 => ?_) (fun c3 => ?_)
    · have h := h.1 c3
      exact z_vret C E dX4_keepMarksOf_43 ⟨rfl, h⟩
    · have h := h.2 c3
      refine z_iload_n C 2 dX4_keepMarksOf_10 rfl rfl ?_
      refine z_bipush C dX4_keepMarksOf_11 rfl ?_
      refine z_icmp_ge C 43 dX4_keepMarksOf_13 (by decide) o1 (zrg_d rfl) (fun c4 => ?_) (fun c4 => ?_)
      · have h := h.1 c4
        exact z_vret C E dX4_keepMarksOf_43 ⟨rfl, h⟩
      · have h := h.2 c4
        refine z_aload_n C 1 dX4_keepMarksOf_16 rfl rfl ?_
        refine z_iload_n C 2 dX4_keepMarksOf_17 rfl rfl ?_
        refine z_callV (av := fun w => [.int (zI (v2))]) C [] cs_X3_markedAt (by have := hr1; omega) (zcell_row hr1) rfl (mX3_markedAt r1 v2 hr1 σ _ h) km_X4_49 dX4_keepMarksOf_18 rfl rfl ⟨rfl, rfl⟩ ⟨by decide, by decide⟩ (Nat.le_of_ble_eq_true rfl) (fun rv σ5 hp => ?_)
        obtain ⟨a6, rfl, h⟩ := hp
        change zV x σ5 21 [(0, za x (6)), (1, za x (29 + r1)), (2, .int (zI (v2)))] [.int (zI (a6))]
        obtain ⟨o7, h⟩ := h
        refine z_if_eq C 37 dX4_keepMarksOf_21 (by decide) o7 (fun c8 => ?_) (fun c8 => ?_)
        · have h := h.1 c8
          refine z_iinc C 2 [(2, .int (zI (v2 + 1))), (0, za x (6)), (1, za x (29 + r1))] dX4_keepMarksOf_37 rfl (by rw [hN]; decide) rfl ?_
          refine z_goto C 2 dX4_keepMarksOf_40 (by decide) ?_
          refine z_sub C [1, 2, 0] [(0, za x (6)), (1, za x (29 + r1)), (2, .int (zI (v2 + 1)))] rfl ?_
          exact ih r1 (v2 + 1) hr1 σ5 h
        · have h := h.2 c8
          refine z_aload_n C 0 dX4_keepMarksOf_24 rfl rfl ?_
          refine g_X4_2 C kf_X4_18 dX4_keepMarksOf_25 ?_
          refine z_iload_n C 2 dX4_keepMarksOf_28 rfl rfl ?_
          refine z_iconst C dX4_keepMarksOf_29 ?_
          refine z_aload_n C 1 dX4_keepMarksOf_30 rfl rfl ?_
          refine z_iload_n C 2 dX4_keepMarksOf_31 rfl rfl ?_
          refine z_callV (av := fun w => [.int (zI (v2))]) C [.int (zI (1)), .int (zI (v2)), za x (9)] cs_X3_lineAt (by have := hr1; omega) (zcell_row hr1) rfl (mX3_lineAt r1 v2 hr1 σ5 _ h) km_X4_55 dX4_keepMarksOf_32 rfl rfl ⟨rfl, rfl⟩ ⟨by decide, by decide⟩ (Nat.le_of_ble_eq_true rfl) (fun rv σ9 hp => ?_)
          obtain ⟨a10, rfl, h⟩ := hp
          change zV x σ9 35 [(0, za x (6)), (1, za x (29 + r1)), (2, .int (zI (v2)))] [.int (zI (a10)), .int (zI (1)), .int (zI (v2)), za x (9)]
          refine z_ishl C dX4_keepMarksOf_35 ?_
          obtain ⟨o11, h⟩ := h
          refine z_iast C ia_9 dX4_keepMarksOf_36 o11.1 o11.2 ?_
          refine z_iinc C 2 [(2, .int (zI (v2 + 1))), (0, za x (6)), (1, za x (29 + r1))] dX4_keepMarksOf_37 rfl (by rw [hN]; decide) rfl ?_
          refine z_goto C 2 dX4_keepMarksOf_40 (by decide) ?_
          refine z_sub C [1, 2, 0] [(0, za x (6)), (1, za x (29 + r1)), (2, .int (zI (v2 + 1)))] rfl ?_
          exact ih r1 (v2 + 1) hr1 (zst σ9 9 v2.toNat (zshl 1 a10)) h
def wX4_keepMarksOf (r1 : Nat) (σ : Hp) (k : Hp → Prop) : Prop :=
  (∃ N1, wX4_keepMarksOf_2 k N1 r1 0 σ)
set_option maxRecDepth 100000 in
theorem mX4_keepMarksOf (r1 : Nat) (hr1 : r1 < 7) (σ : Hp) (k : Hp → Prop) (h : wX4_keepMarksOf r1 σ k) (l : Launch) : zMt l yX4_keepMarksOf cX4_keepMarksOf 3 (none) { frames := 3, cells := 0, slots := 0, locals := 64 } (fun w => [.ref (w.2.1 (6)), .ref (w.2.1 (29 + r1))]) σ (zPv k) := by
  refine zMt_of (plainFor_of_name (by decide)) (fun w => Nat.le_of_ble_eq_true rfl) (fun x hl hN C E => ?_)
  change zV x σ 0 [(0, za x (6)), (1, za x (29 + r1))] []
  change zOk x cX4_keepMarksOf RX4 (none) (3) (64) at C
  unfold wX4_keepMarksOf at h
  refine z_iconst C dX4_keepMarksOf_0 ?_
  refine z_istore_n C [(2, .int (zI (0))), (0, za x (6)), (1, za x (29 + r1))] dX4_keepMarksOf_1 rfl (by rw [hN]; decide) rfl ?_
  refine z_sub C [1, 2, 0] [(0, za x (6)), (1, za x (29 + r1)), (2, .int (zI (0)))] rfl ?_
  obtain ⟨n1, h⟩ := h
  exact sX4_keepMarksOf_2 C hN E n1 r1 0 hr1 σ h
def wX4_reach (v1 : Int) (σ : Hp) (k : Int → Hp → Prop) : Prop :=
  wX4_begin v1 σ (fun σ1 => wdX4_walk 0 0 σ1 (fun a3 σ2 => (a3 = 0 ∨ a3 = 1) ∧ k a3 σ2))
set_option maxRecDepth 100000 in
theorem mX4_reach (v1 : Int) (σ : Hp) (k : Int → Hp → Prop) (h : wX4_reach v1 σ k) (l : Launch) : zMt l yX4_reach cX4_reach 2 (some .boolean) { frames := 18, cells := 0, slots := 0, locals := 423 } (fun w => [.ref (w.2.1 (6)), .int (zI (v1))]) σ (zPi k) := by
  refine zMt_of (plainFor_of_name (by decide)) (fun w => Nat.le_of_ble_eq_true rfl) (fun x hl hN C E => ?_)
  change zV x σ 0 [(0, za x (6)), (1, .int (zI (v1)))] []
  change zOk x cX4_reach RX4 (some .boolean) (18) (423) at C
  unfold wX4_reach at h
  refine z_aload_n C 0 dX4_reach_0 rfl rfl ?_
  refine z_iload_n C 1 dX4_reach_1 rfl rfl ?_
  refine z_callV (av := fun w => [.int (zI (v1))]) C [] cs_X4_begin (by decide) (fun _ _ => rfl) rfl (mX4_begin v1  σ _ h) km_X4_59 dX4_reach_2 rfl rfl ⟨rfl, rfl⟩ ⟨by decide, by decide⟩ (Nat.le_of_ble_eq_true rfl) (fun rv σ1 hp => ?_)
  obtain ⟨rfl, h⟩ := hp
  change zV x σ1 5 [(0, za x (6)), (1, .int (zI (v1)))] []
  refine z_aload_n C 0 dX4_reach_5 rfl rfl ?_
  refine z_iconst C dX4_reach_6 ?_
  refine z_iconst C dX4_reach_7 ?_
  refine z_callV (av := fun w => [.int (zI (0)), .int (zI (0))]) C [] cs_X4_walk (by decide) (fun _ _ => rfl) rfl (mdX4_walk 0 0  σ1 _ h) km_X4_63 dX4_reach_8 rfl rfl ⟨rfl, rfl⟩ ⟨by decide, by decide⟩ (Nat.le_of_ble_eq_true rfl) (fun rv σ2 hp => ?_)
  obtain ⟨a3, rfl, h⟩ := hp
  change zV x σ2 11 [(0, za x (6)), (1, .int (zI (v1)))] [.int (zI (a3))]
  obtain ⟨o4, h⟩ := h
  exact z_zret C E dX4_reach_11 o4 ⟨_, rfl, h⟩
def wX5_add (v1 : Int) (σ : Hp) (k : Hp → Prop) : Prop :=
  wX6_within (σ 2 1) 0 59 σ (fun a2 σ1 => zrg a2 ∧ ((a2 = 0 → k σ1) ∧ (¬ (a2 = 0) → (0 ≤ σ1 2 1 ∧ σ1 2 1 < 60) ∧ k (zst (zst σ1 3 (σ1 2 1).toNat v1) 2 1 (((zst σ1 3 (σ1 2 1).toNat v1) 2 1) + 1)))))
set_option maxRecDepth 100000 in
theorem mX5_add (v1 : Int) (σ : Hp) (k : Hp → Prop) (h : wX5_add v1 σ k) (l : Launch) : zMt l yX5_add cX5_add 2 (none) { frames := 1, cells := 0, slots := 0, locals := 22 } (fun w => [.ref (w.2.1 (2)), .int (zI (v1))]) σ (zPv k) := by
  refine zMt_of (plainFor_of_name (by decide)) (fun w => Nat.le_of_ble_eq_true rfl) (fun x hl hN C E => ?_)
  change zV x σ 0 [(0, za x (2)), (1, .int (zI (v1)))] []
  change zOk x cX5_add RX5 (none) (1) (22) at C
  unfold wX5_add at h
  refine z_aload_n C 0 dX5_add_0 rfl rfl ?_
  refine g_X5_1 C kf_X5_15 dX5_add_1 ?_
  refine z_iconst C dX5_add_4 ?_
  refine z_bipush C dX5_add_5 rfl ?_
  refine z_callN (av := fun w => [.int (zI (σ 2 1)), .int (zI (0)), .int (zI (59))]) C [] cs_X6_within (mX6_within (σ 2 1) 0 59  σ _ h) kn_X5_19 dX5_add_7 rfl rfl ⟨rfl, rfl⟩ ⟨by decide, by decide⟩ (Nat.le_of_ble_eq_true rfl) (fun rv σ1 hp => ?_)
  obtain ⟨a2, rfl, h⟩ := hp
  change zV x σ1 10 [(0, za x (2)), (1, .int (zI (v1)))] [.int (zI (a2))]
  obtain ⟨o3, h⟩ := h
  refine z_if_eq C 33 dX5_add_10 (by decide) o3 (fun c4 => ?_) (fun c4 => ?_)
  · have h := h.1 c4
    exact z_vret C E dX5_add_33 ⟨rfl, h⟩
  · have h := h.2 c4
    refine z_aload_n C 0 dX5_add_13 rfl rfl ?_
    refine g_X5_0 C kf_X5_11 dX5_add_14 ?_
    refine z_aload_n C 0 dX5_add_17 rfl rfl ?_
    refine g_X5_1 C kf_X5_15 dX5_add_18 ?_
    refine z_iload_n C 1 dX5_add_21 rfl rfl ?_
    obtain ⟨o5, h⟩ := h
    refine z_iast C ia_3 dX5_add_22 o5.1 o5.2 ?_
    refine z_aload_n C 0 dX5_add_23 rfl rfl ?_
    refine z_dup C dX5_add_24 rfl ?_
    refine g_X5_1 C kf_X5_15 dX5_add_25 ?_
    refine z_iconst C dX5_add_28 ?_
    refine z_iadd C dX5_add_29 ?_
    refine p_X5_1 C kf_X5_15 dX5_add_30 ?_
    exact z_vret C E dX5_add_33 ⟨rfl, h⟩
def wX5_byteAt (v1 : Int) (σ : Hp) (k : Int → Hp → Prop) : Prop :=
  zrg v1 ∧ ((v1 < 0 → k 0 σ) ∧ (¬ (v1 < 0) → zrg (σ 2 1) ∧ ((σ 2 1 ≤ v1 → k 0 σ) ∧ (¬ (σ 2 1 ≤ v1) → ((60 ≤ v1 → k 0 σ) ∧ (¬ (60 ≤ v1) → (0 ≤ v1 ∧ v1 < 60) ∧ k (σ 3 v1.toNat) σ))))))
set_option maxRecDepth 100000 in
theorem mX5_byteAt (v1 : Int) (σ : Hp) (k : Int → Hp → Prop) (h : wX5_byteAt v1 σ k) (l : Launch) : zMt l yX5_byteAt cX5_byteAt 2 (some .int) { frames := 0, cells := 0, slots := 0, locals := 0 } (fun w => [.ref (w.2.1 (2)), .int (zI (v1))]) σ (zPi k) := by
  refine zMt_of (plainFor_of_name (by decide)) (fun w => Nat.le_of_ble_eq_true rfl) (fun x hl hN C E => ?_)
  change zV x σ 0 [(0, za x (2)), (1, .int (zI (v1)))] []
  change zOk x cX5_byteAt RX5 (some .int) (0) (0) at C
  unfold wX5_byteAt at h
  refine z_iload_n C 1 dX5_byteAt_0 rfl rfl ?_
  obtain ⟨o1, h⟩ := h
  refine z_if_lt C 27 dX5_byteAt_1 (by decide) o1 (fun c2 => ?_) (fun c2 => ?_)
  · have h := h.1 c2
    refine z_iconst C dX5_byteAt_27 ?_
    exact z_iret C E dX5_byteAt_28 ⟨_, rfl, h⟩
  · have h := h.2 c2
    refine z_iload_n C 1 dX5_byteAt_4 rfl rfl ?_
    refine z_aload_n C 0 dX5_byteAt_5 rfl rfl ?_
    refine g_X5_1 C kf_X5_15 dX5_byteAt_6 ?_
    obtain ⟨o3, h⟩ := h
    refine z_icmp_ge C 27 dX5_byteAt_9 (by decide) o1 o3 (fun c4 => ?_) (fun c4 => ?_)
    · have h := h.1 c4
      refine z_iconst C dX5_byteAt_27 ?_
      exact z_iret C E dX5_byteAt_28 ⟨_, rfl, h⟩
    · have h := h.2 c4
      refine z_iload_n C 1 dX5_byteAt_12 rfl rfl ?_
      refine z_bipush C dX5_byteAt_13 rfl ?_
      refine z_icmp_ge C 27 dX5_byteAt_15 (by decide) o1 (zrg_d rfl) (fun c5 => ?_) (fun c5 => ?_)
      · have h := h.1 c5
        refine z_iconst C dX5_byteAt_27 ?_
        exact z_iret C E dX5_byteAt_28 ⟨_, rfl, h⟩
      · have h := h.2 c5
        refine z_aload_n C 0 dX5_byteAt_18 rfl rfl ?_
        refine g_X5_0 C kf_X5_11 dX5_byteAt_19 ?_
        refine z_iload_n C 1 dX5_byteAt_22 rfl rfl ?_
        obtain ⟨o6, h⟩ := h
        refine z_iald C ia_3 dX5_byteAt_23 o6.1 o6.2 ?_
        refine z_goto C 28 dX5_byteAt_24 (by decide) ?_
        exact z_iret C E dX5_byteAt_28 ⟨_, rfl, h⟩
def wX5_clear (σ : Hp) (k : Hp → Prop) : Prop :=
  k (zst σ 2 1 0)
set_option maxRecDepth 100000 in
theorem mX5_clear (σ : Hp) (k : Hp → Prop) (h : wX5_clear  σ k) (l : Launch) : zMt l yX5_clear cX5_clear 1 (none) { frames := 0, cells := 0, slots := 0, locals := 0 } (fun w => [.ref (w.2.1 (2))]) σ (zPv k) := by
  refine zMt_of (plainFor_of_name (by decide)) (fun w => Nat.le_of_ble_eq_true rfl) (fun x hl hN C E => ?_)
  change zV x σ 0 [(0, za x (2))] []
  change zOk x cX5_clear RX5 (none) (0) (0) at C
  unfold wX5_clear at h
  refine z_aload_n C 0 dX5_clear_0 rfl rfl ?_
  refine z_iconst C dX5_clear_1 ?_
  refine p_X5_1 C kf_X5_15 dX5_clear_2 ?_
  exact z_vret C E dX5_clear_5 ⟨rfl, h⟩
def wX5_endsRow (v1 : Int) (σ : Hp) (k : Int → Hp → Prop) : Prop :=
  wX5_byteAt v1 σ (fun a2 σ1 => zrg a2 ∧ ((a2 ≠ 59 → k 0 σ1) ∧ (¬ (a2 ≠ 59) → k 1 σ1)))
set_option maxRecDepth 100000 in
theorem mX5_endsRow (v1 : Int) (σ : Hp) (k : Int → Hp → Prop) (h : wX5_endsRow v1 σ k) (l : Launch) : zMt l yX5_endsRow cX5_endsRow 2 (some .boolean) { frames := 1, cells := 0, slots := 0, locals := 21 } (fun w => [.ref (w.2.1 (2)), .int (zI (v1))]) σ (zPi k) := by
  refine zMt_of (plainFor_of_name (by decide)) (fun w => Nat.le_of_ble_eq_true rfl) (fun x hl hN C E => ?_)
  change zV x σ 0 [(0, za x (2)), (1, .int (zI (v1)))] []
  change zOk x cX5_endsRow RX5 (some .boolean) (1) (21) at C
  unfold wX5_endsRow at h
  refine z_aload_n C 0 dX5_endsRow_0 rfl rfl ?_
  refine z_iload_n C 1 dX5_endsRow_1 rfl rfl ?_
  refine z_callV (av := fun w => [.int (zI (v1))]) C [] cs_X5_byteAt (by decide) (fun _ _ => rfl) rfl (mX5_byteAt v1  σ _ h) km_X5_23 dX5_endsRow_2 rfl rfl ⟨rfl, rfl⟩ ⟨by decide, by decide⟩ (Nat.le_of_ble_eq_true rfl) (fun rv σ1 hp => ?_)
  obtain ⟨a2, rfl, h⟩ := hp
  change zV x σ1 5 [(0, za x (2)), (1, .int (zI (v1)))] [.int (zI (a2))]
  refine z_bipush C dX5_endsRow_5 rfl ?_
  obtain ⟨o3, h⟩ := h
  refine z_icmp_ne C 14 dX5_endsRow_7 (by decide) o3 (zrg_d rfl) (fun c4 => ?_) (fun c4 => ?_)
  · have h := h.1 c4
    refine z_iconst C dX5_endsRow_14 ?_
    exact z_zret C E dX5_endsRow_15 (by decide) ⟨_, rfl, h⟩
  · have h := h.2 c4
    refine z_iconst C dX5_endsRow_10 ?_
    refine z_goto C 15 dX5_endsRow_11 (by decide) ?_
    exact z_zret C E dX5_endsRow_15 (by decide) ⟨_, rfl, h⟩
def wX5_lineAt (v1 : Int) (σ : Hp) (k : Int → Hp → Prop) : Prop :=
  wX5_byteAt v1 σ (fun a2 σ1 => wX6_within (a2 - 97) 0 11 σ1 (fun a4 σ3 => zrg a4 ∧ ((a4 = 0 → k 15 σ3) ∧ (¬ (a4 = 0) → k (a2 - 97) σ3))))
set_option maxRecDepth 100000 in
theorem mX5_lineAt (v1 : Int) (σ : Hp) (k : Int → Hp → Prop) (h : wX5_lineAt v1 σ k) (l : Launch) : zMt l yX5_lineAt cX5_lineAt 3 (some .int) { frames := 1, cells := 0, slots := 0, locals := 22 } (fun w => [.ref (w.2.1 (2)), .int (zI (v1))]) σ (zPi k) := by
  refine zMt_of (plainFor_of_name (by decide)) (fun w => Nat.le_of_ble_eq_true rfl) (fun x hl hN C E => ?_)
  change zV x σ 0 [(0, za x (2)), (1, .int (zI (v1)))] []
  change zOk x cX5_lineAt RX5 (some .int) (1) (22) at C
  unfold wX5_lineAt at h
  refine z_aload_n C 0 dX5_lineAt_0 rfl rfl ?_
  refine z_iload_n C 1 dX5_lineAt_1 rfl rfl ?_
  refine z_callV (av := fun w => [.int (zI (v1))]) C [] cs_X5_byteAt (by decide) (fun _ _ => rfl) rfl (mX5_byteAt v1  σ _ h) km_X5_23 dX5_lineAt_2 rfl rfl ⟨rfl, rfl⟩ ⟨by decide, by decide⟩ (Nat.le_of_ble_eq_true rfl) (fun rv σ1 hp => ?_)
  obtain ⟨a2, rfl, h⟩ := hp
  change zV x σ1 5 [(0, za x (2)), (1, .int (zI (v1)))] [.int (zI (a2))]
  refine z_bipush C dX5_lineAt_5 rfl ?_
  refine z_isub C dX5_lineAt_7 ?_
  refine z_istore_n C [(2, .int (zI (a2 - 97))), (0, za x (2)), (1, .int (zI (v1)))] dX5_lineAt_8 rfl (by rw [hN]; decide) rfl ?_
  refine z_iload_n C 0 dX5_lineAt_9 rfl rfl ?_
  refine z_iconst C dX5_lineAt_10 ?_
  refine z_bipush C dX5_lineAt_11 rfl ?_
  refine z_callN (av := fun w => [.int (zI (a2 - 97)), .int (zI (0)), .int (zI (11))]) C [] cs_X6_within (mX6_within (a2 - 97) 0 11  σ1 _ h) kn_X5_19 dX5_lineAt_13 rfl rfl ⟨rfl, rfl⟩ ⟨by decide, by decide⟩ (Nat.le_of_ble_eq_true rfl) (fun rv σ3 hp => ?_)
  obtain ⟨a4, rfl, h⟩ := hp
  change zV x σ3 16 [(2, .int (zI (a2 - 97))), (0, za x (2)), (1, .int (zI (v1)))] [.int (zI (a4))]
  obtain ⟨o5, h⟩ := h
  refine z_if_eq C 23 dX5_lineAt_16 (by decide) o5 (fun c6 => ?_) (fun c6 => ?_)
  · have h := h.1 c6
    refine z_bipush C dX5_lineAt_23 rfl ?_
    exact z_iret C E dX5_lineAt_25 ⟨_, rfl, h⟩
  · have h := h.2 c6
    refine z_iload_n C 0 dX5_lineAt_19 rfl rfl ?_
    refine z_goto C 25 dX5_lineAt_20 (by decide) ?_
    exact z_iret C E dX5_lineAt_25 ⟨_, rfl, h⟩
def wX5_isColumn (v1 : Int) (σ : Hp) (k : Int → Hp → Prop) : Prop :=
  wX5_byteAt v1 σ (fun a2 σ1 => zrg a2 ∧ ((a2 = 46 → k 1 σ1) ∧ (¬ (a2 = 46) → wX5_lineAt v1 σ1 (fun a6 σ5 => zrg a6 ∧ ((a6 = 15 → k 0 σ5) ∧ (¬ (a6 = 15) → k 1 σ5))))))
set_option maxRecDepth 100000 in
theorem mX5_isColumn (v1 : Int) (σ : Hp) (k : Int → Hp → Prop) (h : wX5_isColumn v1 σ k) (l : Launch) : zMt l yX5_isColumn cX5_isColumn 2 (some .boolean) { frames := 2, cells := 0, slots := 0, locals := 44 } (fun w => [.ref (w.2.1 (2)), .int (zI (v1))]) σ (zPi k) := by
  refine zMt_of (plainFor_of_name (by decide)) (fun w => Nat.le_of_ble_eq_true rfl) (fun x hl hN C E => ?_)
  change zV x σ 0 [(0, za x (2)), (1, .int (zI (v1)))] []
  change zOk x cX5_isColumn RX5 (some .boolean) (2) (44) at C
  unfold wX5_isColumn at h
  refine z_aload_n C 0 dX5_isColumn_0 rfl rfl ?_
  refine z_iload_n C 1 dX5_isColumn_1 rfl rfl ?_
  refine z_callV (av := fun w => [.int (zI (v1))]) C [] cs_X5_byteAt (by decide) (fun _ _ => rfl) rfl (mX5_byteAt v1  σ _ h) km_X5_23 dX5_isColumn_2 rfl rfl ⟨rfl, rfl⟩ ⟨by decide, by decide⟩ (Nat.le_of_ble_eq_true rfl) (fun rv σ1 hp => ?_)
  obtain ⟨a2, rfl, h⟩ := hp
  change zV x σ1 5 [(0, za x (2)), (1, .int (zI (v1)))] [.int (zI (a2))]
  refine z_bipush C dX5_isColumn_5 rfl ?_
  obtain ⟨o3, h⟩ := h
  refine z_icmp_eq C 20 dX5_isColumn_7 (by decide) o3 (zrg_d rfl) (fun c4 => ?_) (fun c4 => ?_)
  · have h := h.1 c4
    refine z_iconst C dX5_isColumn_20 ?_
    refine z_goto C 25 dX5_isColumn_21 (by decide) ?_
    exact z_zret C E dX5_isColumn_25 (by decide) ⟨_, rfl, h⟩
  · have h := h.2 c4
    refine z_aload_n C 0 dX5_isColumn_10 rfl rfl ?_
    refine z_iload_n C 1 dX5_isColumn_11 rfl rfl ?_
    refine z_callV (av := fun w => [.int (zI (v1))]) C [] cs_X5_lineAt (by decide) (fun _ _ => rfl) rfl (mX5_lineAt v1  σ1 _ h) km_X5_27 dX5_isColumn_12 rfl rfl ⟨rfl, rfl⟩ ⟨by decide, by decide⟩ (Nat.le_of_ble_eq_true rfl) (fun rv σ5 hp => ?_)
    obtain ⟨a6, rfl, h⟩ := hp
    change zV x σ5 15 [(0, za x (2)), (1, .int (zI (v1)))] [.int (zI (a6))]
    refine z_bipush C dX5_isColumn_15 rfl ?_
    obtain ⟨o7, h⟩ := h
    refine z_icmp_eq C 24 dX5_isColumn_17 (by decide) o7 (zrg_d rfl) (fun c8 => ?_) (fun c8 => ?_)
    · have h := h.1 c8
      refine z_iconst C dX5_isColumn_24 ?_
      exact z_zret C E dX5_isColumn_25 (by decide) ⟨_, rfl, h⟩
    · have h := h.2 c8
      refine z_iconst C dX5_isColumn_20 ?_
      refine z_goto C 25 dX5_isColumn_21 (by decide) ?_
      exact z_zret C E dX5_isColumn_25 (by decide) ⟨_, rfl, h⟩
def wX5_firstFault_6 (k : Int → Hp → Prop) : Nat → Int → Int → Int → Hp → Prop
  | 0, _, _, _, _ => False
  | n + 1, v1, v2, v3, σ => zrg v3 ∧ zrg (σ 2 1) ∧ ((σ 2 1 ≤ v3 → zrg v1 ∧ ((v1 ≤ 0 → k ((-4)) σ) ∧ (¬ (v1 ≤ 0) → k (σ 2 1) σ))) ∧ (¬ (σ 2 1 ≤ v3) → wX5_endsRow v3 σ (fun a7 σ6 => zrg a7 ∧ ((a7 = 0 → wX5_isColumn v3 σ6 (fun a11 σ10 => zrg a11 ∧ ((a11 = 0 → k v3 σ10) ∧ (¬ (a11 = 0) → zrg v1 ∧ ((v1 = 12 → k v3 σ10) ∧ (¬ (v1 = 12) → zrg v2 ∧ ((v2 ≠ 6 → wX5_firstFault_6 k n (v1 + 1) v2 (v3 + 1) σ10) ∧ (¬ (v2 ≠ 6) → k v3 σ10)))))))) ∧ (¬ (a7 = 0) → zrg v1 ∧ ((v1 ≠ 0 → wX5_firstFault_6 k n 0 (v2 + 1) (v3 + 1) σ6) ∧ (¬ (v1 ≠ 0) → k v3 σ6)))))))
set_option maxRecDepth 100000 in
theorem sX5_firstFault_6 {x : Cx} (C : zOk x cX5_firstFault RX5 (some .int) (3) (65)) (hN : x.2.2.2.2.1 = 4) {k : Int → Hp → Prop} (E : zEnd x (zPi k x.2.1)) : ∀ (n : Nat) (v1 : Int) (v2 : Int) (v3 : Int) (σ : Hp), wX5_firstFault_6 k n v1 v2 v3 σ → zV x σ 6 [(0, za x (2)), (1, .int (zI (v1))), (2, .int (zI (v2))), (3, .int (zI (v3)))] [] := by
  intro n
  induction n with
  | zero => intro _ _ _ _ h; exact h.elim
  | succ n ih =>
    intro v1 v2 v3 σ h
    unfold wX5_firstFault_6 at h
    refine z_iload_n C 3 dX5_firstFault_6 rfl rfl ?_
    refine z_aload_n C 0 dX5_firstFault_7 rfl rfl ?_
    refine g_X5_1 C kf_X5_15 dX5_firstFault_8 ?_
    obtain ⟨o1, h⟩ := h
    obtain ⟨o2, h⟩ := h
    refine z_icmp_ge C 67 dX5_firstFault_11 (by decide) o1 o2 (fun c3 => ?_) (fun c3 => ?_)
    · have h := h.1 c3
      refine z_iload_n C 1 dX5_firstFault_67 rfl rfl ?_
      obtain ⟨o4, h⟩ := h
      refine z_if_le C 78 dX5_firstFault_68 (by decide) o4 (fun c5 => ?_) (fun c5 => ?_)
      · have h := h.1 c5
        refine z_bipush C dX5_firstFault_78 rfl ?_
        exact z_iret C E dX5_firstFault_80 ⟨_, rfl, h⟩
      · have h := h.2 c5
        refine z_aload_n C 0 dX5_firstFault_71 rfl rfl ?_
        refine g_X5_1 C kf_X5_15 dX5_firstFault_72 ?_
        refine z_goto C 80 dX5_firstFault_75 (by decide) ?_
        exact z_iret C E dX5_firstFault_80 ⟨_, rfl, h⟩
    · have h := h.2 c3
      refine z_aload_n C 0 dX5_firstFault_14 rfl rfl ?_
      refine z_iload_n C 3 dX5_firstFault_15 rfl rfl ?_
      refine z_callV (av := fun w => [.int (zI (v3))]) C [] cs_X5_endsRow (by decide) (fun _ _ => rfl) rfl (mX5_endsRow v3  σ _ h) km_X5_30 dX5_firstFault_16 rfl rfl ⟨rfl, rfl⟩ ⟨by decide, by decide⟩ (Nat.le_of_ble_eq_true rfl) (fun rv σ6 hp => ?_)
      obtain ⟨a7, rfl, h⟩ := hp
      change zV x σ6 19 [(0, za x (2)), (1, .int (zI (v1))), (2, .int (zI (v2))), (3, .int (zI (v3)))] [.int (zI (a7))]
      obtain ⟨o8, h⟩ := h
      refine z_if_eq C 36 dX5_firstFault_19 (by decide) o8 (fun c9 => ?_) (fun c9 => ?_)
      · have h := h.1 c9
        refine z_aload_n C 0 dX5_firstFault_36 rfl rfl ?_
        refine z_iload_n C 3 dX5_firstFault_37 rfl rfl ?_
        refine z_callV (av := fun w => [.int (zI (v3))]) C [] cs_X5_isColumn (by decide) (fun _ _ => rfl) rfl (mX5_isColumn v3  σ6 _ h) km_X5_34 dX5_firstFault_38 rfl rfl ⟨rfl, rfl⟩ ⟨by decide, by decide⟩ (Nat.le_of_ble_eq_true rfl) (fun rv σ10 hp => ?_)
        obtain ⟨a11, rfl, h⟩ := hp
        change zV x σ10 41 [(0, za x (2)), (1, .int (zI (v1))), (2, .int (zI (v2))), (3, .int (zI (v3)))] [.int (zI (a11))]
        obtain ⟨o12, h⟩ := h
        refine z_if_eq C 56 dX5_firstFault_41 (by decide) o12 (fun c13 => ?_) (fun c13 => ?_)
        · have h := h.1 c13
          refine z_iload_n C 3 dX5_firstFault_56 rfl rfl ?_
          exact z_iret C E dX5_firstFault_57 ⟨_, rfl, h⟩
        · have h := h.2 c13
          refine z_iload_n C 1 dX5_firstFault_44 rfl rfl ?_
          refine z_bipush C dX5_firstFault_45 rfl ?_
          obtain ⟨o14, h⟩ := h
          refine z_icmp_eq C 56 dX5_firstFault_47 (by decide) o14 (zrg_d rfl) (fun c15 => ?_) (fun c15 => ?_)
          · have h := h.1 c15
            refine z_iload_n C 3 dX5_firstFault_56 rfl rfl ?_
            exact z_iret C E dX5_firstFault_57 ⟨_, rfl, h⟩
          · have h := h.2 c15
            refine z_iload_n C 2 dX5_firstFault_50 rfl rfl ?_
            refine z_bipush C dX5_firstFault_51 rfl ?_
            obtain ⟨o16, h⟩ := h
            refine z_icmp_ne C 58 dX5_firstFault_53 (by decide) o16 (zrg_d rfl) (fun c17 => ?_) (fun c17 => ?_)
            · have h := h.1 c17
              refine z_iinc C 1 [(1, .int (zI (v1 + 1))), (0, za x (2)), (2, .int (zI (v2))), (3, .int (zI (v3)))] dX5_firstFault_58 rfl (by rw [hN]; decide) rfl ?_
              refine z_iinc C 3 [(3, .int (zI (v3 + 1))), (1, .int (zI (v1 + 1))), (0, za x (2)), (2, .int (zI (v2)))] dX5_firstFault_61 rfl (by rw [hN]; decide) rfl ?_
              refine z_goto C 6 dX5_firstFault_64 (by decide) ?_
              refine z_sub C [2, 1, 3, 0] [(0, za x (2)), (1, .int (zI (v1 + 1))), (2, .int (zI (v2))), (3, .int (zI (v3 + 1)))] rfl ?_
              exact ih (v1 + 1) v2 (v3 + 1)  σ10 h
            · have h := h.2 c17
              refine z_iload_n C 3 dX5_firstFault_56 rfl rfl ?_
              exact z_iret C E dX5_firstFault_57 ⟨_, rfl, h⟩
      · have h := h.2 c9
        refine z_iload_n C 1 dX5_firstFault_22 rfl rfl ?_
        obtain ⟨o18, h⟩ := h
        refine z_if_ne C 28 dX5_firstFault_23 (by decide) o18 (fun c19 => ?_) (fun c19 => ?_)
        · have h := h.1 c19
          refine z_iinc C 2 [(2, .int (zI (v2 + 1))), (0, za x (2)), (1, .int (zI (v1))), (3, .int (zI (v3)))] dX5_firstFault_28 rfl (by rw [hN]; decide) rfl ?_
          refine z_iconst C dX5_firstFault_31 ?_
          refine z_istore_n C [(1, .int (zI (0))), (2, .int (zI (v2 + 1))), (0, za x (2)), (3, .int (zI (v3)))] dX5_firstFault_32 rfl (by rw [hN]; decide) rfl ?_
          refine z_goto C 61 dX5_firstFault_33 (by decide) ?_
          refine z_iinc C 3 [(3, .int (zI (v3 + 1))), (1, .int (zI (0))), (2, .int (zI (v2 + 1))), (0, za x (2))] dX5_firstFault_61 rfl (by rw [hN]; decide) rfl ?_
          refine z_goto C 6 dX5_firstFault_64 (by decide) ?_
          refine z_sub C [3, 1, 2, 0] [(0, za x (2)), (1, .int (zI (0))), (2, .int (zI (v2 + 1))), (3, .int (zI (v3 + 1)))] rfl ?_
          exact ih 0 (v2 + 1) (v3 + 1)  σ6 h
        · have h := h.2 c19
          refine z_iload_n C 3 dX5_firstFault_26 rfl rfl ?_
          exact z_iret C E dX5_firstFault_27 ⟨_, rfl, h⟩
def wX5_firstFault (σ : Hp) (k : Int → Hp → Prop) : Prop :=
  (∃ N1, wX5_firstFault_6 k N1 0 0 0 σ)
set_option maxRecDepth 100000 in
theorem mX5_firstFault (σ : Hp) (k : Int → Hp → Prop) (h : wX5_firstFault  σ k) (l : Launch) : zMt l yX5_firstFault cX5_firstFault 4 (some .int) { frames := 3, cells := 0, slots := 0, locals := 65 } (fun w => [.ref (w.2.1 (2))]) σ (zPi k) := by
  refine zMt_of (plainFor_of_name (by decide)) (fun w => Nat.le_of_ble_eq_true rfl) (fun x hl hN C E => ?_)
  change zV x σ 0 [(0, za x (2))] []
  change zOk x cX5_firstFault RX5 (some .int) (3) (65) at C
  unfold wX5_firstFault at h
  refine z_iconst C dX5_firstFault_0 ?_
  refine z_istore_n C [(1, .int (zI (0))), (0, za x (2))] dX5_firstFault_1 rfl (by rw [hN]; decide) rfl ?_
  refine z_iconst C dX5_firstFault_2 ?_
  refine z_istore_n C [(2, .int (zI (0))), (1, .int (zI (0))), (0, za x (2))] dX5_firstFault_3 rfl (by rw [hN]; decide) rfl ?_
  refine z_iconst C dX5_firstFault_4 ?_
  refine z_istore_n C [(3, .int (zI (0))), (2, .int (zI (0))), (1, .int (zI (0))), (0, za x (2))] dX5_firstFault_5 rfl (by rw [hN]; decide) rfl ?_
  refine z_sub C [3, 2, 1, 0] [(0, za x (2)), (1, .int (zI (0))), (2, .int (zI (0))), (3, .int (zI (0)))] rfl ?_
  obtain ⟨n1, h⟩ := h
  exact sX5_firstFault_6 C hN E n1 0 0 0  σ h
def wX5_hasRoomFor (v1 : Int) (σ : Hp) (k : Int → Hp → Prop) : Prop :=
  zrg v1 ∧ zrg (60 - (σ 2 1)) ∧ ((60 - (σ 2 1) < v1 → k 0 σ) ∧ (¬ (60 - (σ 2 1) < v1) → k 1 σ))
set_option maxRecDepth 100000 in
theorem mX5_hasRoomFor (v1 : Int) (σ : Hp) (k : Int → Hp → Prop) (h : wX5_hasRoomFor v1 σ k) (l : Launch) : zMt l yX5_hasRoomFor cX5_hasRoomFor 2 (some .boolean) { frames := 0, cells := 0, slots := 0, locals := 0 } (fun w => [.ref (w.2.1 (2)), .int (zI (v1))]) σ (zPi k) := by
  refine zMt_of (plainFor_of_name (by decide)) (fun w => Nat.le_of_ble_eq_true rfl) (fun x hl hN C E => ?_)
  change zV x σ 0 [(0, za x (2)), (1, .int (zI (v1)))] []
  change zOk x cX5_hasRoomFor RX5 (some .boolean) (0) (0) at C
  unfold wX5_hasRoomFor at h
  refine z_iload_n C 1 dX5_hasRoomFor_0 rfl rfl ?_
  refine z_bipush C dX5_hasRoomFor_1 rfl ?_
  refine z_aload_n C 0 dX5_hasRoomFor_3 rfl rfl ?_
  refine g_X5_1 C kf_X5_15 dX5_hasRoomFor_4 ?_
  refine z_isub C dX5_hasRoomFor_7 ?_
  obtain ⟨o1, h⟩ := h
  obtain ⟨o2, h⟩ := h
  refine z_icmp_gt C 15 dX5_hasRoomFor_8 (by decide) o1 o2 (fun c3 => ?_) (fun c3 => ?_)
  · have h := h.1 c3
    refine z_iconst C dX5_hasRoomFor_15 ?_
    exact z_zret C E dX5_hasRoomFor_16 (by decide) ⟨_, rfl, h⟩
  · have h := h.2 c3
    refine z_iconst C dX5_hasRoomFor_11 ?_
    refine z_goto C 16 dX5_hasRoomFor_12 (by decide) ?_
    exact z_zret C E dX5_hasRoomFor_16 (by decide) ⟨_, rfl, h⟩
def wX5_highestLine_4 (k : Int → Hp → Prop) : Nat → Int → Int → Hp → Prop
  | 0, _, _, _ => False
  | n + 1, v1, v2, σ => zrg v2 ∧ zrg (σ 2 1) ∧ ((σ 2 1 ≤ v2 → k v1 σ) ∧ (¬ (σ 2 1 ≤ v2) → wX5_lineAt v2 σ (fun a5 σ4 => zrg a5 ∧ ((a5 = 15 → wX5_highestLine_4 k n v1 (v2 + 1) σ4) ∧ (¬ (a5 = 15) → zrg v1 ∧ ((a5 ≤ v1 → wX5_highestLine_4 k n v1 (v2 + 1) σ4) ∧ (¬ (a5 ≤ v1) → wX5_highestLine_4 k n a5 (v2 + 1) σ4)))))))
set_option maxRecDepth 100000 in
theorem sX5_highestLine_4 {x : Cx} (C : zOk x cX5_highestLine RX5 (some .int) (2) (44)) (hN : x.2.2.2.2.1 = 4) {k : Int → Hp → Prop} (E : zEnd x (zPi k x.2.1)) : ∀ (n : Nat) (v1 : Int) (v2 : Int) (σ : Hp), wX5_highestLine_4 k n v1 v2 σ → zV x σ 4 [(0, za x (2)), (1, .int (zI (v1))), (2, .int (zI (v2)))] [] := by
  intro n
  induction n with
  | zero => intro _ _ _ h; exact h.elim
  | succ n ih =>
    intro v1 v2 σ h
    unfold wX5_highestLine_4 at h
    refine z_iload_n C 2 dX5_highestLine_4 rfl rfl ?_
    refine z_aload_n C 0 dX5_highestLine_5 rfl rfl ?_
    refine g_X5_1 C kf_X5_15 dX5_highestLine_6 ?_
    obtain ⟨o1, h⟩ := h
    obtain ⟨o2, h⟩ := h
    refine z_icmp_ge C 37 dX5_highestLine_9 (by decide) o1 o2 (fun c3 => ?_) (fun c3 => ?_)
    · have h := h.1 c3
      refine z_iload_n C 1 dX5_highestLine_37 rfl rfl ?_
      exact z_iret C E dX5_highestLine_38 ⟨_, rfl, h⟩
    · have h := h.2 c3
      refine z_aload_n C 0 dX5_highestLine_12 rfl rfl ?_
      refine z_iload_n C 2 dX5_highestLine_13 rfl rfl ?_
      refine z_callV (av := fun w => [.int (zI (v2))]) C [] cs_X5_lineAt (by decide) (fun _ _ => rfl) rfl (mX5_lineAt v2  σ _ h) km_X5_27 dX5_highestLine_14 rfl rfl ⟨rfl, rfl⟩ ⟨by decide, by decide⟩ (Nat.le_of_ble_eq_true rfl) (fun rv σ4 hp => ?_)
      obtain ⟨a5, rfl, h⟩ := hp
      change zV x σ4 17 [(0, za x (2)), (1, .int (zI (v1))), (2, .int (zI (v2)))] [.int (zI (a5))]
      refine z_istore_n C [(3, .int (zI (a5))), (0, za x (2)), (1, .int (zI (v1))), (2, .int (zI (v2)))] dX5_highestLine_17 rfl (by rw [hN]; decide) rfl ?_
      refine z_iload_n C 0 dX5_highestLine_18 rfl rfl ?_
      refine z_bipush C dX5_highestLine_19 rfl ?_
      obtain ⟨o6, h⟩ := h
      refine z_icmp_eq C 31 dX5_highestLine_21 (by decide) o6 (zrg_d rfl) (fun c7 => ?_) (fun c7 => ?_)
      · have h := h.1 c7
        refine z_iinc C 3 [(2, .int (zI (v2 + 1))), (3, .int (zI (a5))), (0, za x (2)), (1, .int (zI (v1)))] dX5_highestLine_31 rfl (by rw [hN]; decide) rfl ?_
        refine z_goto C 4 dX5_highestLine_34 (by decide) ?_
        refine z_sub C [2, 3, 0] [(0, za x (2)), (1, .int (zI (v1))), (2, .int (zI (v2 + 1)))] rfl ?_
        exact ih v1 (v2 + 1)  σ4 h
      · have h := h.2 c7
        refine z_iload_n C 0 dX5_highestLine_24 rfl rfl ?_
        refine z_iload_n C 2 dX5_highestLine_25 rfl rfl ?_
        obtain ⟨o8, h⟩ := h
        refine z_icmp_le C 31 dX5_highestLine_26 (by decide) o6 o8 (fun c9 => ?_) (fun c9 => ?_)
        · have h := h.1 c9
          refine z_iinc C 3 [(2, .int (zI (v2 + 1))), (3, .int (zI (a5))), (0, za x (2)), (1, .int (zI (v1)))] dX5_highestLine_31 rfl (by rw [hN]; decide) rfl ?_
          refine z_goto C 4 dX5_highestLine_34 (by decide) ?_
          refine z_sub C [2, 3, 0] [(0, za x (2)), (1, .int (zI (v1))), (2, .int (zI (v2 + 1)))] rfl ?_
          exact ih v1 (v2 + 1)  σ4 h
        · have h := h.2 c9
          refine z_iload_n C 0 dX5_highestLine_29 rfl rfl ?_
          refine z_istore_n C [(1, .int (zI (a5))), (3, .int (zI (a5))), (0, za x (2)), (2, .int (zI (v2)))] dX5_highestLine_30 rfl (by rw [hN]; decide) rfl ?_
          refine z_iinc C 3 [(2, .int (zI (v2 + 1))), (1, .int (zI (a5))), (3, .int (zI (a5))), (0, za x (2))] dX5_highestLine_31 rfl (by rw [hN]; decide) rfl ?_
          refine z_goto C 4 dX5_highestLine_34 (by decide) ?_
          refine z_sub C [3, 1, 0] [(0, za x (2)), (1, .int (zI (a5))), (2, .int (zI (v2 + 1)))] rfl ?_
          exact ih a5 (v2 + 1)  σ4 h
def wX5_highestLine (σ : Hp) (k : Int → Hp → Prop) : Prop :=
  (∃ N1, wX5_highestLine_4 k N1 ((-1)) 0 σ)
set_option maxRecDepth 100000 in
theorem mX5_highestLine (σ : Hp) (k : Int → Hp → Prop) (h : wX5_highestLine  σ k) (l : Launch) : zMt l yX5_highestLine cX5_highestLine 4 (some .int) { frames := 2, cells := 0, slots := 0, locals := 44 } (fun w => [.ref (w.2.1 (2))]) σ (zPi k) := by
  refine zMt_of (plainFor_of_name (by decide)) (fun w => Nat.le_of_ble_eq_true rfl) (fun x hl hN C E => ?_)
  change zV x σ 0 [(0, za x (2))] []
  change zOk x cX5_highestLine RX5 (some .int) (2) (44) at C
  unfold wX5_highestLine at h
  refine z_iconst C dX5_highestLine_0 ?_
  refine z_istore_n C [(1, .int (zI ((-1)))), (0, za x (2))] dX5_highestLine_1 rfl (by rw [hN]; decide) rfl ?_
  refine z_iconst C dX5_highestLine_2 ?_
  refine z_istore_n C [(2, .int (zI (0))), (1, .int (zI ((-1)))), (0, za x (2))] dX5_highestLine_3 rfl (by rw [hN]; decide) rfl ?_
  refine z_sub C [2, 1, 0] [(0, za x (2)), (1, .int (zI ((-1)))), (2, .int (zI (0)))] rfl ?_
  obtain ⟨n1, h⟩ := h
  exact sX5_highestLine_4 C hN E n1 ((-1)) 0  σ h
def wX5_length (σ : Hp) (k : Int → Hp → Prop) : Prop :=
  k (σ 2 1) σ
set_option maxRecDepth 100000 in
theorem mX5_length (σ : Hp) (k : Int → Hp → Prop) (h : wX5_length  σ k) (l : Launch) : zMt l yX5_length cX5_length 1 (some .int) { frames := 0, cells := 0, slots := 0, locals := 0 } (fun w => [.ref (w.2.1 (2))]) σ (zPi k) := by
  refine zMt_of (plainFor_of_name (by decide)) (fun w => Nat.le_of_ble_eq_true rfl) (fun x hl hN C E => ?_)
  change zV x σ 0 [(0, za x (2))] []
  change zOk x cX5_length RX5 (some .int) (0) (0) at C
  unfold wX5_length at h
  refine z_aload_n C 0 dX5_length_0 rfl rfl ?_
  refine g_X5_1 C kf_X5_15 dX5_length_1 ?_
  exact z_iret C E dX5_length_4 ⟨_, rfl, h⟩
def wX6_rowAt (v1 : Int) (σ : Hp) (k : Option Nat → Hp → Prop) : Prop :=
  wX6_within v1 0 5 σ (fun a2 σ1 => zrg a2 ∧ ((a2 = 0 → k none σ1) ∧ (¬ (a2 = 0) → (0 ≤ v1 ∧ v1 < 6) ∧ k (some v1.toNat) σ1)))
set_option maxRecDepth 100000 in
theorem mX6_rowAt (v1 : Int) (σ : Hp) (k : Option Nat → Hp → Prop) (h : wX6_rowAt v1 σ k) (l : Launch) : zMt l yX6_rowAt cX6_rowAt 2 (some (.object "LeanMarks$Row")) { frames := 1, cells := 0, slots := 0, locals := 22 } (fun w => [.ref (w.2.1 (0)), .int (zI (v1))]) σ (zPr k) := by
  refine zMt_of (plainFor_of_name (by decide)) (fun w => Nat.le_of_ble_eq_true rfl) (fun x hl hN C E => ?_)
  change zV x σ 0 [(0, za x (0)), (1, .int (zI (v1)))] []
  change zOk x cX6_rowAt RX6 (some (.object "LeanMarks$Row")) (1) (22) at C
  unfold wX6_rowAt at h
  refine z_iload_n C 1 dX6_rowAt_0 rfl rfl ?_
  refine z_iconst C dX6_rowAt_1 ?_
  refine z_iconst C dX6_rowAt_2 ?_
  refine z_callS (av := fun w => [.int (zI (v1)), .int (zI (0)), .int (zI (5))]) C [] cs_X6_within (mX6_within v1 0 5  σ _ h) km_X6_63 dX6_rowAt_3 rfl rfl ⟨rfl, rfl⟩ ⟨by decide, by decide⟩ (Nat.le_of_ble_eq_true rfl) (fun rv σ1 hp => ?_)
  obtain ⟨a2, rfl, h⟩ := hp
  change zV x σ1 6 [(0, za x (0)), (1, .int (zI (v1)))] [.int (zI (a2))]
  obtain ⟨o3, h⟩ := h
  refine z_if_eq C 18 dX6_rowAt_6 (by decide) o3 (fun c4 => ?_) (fun c4 => ?_)
  · have h := h.1 c4
    refine z_null C dX6_rowAt_18 ?_
    exact z_aretN C E dX6_rowAt_19 (Or.inl ⟨rfl, h⟩)
  · have h := h.2 c4
    refine z_aload_n C 0 dX6_rowAt_9 rfl rfl ?_
    refine g_X6_0 C kf_X6_11 dX6_rowAt_10 ?_
    refine z_iload_n C 1 dX6_rowAt_13 rfl rfl ?_
    obtain ⟨o5, h⟩ := h
    refine z_aald C dX6_rowAt_14 o5.1 o5.2 ?_
    refine z_goto C 19 dX6_rowAt_15 (by decide) ?_
    exact z_aret C E dX6_rowAt_19 (Or.inr ⟨_, (by omega), rfl, h⟩)
def wX6_bestHeard (v1 : Int) (σ : Hp) (k : Int → Hp → Prop) : Prop :=
  wX6_rowAt v1 σ (fun w6 σ1 => (w6 = none → k 0 σ1) ∧ ∀ q2, w6 = some q2 → wX0_seek q2 σ1 (fun σ3 => wX0_bestMeeting  σ3 (fun a5 σ4 => k a5 σ4)))
set_option maxRecDepth 100000 in
theorem mX6_bestHeard (v1 : Int) (σ : Hp) (k : Int → Hp → Prop) (h : wX6_bestHeard v1 σ k) (l : Launch) : zMt l yX6_bestHeard cX6_bestHeard 3 (some .int) { frames := 4, cells := 0, slots := 0, locals := 86 } (fun w => [.ref (w.2.1 (0)), .int (zI (v1))]) σ (zPi k) := by
  refine zMt_of (plainFor_of_name (by decide)) (fun w => Nat.le_of_ble_eq_true rfl) (fun x hl hN C E => ?_)
  change zV x σ 0 [(0, za x (0)), (1, .int (zI (v1)))] []
  change zOk x cX6_bestHeard RX6 (some .int) (4) (86) at C
  unfold wX6_bestHeard at h
  refine z_aload_n C 0 dX6_bestHeard_0 rfl rfl ?_
  refine z_iload_n C 1 dX6_bestHeard_1 rfl rfl ?_
  refine z_callV (av := fun w => [.int (zI (v1))]) C [] cs_X6_rowAt (by decide) (fun _ _ => rfl) rfl (mX6_rowAt v1  σ _ h) km_X6_59 dX6_bestHeard_2 rfl rfl ⟨rfl, rfl⟩ ⟨by decide, by decide⟩ (Nat.le_of_ble_eq_true rfl) (fun rv σ1 hp => ?_)
  rcases hp with ⟨rfl, h⟩ | ⟨q2, hq2, rfl, h⟩
  · have h := h.1 rfl
    change zV x σ1 5 [(0, za x (0)), (1, .int (zI (v1)))] [.null]
    refine z_astore_nN C [(2, .null), (0, za x (0)), (1, .int (zI (v1)))] dX6_bestHeard_5 rfl (by rw [hN]; decide) rfl ?_
    refine z_aload_nN C 0 dX6_bestHeard_6 rfl rfl ?_
    refine z_ifnonnullN C dX6_bestHeard_7 ?_
    refine z_iconst C dX6_bestHeard_10 ?_
    exact z_iret C E dX6_bestHeard_11 ⟨_, rfl, h⟩
  · have h := h.2 q2 rfl
    change zV x σ1 5 [(0, za x (0)), (1, .int (zI (v1)))] [za x (29 + q2)]
    refine z_astore_n C [(2, za x (29 + q2)), (0, za x (0)), (1, .int (zI (v1)))] dX6_bestHeard_5 rfl (by rw [hN]; decide) rfl ?_
    refine z_aload_n C 0 dX6_bestHeard_6 rfl rfl ?_
    refine z_ifnonnull C 12 dX6_bestHeard_7 (by decide) ?_
    refine z_aload_n C 1 dX6_bestHeard_12 rfl rfl ?_
    refine g_X6_6 C kf_X6_51 dX6_bestHeard_13 ?_
    refine z_aload_n C 0 dX6_bestHeard_16 rfl rfl ?_
    refine z_callV (av := fun w => [.ref (w.2.1 (29 + q2))]) C [] cs_X0_seek (by decide) (fun _ _ => rfl) rfl (mX0_seek q2 hq2 σ1 _ h) km_X6_240 dX6_bestHeard_17 rfl rfl ⟨rfl, rfl⟩ ⟨by decide, by decide⟩ (Nat.le_of_ble_eq_true rfl) (fun rv σ3 hp => ?_)
    obtain ⟨rfl, h⟩ := hp
    change zV x σ3 20 [(2, za x (29 + q2)), (0, za x (0)), (1, .int (zI (v1)))] []
    refine z_aload_n C 1 dX6_bestHeard_20 rfl rfl ?_
    refine g_X6_6 C kf_X6_51 dX6_bestHeard_21 ?_
    refine z_callV (av := fun w => []) C [] cs_X0_bestMeeting (by decide) (fun _ _ => rfl) rfl (mX0_bestMeeting   σ3 _ h) km_X6_243 dX6_bestHeard_24 rfl rfl ⟨rfl, rfl⟩ ⟨by decide, by decide⟩ (Nat.le_of_ble_eq_true rfl) (fun rv σ4 hp => ?_)
    obtain ⟨a5, rfl, h⟩ := hp
    change zV x σ4 27 [(2, za x (29 + q2)), (0, za x (0)), (1, .int (zI (v1)))] [.int (zI (a5))]
    exact z_iret C E dX6_bestHeard_27 ⟨_, rfl, h⟩
def wX6_among_21 (k : Int → Hp → Prop) : Nat → Int → Int → Int → Int → Int → Hp → Prop
  | 0, _, _, _, _, _, _ => False
  | n + 1, v1, v2, v3, v4, v5, σ => zrg v5 ∧ ((6 ≤ v5 → zrg v1 ∧ ((v1 ≠ 0 → k (v2 - v3) σ) ∧ (¬ (v1 ≠ 0) → k v4 σ))) ∧ (¬ (6 ≤ v5) → wX6_bestHeard v5 σ (fun a6 σ5 => zrg a6 ∧ zrg v2 ∧ ((a6 ≤ v2 → zrg v3 ∧ ((a6 ≤ v3 → wX6_among_21 k n v1 v2 v3 v4 (v5 + 1) σ5) ∧ (¬ (a6 ≤ v3) → wX6_among_21 k n v1 v2 a6 v4 (v5 + 1) σ5))) ∧ (¬ (a6 ≤ v2) → wX6_among_21 k n v1 a6 v2 v5 (v5 + 1) σ5)))))
set_option maxRecDepth 100000 in
theorem sX6_among_21 {x : Cx} (C : zOk x cX6_among RX6 (some .int) (5) (108)) (hN : x.2.2.2.2.1 = 7) {k : Int → Hp → Prop} (E : zEnd x (zPi k x.2.1)) : ∀ (n : Nat) (v1 : Int) (v2 : Int) (v3 : Int) (v4 : Int) (v5 : Int) (σ : Hp), wX6_among_21 k n v1 v2 v3 v4 v5 σ → zV x σ 21 [(0, za x (0)), (1, .int (zI (v1))), (2, .int (zI (v2))), (3, .int (zI (v3))), (4, .int (zI (v4))), (5, .int (zI (v5)))] [] := by
  intro n
  induction n with
  | zero => intro _ _ _ _ _ _ h; exact h.elim
  | succ n ih =>
    intro v1 v2 v3 v4 v5 σ h
    unfold wX6_among_21 at h
    refine z_iload C 5 dX6_among_21 rfl ?_
    refine z_bipush C dX6_among_23 rfl ?_
    obtain ⟨o1, h⟩ := h
    refine z_icmp_ge C 69 dX6_among_25 (by decide) o1 (zrg_d rfl) (fun c2 => ?_) (fun c2 => ?_)
    · have h := h.1 c2
      refine z_iload_n C 1 dX6_among_69 rfl rfl ?_
      obtain ⟨o3, h⟩ := h
      refine z_if_ne C 78 dX6_among_70 (by decide) o3 (fun c4 => ?_) (fun c4 => ?_)
      · have h := h.1 c4
        refine z_iload_n C 2 dX6_among_78 rfl rfl ?_
        refine z_iload_n C 3 dX6_among_79 rfl rfl ?_
        refine z_isub C dX6_among_80 ?_
        exact z_iret C E dX6_among_81 ⟨_, rfl, h⟩
      · have h := h.2 c4
        refine z_iload C 4 dX6_among_73 rfl ?_
        refine z_goto C 81 dX6_among_75 (by decide) ?_
        exact z_iret C E dX6_among_81 ⟨_, rfl, h⟩
    · have h := h.2 c2
      refine z_aload_n C 0 dX6_among_28 rfl rfl ?_
      refine z_iload C 5 dX6_among_29 rfl ?_
      refine z_callV (av := fun w => [.int (zI (v5))]) C [] cs_X6_bestHeard (by decide) (fun _ _ => rfl) rfl (mX6_bestHeard v5  σ _ h) km_X6_250 dX6_among_31 rfl rfl ⟨rfl, rfl⟩ ⟨by decide, by decide⟩ (Nat.le_of_ble_eq_true rfl) (fun rv σ5 hp => ?_)
      obtain ⟨a6, rfl, h⟩ := hp
      change zV x σ5 34 [(0, za x (0)), (1, .int (zI (v1))), (2, .int (zI (v2))), (3, .int (zI (v3))), (4, .int (zI (v4))), (5, .int (zI (v5)))] [.int (zI (a6))]
      refine z_istore C [(6, .int (zI (a6))), (0, za x (0)), (1, .int (zI (v1))), (2, .int (zI (v2))), (3, .int (zI (v3))), (4, .int (zI (v4))), (5, .int (zI (v5)))] dX6_among_34 (by rw [hN]; decide) rfl ?_
      refine z_iload C 0 dX6_among_36 rfl ?_
      refine z_iload_n C 3 dX6_among_38 rfl rfl ?_
      obtain ⟨o7, h⟩ := h
      obtain ⟨o8, h⟩ := h
      refine z_icmp_le C 54 dX6_among_39 (by decide) o7 o8 (fun c9 => ?_) (fun c9 => ?_)
      · have h := h.1 c9
        refine z_iload C 0 dX6_among_54 rfl ?_
        refine z_iload_n C 4 dX6_among_56 rfl rfl ?_
        obtain ⟨o10, h⟩ := h
        refine z_icmp_le C 63 dX6_among_57 (by decide) o7 o10 (fun c11 => ?_) (fun c11 => ?_)
        · have h := h.1 c11
          refine z_iinc C 6 [(5, .int (zI (v5 + 1))), (6, .int (zI (a6))), (0, za x (0)), (1, .int (zI (v1))), (2, .int (zI (v2))), (3, .int (zI (v3))), (4, .int (zI (v4)))] dX6_among_63 rfl (by rw [hN]; decide) rfl ?_
          refine z_goto C 21 dX6_among_66 (by decide) ?_
          refine z_sub C [2, 3, 4, 5, 6, 0] [(0, za x (0)), (1, .int (zI (v1))), (2, .int (zI (v2))), (3, .int (zI (v3))), (4, .int (zI (v4))), (5, .int (zI (v5 + 1)))] rfl ?_
          exact ih v1 v2 v3 v4 (v5 + 1)  σ5 h
        · have h := h.2 c11
          refine z_iload C 0 dX6_among_60 rfl ?_
          refine z_istore_n C [(3, .int (zI (a6))), (6, .int (zI (a6))), (0, za x (0)), (1, .int (zI (v1))), (2, .int (zI (v2))), (4, .int (zI (v4))), (5, .int (zI (v5)))] dX6_among_62 rfl (by rw [hN]; decide) rfl ?_
          refine z_iinc C 6 [(5, .int (zI (v5 + 1))), (3, .int (zI (a6))), (6, .int (zI (a6))), (0, za x (0)), (1, .int (zI (v1))), (2, .int (zI (v2))), (4, .int (zI (v4)))] dX6_among_63 rfl (by rw [hN]; decide) rfl ?_
          refine z_goto C 21 dX6_among_66 (by decide) ?_
          refine z_sub C [3, 4, 5, 1, 6, 0] [(0, za x (0)), (1, .int (zI (v1))), (2, .int (zI (v2))), (3, .int (zI (a6))), (4, .int (zI (v4))), (5, .int (zI (v5 + 1)))] rfl ?_
          exact ih v1 v2 a6 v4 (v5 + 1)  σ5 h
      · have h := h.2 c9
        refine z_iload_n C 3 dX6_among_42 rfl rfl ?_
        refine z_istore_n C [(3, .int (zI (v2))), (6, .int (zI (a6))), (0, za x (0)), (1, .int (zI (v1))), (2, .int (zI (v2))), (4, .int (zI (v4))), (5, .int (zI (v5)))] dX6_among_43 rfl (by rw [hN]; decide) rfl ?_
        refine z_iload C 1 dX6_among_44 rfl ?_
        refine z_istore_n C [(2, .int (zI (a6))), (3, .int (zI (v2))), (6, .int (zI (a6))), (0, za x (0)), (1, .int (zI (v1))), (4, .int (zI (v4))), (5, .int (zI (v5)))] dX6_among_46 rfl (by rw [hN]; decide) rfl ?_
        refine z_iload C 6 dX6_among_47 rfl ?_
        refine z_istore C [(4, .int (zI (v5))), (2, .int (zI (a6))), (3, .int (zI (v2))), (6, .int (zI (a6))), (0, za x (0)), (1, .int (zI (v1))), (5, .int (zI (v5)))] dX6_among_49 (by rw [hN]; decide) rfl ?_
        refine z_goto C 63 dX6_among_51 (by decide) ?_
        refine z_iinc C 6 [(5, .int (zI (v5 + 1))), (4, .int (zI (v5))), (2, .int (zI (a6))), (3, .int (zI (v2))), (6, .int (zI (a6))), (0, za x (0)), (1, .int (zI (v1)))] dX6_among_63 rfl (by rw [hN]; decide) rfl ?_
        refine z_goto C 21 dX6_among_66 (by decide) ?_
        refine z_sub C [5, 6, 2, 3, 1, 0] [(0, za x (0)), (1, .int (zI (v1))), (2, .int (zI (a6))), (3, .int (zI (v2))), (4, .int (zI (v5))), (5, .int (zI (v5 + 1)))] rfl ?_
        exact ih v1 a6 v2 v5 (v5 + 1)  σ5 h
def wX6_among (v1 : Int) (σ : Hp) (k : Int → Hp → Prop) : Prop :=
  wX6_within v1 0 1 σ (fun a2 σ1 => zrg a2 ∧ ((a2 ≠ 0 → (∃ N5, wX6_among_21 k N5 v1 ((-1)) ((-1)) 0 0 σ1)) ∧ (¬ (a2 ≠ 0) → k ((-1)) σ1)))
set_option maxRecDepth 100000 in
theorem mX6_among (v1 : Int) (σ : Hp) (k : Int → Hp → Prop) (h : wX6_among v1 σ k) (l : Launch) : zMt l yX6_among cX6_among 7 (some .int) { frames := 5, cells := 0, slots := 0, locals := 108 } (fun w => [.ref (w.2.1 (0)), .int (zI (v1))]) σ (zPi k) := by
  refine zMt_of (plainFor_of_name (by decide)) (fun w => Nat.le_of_ble_eq_true rfl) (fun x hl hN C E => ?_)
  change zV x σ 0 [(0, za x (0)), (1, .int (zI (v1)))] []
  change zOk x cX6_among RX6 (some .int) (5) (108) at C
  unfold wX6_among at h
  refine z_iload_n C 1 dX6_among_0 rfl rfl ?_
  refine z_iconst C dX6_among_1 ?_
  refine z_iconst C dX6_among_2 ?_
  refine z_callS (av := fun w => [.int (zI (v1)), .int (zI (0)), .int (zI (1))]) C [] cs_X6_within (mX6_within v1 0 1  σ _ h) km_X6_63 dX6_among_3 rfl rfl ⟨rfl, rfl⟩ ⟨by decide, by decide⟩ (Nat.le_of_ble_eq_true rfl) (fun rv σ1 hp => ?_)
  obtain ⟨a2, rfl, h⟩ := hp
  change zV x σ1 6 [(0, za x (0)), (1, .int (zI (v1)))] [.int (zI (a2))]
  obtain ⟨o3, h⟩ := h
  refine z_if_ne C 11 dX6_among_6 (by decide) o3 (fun c4 => ?_) (fun c4 => ?_)
  · have h := h.1 c4
    refine z_iconst C dX6_among_11 ?_
    refine z_istore_n C [(2, .int (zI ((-1)))), (0, za x (0)), (1, .int (zI (v1)))] dX6_among_12 rfl (by rw [hN]; decide) rfl ?_
    refine z_iconst C dX6_among_13 ?_
    refine z_istore_n C [(3, .int (zI ((-1)))), (2, .int (zI ((-1)))), (0, za x (0)), (1, .int (zI (v1)))] dX6_among_14 rfl (by rw [hN]; decide) rfl ?_
    refine z_iconst C dX6_among_15 ?_
    refine z_istore C [(4, .int (zI (0))), (3, .int (zI ((-1)))), (2, .int (zI ((-1)))), (0, za x (0)), (1, .int (zI (v1)))] dX6_among_16 (by rw [hN]; decide) rfl ?_
    refine z_iconst C dX6_among_18 ?_
    refine z_istore C [(5, .int (zI (0))), (4, .int (zI (0))), (3, .int (zI ((-1)))), (2, .int (zI ((-1)))), (0, za x (0)), (1, .int (zI (v1)))] dX6_among_19 (by rw [hN]; decide) rfl ?_
    refine z_sub C [4, 5, 3, 2, 1, 0] [(0, za x (0)), (1, .int (zI (v1))), (2, .int (zI ((-1)))), (3, .int (zI ((-1)))), (4, .int (zI (0))), (5, .int (zI (0)))] rfl ?_
    obtain ⟨n5, h⟩ := h
    exact sX6_among_21 C hN E n5 v1 ((-1)) ((-1)) 0 0  σ1 h
  · have h := h.2 c4
    refine z_iconst C dX6_among_9 ?_
    exact z_iret C E dX6_among_10 ⟨_, rfl, h⟩
