def wJ6_bitCount_0f7a4 (v0 : Int) (σ : Hp) (k : Int → Hp → Prop) : Prop :=
  k (zand (((zand (((zand (v0 - (zand (zushr v0 1) 1431655765)) 858993459) + (zand (zushr (v0 - (zand (zushr v0 1) 1431655765)) 2) 858993459)) + (zushr ((zand (v0 - (zand (zushr v0 1) 1431655765)) 858993459) + (zand (zushr (v0 - (zand (zushr v0 1) 1431655765)) 2) 858993459)) 4)) 252645135) + (zushr (zand (((zand (v0 - (zand (zushr v0 1) 1431655765)) 858993459) + (zand (zushr (v0 - (zand (zushr v0 1) 1431655765)) 2) 858993459)) + (zushr ((zand (v0 - (zand (zushr v0 1) 1431655765)) 858993459) + (zand (zushr (v0 - (zand (zushr v0 1) 1431655765)) 2) 858993459)) 4)) 252645135) 8)) + (zushr ((zand (((zand (v0 - (zand (zushr v0 1) 1431655765)) 858993459) + (zand (zushr (v0 - (zand (zushr v0 1) 1431655765)) 2) 858993459)) + (zushr ((zand (v0 - (zand (zushr v0 1) 1431655765)) 858993459) + (zand (zushr (v0 - (zand (zushr v0 1) 1431655765)) 2) 858993459)) 4)) 252645135) + (zushr (zand (((zand (v0 - (zand (zushr v0 1) 1431655765)) 858993459) + (zand (zushr (v0 - (zand (zushr v0 1) 1431655765)) 2) 858993459)) + (zushr ((zand (v0 - (zand (zushr v0 1) 1431655765)) 858993459) + (zand (zushr (v0 - (zand (zushr v0 1) 1431655765)) 2) 858993459)) 4)) 252645135) 8)) 16)) 63) σ
set_option maxRecDepth 100000 in
theorem mJ6_bitCount_0f7a4 (v0 : Int) (σ : Hp) (k : Int → Hp → Prop) (h : wJ6_bitCount_0f7a4 v0 σ k) (l : Launch) : zMt l yJ6_bitCount_0f7a4 cJ6_bitCount_0f7a4 1 (some .int) { frames := 0, cells := 0, slots := 0, locals := 0 } (fun w => [.int (zI (v0))]) σ (zPi k) := by
  refine zMt_of (by decide +kernel) (fun w => Nat.le_of_ble_eq_true rfl) (fun x hl hN C E => ?_)
  change zV x σ 0 [(0, .int (zI (v0)))] []
  change zOk x cJ6_bitCount_0f7a4 RJ6 (some .int) (0) (0) at C
  unfold wJ6_bitCount_0f7a4 at h
  refine z_iload_n C 0 dJ6_bitCount_0f7a4_0 rfl rfl ?_
  refine z_iload_n C 0 dJ6_bitCount_0f7a4_1 rfl rfl ?_
  refine z_iconst C dJ6_bitCount_0f7a4_2 ?_
  refine z_iushr C dJ6_bitCount_0f7a4_3 ?_
  refine z_ldcw (z := 1431655765) C ki_J6_265 rfl dJ6_bitCount_0f7a4_4 ?_
  refine z_iand C dJ6_bitCount_0f7a4_7 ?_
  refine z_isub C dJ6_bitCount_0f7a4_8 ?_
  refine z_istore_n C [(0, .int (zI (v0 - (zand (zushr v0 1) 1431655765))))] dJ6_bitCount_0f7a4_9 rfl (by rw [hN]; decide) rfl ?_
  refine z_iload_n C 0 dJ6_bitCount_0f7a4_10 rfl rfl ?_
  refine z_ldcw (z := 858993459) C ki_J6_266 rfl dJ6_bitCount_0f7a4_11 ?_
  refine z_iand C dJ6_bitCount_0f7a4_14 ?_
  refine z_iload_n C 0 dJ6_bitCount_0f7a4_15 rfl rfl ?_
  refine z_iconst C dJ6_bitCount_0f7a4_16 ?_
  refine z_iushr C dJ6_bitCount_0f7a4_17 ?_
  refine z_ldcw (z := 858993459) C ki_J6_266 rfl dJ6_bitCount_0f7a4_18 ?_
  refine z_iand C dJ6_bitCount_0f7a4_21 ?_
  refine z_iadd C dJ6_bitCount_0f7a4_22 ?_
  refine z_istore_n C [(0, .int (zI ((zand (v0 - (zand (zushr v0 1) 1431655765)) 858993459) + (zand (zushr (v0 - (zand (zushr v0 1) 1431655765)) 2) 858993459))))] dJ6_bitCount_0f7a4_23 rfl (by rw [hN]; decide) rfl ?_
  refine z_iload_n C 0 dJ6_bitCount_0f7a4_24 rfl rfl ?_
  refine z_iload_n C 0 dJ6_bitCount_0f7a4_25 rfl rfl ?_
  refine z_iconst C dJ6_bitCount_0f7a4_26 ?_
  refine z_iushr C dJ6_bitCount_0f7a4_27 ?_
  refine z_iadd C dJ6_bitCount_0f7a4_28 ?_
  refine z_ldcw (z := 252645135) C ki_J6_267 rfl dJ6_bitCount_0f7a4_29 ?_
  refine z_iand C dJ6_bitCount_0f7a4_32 ?_
  refine z_istore_n C [(0, .int (zI (zand (((zand (v0 - (zand (zushr v0 1) 1431655765)) 858993459) + (zand (zushr (v0 - (zand (zushr v0 1) 1431655765)) 2) 858993459)) + (zushr ((zand (v0 - (zand (zushr v0 1) 1431655765)) 858993459) + (zand (zushr (v0 - (zand (zushr v0 1) 1431655765)) 2) 858993459)) 4)) 252645135)))] dJ6_bitCount_0f7a4_33 rfl (by rw [hN]; decide) rfl ?_
  refine z_iload_n C 0 dJ6_bitCount_0f7a4_34 rfl rfl ?_
  refine z_iload_n C 0 dJ6_bitCount_0f7a4_35 rfl rfl ?_
  refine z_bipush C dJ6_bitCount_0f7a4_36 rfl ?_
  refine z_iushr C dJ6_bitCount_0f7a4_38 ?_
  refine z_iadd C dJ6_bitCount_0f7a4_39 ?_
  refine z_istore_n C [(0, .int (zI ((zand (((zand (v0 - (zand (zushr v0 1) 1431655765)) 858993459) + (zand (zushr (v0 - (zand (zushr v0 1) 1431655765)) 2) 858993459)) + (zushr ((zand (v0 - (zand (zushr v0 1) 1431655765)) 858993459) + (zand (zushr (v0 - (zand (zushr v0 1) 1431655765)) 2) 858993459)) 4)) 252645135) + (zushr (zand (((zand (v0 - (zand (zushr v0 1) 1431655765)) 858993459) + (zand (zushr (v0 - (zand (zushr v0 1) 1431655765)) 2) 858993459)) + (zushr ((zand (v0 - (zand (zushr v0 1) 1431655765)) 858993459) + (zand (zushr (v0 - (zand (zushr v0 1) 1431655765)) 2) 858993459)) 4)) 252645135) 8))))] dJ6_bitCount_0f7a4_40 rfl (by rw [hN]; decide) rfl ?_
  refine z_iload_n C 0 dJ6_bitCount_0f7a4_41 rfl rfl ?_
  refine z_iload_n C 0 dJ6_bitCount_0f7a4_42 rfl rfl ?_
  refine z_bipush C dJ6_bitCount_0f7a4_43 rfl ?_
  refine z_iushr C dJ6_bitCount_0f7a4_45 ?_
  refine z_iadd C dJ6_bitCount_0f7a4_46 ?_
  refine z_istore_n C [(0, .int (zI (((zand (((zand (v0 - (zand (zushr v0 1) 1431655765)) 858993459) + (zand (zushr (v0 - (zand (zushr v0 1) 1431655765)) 2) 858993459)) + (zushr ((zand (v0 - (zand (zushr v0 1) 1431655765)) 858993459) + (zand (zushr (v0 - (zand (zushr v0 1) 1431655765)) 2) 858993459)) 4)) 252645135) + (zushr (zand (((zand (v0 - (zand (zushr v0 1) 1431655765)) 858993459) + (zand (zushr (v0 - (zand (zushr v0 1) 1431655765)) 2) 858993459)) + (zushr ((zand (v0 - (zand (zushr v0 1) 1431655765)) 858993459) + (zand (zushr (v0 - (zand (zushr v0 1) 1431655765)) 2) 858993459)) 4)) 252645135) 8)) + (zushr ((zand (((zand (v0 - (zand (zushr v0 1) 1431655765)) 858993459) + (zand (zushr (v0 - (zand (zushr v0 1) 1431655765)) 2) 858993459)) + (zushr ((zand (v0 - (zand (zushr v0 1) 1431655765)) 858993459) + (zand (zushr (v0 - (zand (zushr v0 1) 1431655765)) 2) 858993459)) 4)) 252645135) + (zushr (zand (((zand (v0 - (zand (zushr v0 1) 1431655765)) 858993459) + (zand (zushr (v0 - (zand (zushr v0 1) 1431655765)) 2) 858993459)) + (zushr ((zand (v0 - (zand (zushr v0 1) 1431655765)) 858993459) + (zand (zushr (v0 - (zand (zushr v0 1) 1431655765)) 2) 858993459)) 4)) 252645135) 8)) 16))))] dJ6_bitCount_0f7a4_47 rfl (by rw [hN]; decide) rfl ?_
  refine z_iload_n C 0 dJ6_bitCount_0f7a4_48 rfl rfl ?_
  refine z_bipush C dJ6_bitCount_0f7a4_49 rfl ?_
  refine z_iand C dJ6_bitCount_0f7a4_51 ?_
  exact z_iret C E dJ6_bitCount_0f7a4_52 ⟨_, rfl, h⟩
def wJ7_fill_53178_5 (k : Hp → Prop) : Nat → Nat → Nat → Int → Int → Int → Hp → Prop
  | 0, _, _, _, _, _, _ => False
  | n + 1, p0, n0, v1, v2, v3, σ => zrg v2 ∧ zrg v3 ∧ ((v3 ≤ v2 → k σ) ∧ (¬ (v3 ≤ v2) → (0 ≤ v2 ∧ v2 < (n0 : Int)) ∧ wJ7_fill_53178_5 k n p0 n0 v1 (v2 + 1) v3 (zst σ p0 v2.toNat v1)))
set_option maxRecDepth 100000 in
theorem sJ7_fill_53178_5 {x : Cx} (C : zOk x cJ7_fill_53178 RJ7 (none) (0) (0)) (hN : x.2.2.2.2.1 = 4) {k : Hp → Prop} (E : zEnd x (zPv k x.2.1)) : ∀ (n : Nat) (p0 : Nat) (n0 : Nat) (v1 : Int) (v2 : Int) (v3 : Int) (hp0 : zIA p0 n0) (σ : Hp), wJ7_fill_53178_5 k n p0 n0 v1 v2 v3 σ → zV x σ 5 [(0, za x (p0)), (1, .int (zI (v1))), (2, .int (zI (v2))), (3, .int (zI (v3)))] [] := by
  intro n
  induction n with
  | zero => intro _ _ _ _ _ _ _ h; exact h.elim
  | succ n ih =>
    intro p0 n0 v1 v2 v3 hp0 σ h
    unfold wJ7_fill_53178_5 at h
    refine z_iload_n C 2 dJ7_fill_53178_5 rfl rfl ?_
    refine z_iload_n C 3 dJ7_fill_53178_6 rfl rfl ?_
    obtain ⟨o1, h⟩ := h
    obtain ⟨o2, h⟩ := h
    refine z_icmp_ge C 20 dJ7_fill_53178_7 (by decide) o1 o2 (fun c3 => ?_) (fun c3 => ?_)
    · have h := h.1 c3
      exact z_vret C E dJ7_fill_53178_20 ⟨rfl, h⟩
    · have h := h.2 c3
      refine z_aload_n C 0 dJ7_fill_53178_10 rfl rfl ?_
      refine z_iload_n C 2 dJ7_fill_53178_11 rfl rfl ?_
      refine z_iload_n C 1 dJ7_fill_53178_12 rfl rfl ?_
      obtain ⟨o4, h⟩ := h
      refine z_iast C hp0 dJ7_fill_53178_13 o4.1 o4.2 ?_
      refine z_iinc C 2 [(2, .int (zI (v2 + 1))), (0, za x (p0)), (1, .int (zI (v1))), (3, .int (zI (v3)))] dJ7_fill_53178_14 rfl (by rw [hN]; decide) rfl ?_
      refine z_goto C 5 dJ7_fill_53178_17 (by decide) ?_
      refine z_sub C [1, 2, 0, 3] [(0, za x (p0)), (1, .int (zI (v1))), (2, .int (zI (v2 + 1))), (3, .int (zI (v3)))] rfl ?_
      exact ih p0 n0 v1 (v2 + 1) v3 hp0 (zst σ p0 v2.toNat v1) h
def wJ7_fill_53178 (p0 : Nat) (n0 : Nat) (v1 : Int) (σ : Hp) (k : Hp → Prop) : Prop :=
  (∃ N1, wJ7_fill_53178_5 k N1 p0 n0 v1 0 ((n0 : Int)) σ)
set_option maxRecDepth 100000 in
theorem mJ7_fill_53178 (p0 : Nat) (n0 : Nat) (v1 : Int) (hp0 : zIA p0 n0) (σ : Hp) (k : Hp → Prop) (h : wJ7_fill_53178 p0 n0 v1 σ k) (l : Launch) : zMt l yJ7_fill_53178 cJ7_fill_53178 4 (none) { frames := 0, cells := 0, slots := 0, locals := 0 } (fun w => [.ref (w.2.1 (p0)), .int (zI (v1))]) σ (zPv k) := by
  refine zMt_of (by decide +kernel) (fun w => Nat.le_of_ble_eq_true rfl) (fun x hl hN C E => ?_)
  change zV x σ 0 [(0, za x (p0)), (1, .int (zI (v1)))] []
  change zOk x cJ7_fill_53178 RJ7 (none) (0) (0) at C
  unfold wJ7_fill_53178 at h
  refine z_iconst C dJ7_fill_53178_0 ?_
  refine z_istore_n C [(2, .int (zI (0))), (0, za x (p0)), (1, .int (zI (v1)))] dJ7_fill_53178_1 rfl (by rw [hN]; decide) rfl ?_
  refine z_aload_n C 1 dJ7_fill_53178_2 rfl rfl ?_
  refine z_alen C hp0 dJ7_fill_53178_3 ?_
  refine z_istore_n C [(3, .int (zI ((n0 : Int)))), (2, .int (zI (0))), (0, za x (p0)), (1, .int (zI (v1)))] dJ7_fill_53178_4 rfl (by rw [hN]; decide) rfl ?_
  refine z_sub C [2, 3, 1, 0] [(0, za x (p0)), (1, .int (zI (v1))), (2, .int (zI (0))), (3, .int (zI ((n0 : Int))))] rfl ?_
  obtain ⟨n1, h⟩ := h
  exact sJ7_fill_53178_5 C hN E n1 p0 n0 v1 0 ((n0 : Int)) hp0 σ h
def wJ9_floorMod_7cf53 (v0 : Int) (v1 : Int) (σ : Hp) (k : Int → Hp → Prop) : Prop :=
  zrg v0 ∧ zrg v1 ∧ 0 < v1 ∧ zrg (zxor v0 v1) ∧ ((0 ≤ zxor v0 v1 → k (Int.tmod v0 v1) σ) ∧ (¬ (0 ≤ zxor v0 v1) → zrg (Int.tmod v0 v1) ∧ ((Int.tmod v0 v1 = 0 → k (Int.tmod v0 v1) σ) ∧ (¬ (Int.tmod v0 v1 = 0) → k ((Int.tmod v0 v1) + v1) σ))))
set_option maxRecDepth 100000 in
theorem mJ9_floorMod_7cf53 (v0 : Int) (v1 : Int) (σ : Hp) (k : Int → Hp → Prop) (h : wJ9_floorMod_7cf53 v0 v1 σ k) (l : Launch) : zMt l yJ9_floorMod_7cf53 cJ9_floorMod_7cf53 3 (some .int) { frames := 0, cells := 0, slots := 0, locals := 0 } (fun w => [.int (zI (v0)), .int (zI (v1))]) σ (zPi k) := by
  refine zMt_of (by decide +kernel) (fun w => Nat.le_of_ble_eq_true rfl) (fun x hl hN C E => ?_)
  change zV x σ 0 [(0, .int (zI (v0))), (1, .int (zI (v1)))] []
  change zOk x cJ9_floorMod_7cf53 RJ9 (some .int) (0) (0) at C
  unfold wJ9_floorMod_7cf53 at h
  refine z_iload_n C 0 dJ9_floorMod_7cf53_0 rfl rfl ?_
  refine z_iload_n C 1 dJ9_floorMod_7cf53_1 rfl rfl ?_
  obtain ⟨o1, h⟩ := h
  obtain ⟨o2, h⟩ := h
  obtain ⟨o3, h⟩ := h
  refine z_irem C dJ9_floorMod_7cf53_2 o1 o2 o3 ?_
  refine z_istore_n C [(2, .int (zI (Int.tmod v0 v1))), (0, .int (zI (v0))), (1, .int (zI (v1)))] dJ9_floorMod_7cf53_3 rfl (by rw [hN]; decide) rfl ?_
  refine z_iload_n C 1 dJ9_floorMod_7cf53_4 rfl rfl ?_
  refine z_iload_n C 2 dJ9_floorMod_7cf53_5 rfl rfl ?_
  refine z_ixor C dJ9_floorMod_7cf53_6 ?_
  obtain ⟨o4, h⟩ := h
  refine z_if_ge C 18 dJ9_floorMod_7cf53_7 (by decide) o4 (fun c5 => ?_) (fun c5 => ?_)
  · have h := h.1 c5
    refine z_iload_n C 0 dJ9_floorMod_7cf53_18 rfl rfl ?_
    exact z_iret C E dJ9_floorMod_7cf53_19 ⟨_, rfl, h⟩
  · have h := h.2 c5
    refine z_iload_n C 0 dJ9_floorMod_7cf53_10 rfl rfl ?_
    obtain ⟨o6, h⟩ := h
    refine z_if_eq C 18 dJ9_floorMod_7cf53_11 (by decide) o6 (fun c7 => ?_) (fun c7 => ?_)
    · have h := h.1 c7
      refine z_iload_n C 0 dJ9_floorMod_7cf53_18 rfl rfl ?_
      exact z_iret C E dJ9_floorMod_7cf53_19 ⟨_, rfl, h⟩
    · have h := h.2 c7
      refine z_iload_n C 0 dJ9_floorMod_7cf53_14 rfl rfl ?_
      refine z_iload_n C 2 dJ9_floorMod_7cf53_15 rfl rfl ?_
      refine z_iadd C dJ9_floorMod_7cf53_16 ?_
      exact z_iret C E dJ9_floorMod_7cf53_17 ⟨_, rfl, h⟩
def wX6_within (v0 : Int) (v1 : Int) (v2 : Int) (σ : Hp) (k : Int → Hp → Prop) : Prop :=
  zrg v0 ∧ zrg v1 ∧ ((v0 < v1 → k 0 σ) ∧ (¬ (v0 < v1) → zrg v2 ∧ ((v2 < v0 → k 0 σ) ∧ (¬ (v2 < v0) → k 1 σ))))
set_option maxRecDepth 100000 in
theorem mX6_within (v0 : Int) (v1 : Int) (v2 : Int) (σ : Hp) (k : Int → Hp → Prop) (h : wX6_within v0 v1 v2 σ k) (l : Launch) : zMt l yX6_within cX6_within 3 (some .boolean) { frames := 0, cells := 0, slots := 0, locals := 0 } (fun w => [.int (zI (v0)), .int (zI (v1)), .int (zI (v2))]) σ (zPi k) := by
  refine zMt_of (plainFor_of_name (by decide)) (fun w => Nat.le_of_ble_eq_true rfl) (fun x hl hN C E => ?_)
  change zV x σ 0 [(0, .int (zI (v0))), (1, .int (zI (v1))), (2, .int (zI (v2)))] []
  change zOk x cX6_within RX6 (some .boolean) (0) (0) at C
  unfold wX6_within at h
  refine z_iload_n C 0 dX6_within_0 rfl rfl ?_
  refine z_iload_n C 1 dX6_within_1 rfl rfl ?_
  obtain ⟨o1, h⟩ := h
  obtain ⟨o2, h⟩ := h
  refine z_icmp_lt C 14 dX6_within_2 (by decide) o1 o2 (fun c3 => ?_) (fun c3 => ?_)
  · have h := h.1 c3
    refine z_iconst C dX6_within_14 ?_
    exact z_zret C E dX6_within_15 (by decide) ⟨_, rfl, h⟩
  · have h := h.2 c3
    refine z_iload_n C 0 dX6_within_5 rfl rfl ?_
    refine z_iload_n C 2 dX6_within_6 rfl rfl ?_
    obtain ⟨o4, h⟩ := h
    refine z_icmp_gt C 14 dX6_within_7 (by decide) o1 o4 (fun c5 => ?_) (fun c5 => ?_)
    · have h := h.1 c5
      refine z_iconst C dX6_within_14 ?_
      exact z_zret C E dX6_within_15 (by decide) ⟨_, rfl, h⟩
    · have h := h.2 c5
      refine z_iconst C dX6_within_10 ?_
      refine z_goto C 15 dX6_within_11 (by decide) ?_
      exact z_zret C E dX6_within_15 (by decide) ⟨_, rfl, h⟩
def wX0_add (v1 : Int) (v2 : Int) (σ : Hp) (k : Hp → Prop) : Prop :=
  wX6_within (σ 12 2) 0 39 σ (fun a2 σ1 => zrg a2 ∧ ((a2 = 0 → k σ1) ∧ (¬ (a2 = 0) → (0 ≤ σ1 12 2 ∧ σ1 12 2 < 40) ∧ (0 ≤ (zst σ1 13 (σ1 12 2).toNat v1) 12 2 ∧ (zst σ1 13 (σ1 12 2).toNat v1) 12 2 < 40) ∧ k (zst (zst (zst σ1 13 (σ1 12 2).toNat v1) 14 ((zst σ1 13 (σ1 12 2).toNat v1) 12 2).toNat v2) 12 2 (((zst (zst σ1 13 (σ1 12 2).toNat v1) 14 ((zst σ1 13 (σ1 12 2).toNat v1) 12 2).toNat v2) 12 2) + 1)))))
set_option maxRecDepth 100000 in
theorem mX0_add (v1 : Int) (v2 : Int) (σ : Hp) (k : Hp → Prop) (h : wX0_add v1 v2 σ k) (l : Launch) : zMt l yX0_add cX0_add 3 (none) { frames := 1, cells := 0, slots := 0, locals := 22 } (fun w => [.ref (w.2.1 (12)), .int (zI (v1)), .int (zI (v2))]) σ (zPv k) := by
  refine zMt_of (plainFor_of_name (by decide)) (fun w => Nat.le_of_ble_eq_true rfl) (fun x hl hN C E => ?_)
  change zV x σ 0 [(0, za x (12)), (1, .int (zI (v1))), (2, .int (zI (v2)))] []
  change zOk x cX0_add RX0 (none) (1) (22) at C
  unfold wX0_add at h
  refine z_aload_n C 0 dX0_add_0 rfl rfl ?_
  refine g_X0_2 C kf_X0_16 dX0_add_1 ?_
  refine z_iconst C dX0_add_4 ?_
  refine z_bipush C dX0_add_5 rfl ?_
  refine z_callN (av := fun w => [.int (zI (σ 12 2)), .int (zI (0)), .int (zI (39))]) C [] cs_X6_within (mX6_within (σ 12 2) 0 39  σ _ h) kn_X0_23 dX0_add_7 rfl rfl ⟨rfl, rfl⟩ ⟨by decide, by decide⟩ (Nat.le_of_ble_eq_true rfl) (fun rv σ1 hp => ?_)
  obtain ⟨a2, rfl, h⟩ := hp
  change zV x σ1 10 [(0, za x (12)), (1, .int (zI (v1))), (2, .int (zI (v2)))] [.int (zI (a2))]
  obtain ⟨o3, h⟩ := h
  refine z_if_eq C 43 dX0_add_10 (by decide) o3 (fun c4 => ?_) (fun c4 => ?_)
  · have h := h.1 c4
    exact z_vret C E dX0_add_43 ⟨rfl, h⟩
  · have h := h.2 c4
    refine z_aload_n C 0 dX0_add_13 rfl rfl ?_
    refine g_X0_0 C kf_X0_9 dX0_add_14 ?_
    refine z_aload_n C 0 dX0_add_17 rfl rfl ?_
    refine g_X0_2 C kf_X0_16 dX0_add_18 ?_
    refine z_iload_n C 1 dX0_add_21 rfl rfl ?_
    obtain ⟨o5, h⟩ := h
    refine z_iast C ia_13 dX0_add_22 o5.1 o5.2 ?_
    refine z_aload_n C 0 dX0_add_23 rfl rfl ?_
    refine g_X0_1 C kf_X0_13 dX0_add_24 ?_
    refine z_aload_n C 0 dX0_add_27 rfl rfl ?_
    refine g_X0_2 C kf_X0_16 dX0_add_28 ?_
    refine z_iload_n C 2 dX0_add_31 rfl rfl ?_
    obtain ⟨o6, h⟩ := h
    refine z_iast C ia_14 dX0_add_32 o6.1 o6.2 ?_
    refine z_aload_n C 0 dX0_add_33 rfl rfl ?_
    refine z_dup C dX0_add_34 rfl ?_
    refine g_X0_2 C kf_X0_16 dX0_add_35 ?_
    refine z_iconst C dX0_add_38 ?_
    refine z_iadd C dX0_add_39 ?_
    refine p_X0_2 C kf_X0_16 dX0_add_40 ?_
    exact z_vret C E dX0_add_43 ⟨rfl, h⟩
def wX0_bestLate (σ : Hp) (k : Int → Hp → Prop) : Prop :=
  zrg (σ 12 4) ∧ k (Int.tdiv (σ 12 4) 41) σ
set_option maxRecDepth 100000 in
theorem mX0_bestLate (σ : Hp) (k : Int → Hp → Prop) (h : wX0_bestLate  σ k) (l : Launch) : zMt l yX0_bestLate cX0_bestLate 1 (some .int) { frames := 0, cells := 0, slots := 0, locals := 0 } (fun w => [.ref (w.2.1 (12))]) σ (zPi k) := by
  refine zMt_of (plainFor_of_name (by decide)) (fun w => Nat.le_of_ble_eq_true rfl) (fun x hl hN C E => ?_)
  change zV x σ 0 [(0, za x (12))] []
  change zOk x cX0_bestLate RX0 (some .int) (0) (0) at C
  unfold wX0_bestLate at h
  refine z_aload_n C 0 dX0_bestLate_0 rfl rfl ?_
  refine g_X0_4 C kf_X0_53 dX0_bestLate_1 ?_
  refine z_bipush C dX0_bestLate_4 rfl ?_
  obtain ⟨o1, h⟩ := h
  refine z_idiv C dX0_bestLate_6 o1 (zrg_d rfl) (by decide) ?_
  exact z_iret C E dX0_bestLate_7 ⟨_, rfl, h⟩
def wX0_bestMeeting (σ : Hp) (k : Int → Hp → Prop) : Prop :=
  wX6_within (σ 12 4) 0 ((((779 : Nat) : Int)) - 1) σ (fun a2 σ1 => zrg a2 ∧ ((a2 = 0 → k 0 σ1) ∧ (¬ (a2 = 0) → (0 ≤ σ1 12 4 ∧ σ1 12 4 < 779) ∧ k (σ1 15 (σ1 12 4).toNat) σ1)))
set_option maxRecDepth 100000 in
theorem mX0_bestMeeting (σ : Hp) (k : Int → Hp → Prop) (h : wX0_bestMeeting  σ k) (l : Launch) : zMt l yX0_bestMeeting cX0_bestMeeting 1 (some .int) { frames := 1, cells := 0, slots := 0, locals := 22 } (fun w => [.ref (w.2.1 (12))]) σ (zPi k) := by
  refine zMt_of (plainFor_of_name (by decide)) (fun w => Nat.le_of_ble_eq_true rfl) (fun x hl hN C E => ?_)
  change zV x σ 0 [(0, za x (12))] []
  change zOk x cX0_bestMeeting RX0 (some .int) (1) (22) at C
  unfold wX0_bestMeeting at h
  refine z_aload_n C 0 dX0_bestMeeting_0 rfl rfl ?_
  refine g_X0_4 C kf_X0_53 dX0_bestMeeting_1 ?_
  refine z_iconst C dX0_bestMeeting_4 ?_
  refine z_aload_n C 0 dX0_bestMeeting_5 rfl rfl ?_
  refine g_X0_3 C kf_X0_20 dX0_bestMeeting_6 ?_
  refine z_alen C ia_15 dX0_bestMeeting_9 ?_
  refine z_iconst C dX0_bestMeeting_10 ?_
  refine z_isub C dX0_bestMeeting_11 ?_
  refine z_callN (av := fun w => [.int (zI (σ 12 4)), .int (zI (0)), .int (zI ((((779 : Nat) : Int)) - 1))]) C [] cs_X6_within (mX6_within (σ 12 4) 0 ((((779 : Nat) : Int)) - 1)  σ _ h) kn_X0_23 dX0_bestMeeting_12 rfl rfl ⟨rfl, rfl⟩ ⟨by decide, by decide⟩ (Nat.le_of_ble_eq_true rfl) (fun rv σ1 hp => ?_)
  obtain ⟨a2, rfl, h⟩ := hp
  change zV x σ1 15 [(0, za x (12))] [.int (zI (a2))]
  obtain ⟨o3, h⟩ := h
  refine z_if_eq C 30 dX0_bestMeeting_15 (by decide) o3 (fun c4 => ?_) (fun c4 => ?_)
  · have h := h.1 c4
    refine z_iconst C dX0_bestMeeting_30 ?_
    exact z_iret C E dX0_bestMeeting_31 ⟨_, rfl, h⟩
  · have h := h.2 c4
    refine z_aload_n C 0 dX0_bestMeeting_18 rfl rfl ?_
    refine g_X0_3 C kf_X0_20 dX0_bestMeeting_19 ?_
    refine z_aload_n C 0 dX0_bestMeeting_22 rfl rfl ?_
    refine g_X0_4 C kf_X0_53 dX0_bestMeeting_23 ?_
    obtain ⟨o5, h⟩ := h
    refine z_iald C ia_15 dX0_bestMeeting_26 o5.1 o5.2 ?_
    refine z_goto C 31 dX0_bestMeeting_27 (by decide) ?_
    exact z_iret C E dX0_bestMeeting_31 ⟨_, rfl, h⟩
def wX0_bestMoved (σ : Hp) (k : Int → Hp → Prop) : Prop :=
  zrg (σ 12 4) ∧ k ((Int.tmod (σ 12 4) 41) - 20) σ
set_option maxRecDepth 100000 in
theorem mX0_bestMoved (σ : Hp) (k : Int → Hp → Prop) (h : wX0_bestMoved  σ k) (l : Launch) : zMt l yX0_bestMoved cX0_bestMoved 1 (some .int) { frames := 0, cells := 0, slots := 0, locals := 0 } (fun w => [.ref (w.2.1 (12))]) σ (zPi k) := by
  refine zMt_of (plainFor_of_name (by decide)) (fun w => Nat.le_of_ble_eq_true rfl) (fun x hl hN C E => ?_)
  change zV x σ 0 [(0, za x (12))] []
  change zOk x cX0_bestMoved RX0 (some .int) (0) (0) at C
  unfold wX0_bestMoved at h
  refine z_aload_n C 0 dX0_bestMoved_0 rfl rfl ?_
  refine g_X0_4 C kf_X0_53 dX0_bestMoved_1 ?_
  refine z_bipush C dX0_bestMoved_4 rfl ?_
  obtain ⟨o1, h⟩ := h
  refine z_irem C dX0_bestMoved_6 o1 (zrg_d rfl) (by decide) ?_
  refine z_bipush C dX0_bestMoved_7 rfl ?_
  refine z_isub C dX0_bestMoved_9 ?_
  exact z_iret C E dX0_bestMoved_10 ⟨_, rfl, h⟩
def wX0_clear (σ : Hp) (k : Hp → Prop) : Prop :=
  k (zst σ 12 2 0)
set_option maxRecDepth 100000 in
theorem mX0_clear (σ : Hp) (k : Hp → Prop) (h : wX0_clear  σ k) (l : Launch) : zMt l yX0_clear cX0_clear 1 (none) { frames := 0, cells := 0, slots := 0, locals := 0 } (fun w => [.ref (w.2.1 (12))]) σ (zPv k) := by
  refine zMt_of (plainFor_of_name (by decide)) (fun w => Nat.le_of_ble_eq_true rfl) (fun x hl hN C E => ?_)
  change zV x σ 0 [(0, za x (12))] []
  change zOk x cX0_clear RX0 (none) (0) (0) at C
  unfold wX0_clear at h
  refine z_aload_n C 0 dX0_clear_0 rfl rfl ?_
  refine z_iconst C dX0_clear_1 ?_
  refine p_X0_2 C kf_X0_16 dX0_clear_2 ?_
  exact z_vret C E dX0_clear_5 ⟨rfl, h⟩
def wX0_holds_2 (k : Int → Hp → Prop) : Nat → Int → Int → Int → Hp → Prop
  | 0, _, _, _, _ => False
  | n + 1, v1, v2, v3, σ => zrg v3 ∧ zrg (σ 12 2) ∧ ((σ 12 2 ≤ v3 → k 0 σ) ∧ (¬ (σ 12 2 ≤ v3) → ((40 ≤ v3 → k 0 σ) ∧ (¬ (40 ≤ v3) → (0 ≤ v3 ∧ v3 < 40) ∧ zrg (σ 13 v3.toNat) ∧ zrg v1 ∧ ((σ 13 v3.toNat ≠ v1 → wX0_holds_2 k n v1 v2 (v3 + 1) σ) ∧ (¬ (σ 13 v3.toNat ≠ v1) → zrg (σ 14 v3.toNat) ∧ zrg v2 ∧ ((σ 14 v3.toNat ≠ v2 → wX0_holds_2 k n v1 v2 (v3 + 1) σ) ∧ (¬ (σ 14 v3.toNat ≠ v2) → k 1 σ))))))))
set_option maxRecDepth 100000 in
theorem sX0_holds_2 {x : Cx} (C : zOk x cX0_holds RX0 (some .boolean) (0) (0)) (hN : x.2.2.2.2.1 = 4) {k : Int → Hp → Prop} (E : zEnd x (zPi k x.2.1)) : ∀ (n : Nat) (v1 : Int) (v2 : Int) (v3 : Int) (σ : Hp), wX0_holds_2 k n v1 v2 v3 σ → zV x σ 2 [(0, za x (12)), (1, .int (zI (v1))), (2, .int (zI (v2))), (3, .int (zI (v3)))] [] := by
  intro n
  induction n with
  | zero => intro _ _ _ _ h; exact h.elim
  | succ n ih =>
    intro v1 v2 v3 σ h
    unfold wX0_holds_2 at h
    refine z_iload_n C 3 dX0_holds_2 rfl rfl ?_
    refine z_aload_n C 0 dX0_holds_3 rfl rfl ?_
    refine g_X0_2 C kf_X0_16 dX0_holds_4 ?_
    obtain ⟨o1, h⟩ := h
    obtain ⟨o2, h⟩ := h
    refine z_icmp_ge C 44 dX0_holds_7 (by decide) o1 o2 (fun c3 => ?_) (fun c3 => ?_)
    · have h := h.1 c3
      refine z_iconst C dX0_holds_44 ?_
      exact z_zret C E dX0_holds_45 (by decide) ⟨_, rfl, h⟩
    · have h := h.2 c3
      refine z_iload_n C 3 dX0_holds_10 rfl rfl ?_
      refine z_bipush C dX0_holds_11 rfl ?_
      refine z_icmp_ge C 44 dX0_holds_13 (by decide) o1 (zrg_d rfl) (fun c4 => ?_) (fun c4 => ?_)
      · have h := h.1 c4
        refine z_iconst C dX0_holds_44 ?_
        exact z_zret C E dX0_holds_45 (by decide) ⟨_, rfl, h⟩
      · have h := h.2 c4
        refine z_aload_n C 0 dX0_holds_16 rfl rfl ?_
        refine g_X0_0 C kf_X0_9 dX0_holds_17 ?_
        refine z_iload_n C 3 dX0_holds_20 rfl rfl ?_
        obtain ⟨o5, h⟩ := h
        refine z_iald C ia_13 dX0_holds_21 o5.1 o5.2 ?_
        refine z_iload_n C 1 dX0_holds_22 rfl rfl ?_
        obtain ⟨o6, h⟩ := h
        obtain ⟨o7, h⟩ := h
        refine z_icmp_ne C 38 dX0_holds_23 (by decide) o6 o7 (fun c8 => ?_) (fun c8 => ?_)
        · have h := h.1 c8
          refine z_iinc C 3 [(3, .int (zI (v3 + 1))), (0, za x (12)), (1, .int (zI (v1))), (2, .int (zI (v2)))] dX0_holds_38 rfl (by rw [hN]; decide) rfl ?_
          refine z_goto C 2 dX0_holds_41 (by decide) ?_
          refine z_sub C [1, 2, 3, 0] [(0, za x (12)), (1, .int (zI (v1))), (2, .int (zI (v2))), (3, .int (zI (v3 + 1)))] rfl ?_
          exact ih v1 v2 (v3 + 1)  σ h
        · have h := h.2 c8
          refine z_aload_n C 0 dX0_holds_26 rfl rfl ?_
          refine g_X0_1 C kf_X0_13 dX0_holds_27 ?_
          refine z_iload_n C 3 dX0_holds_30 rfl rfl ?_
          refine z_iald C ia_14 dX0_holds_31 o5.1 o5.2 ?_
          refine z_iload_n C 2 dX0_holds_32 rfl rfl ?_
          obtain ⟨o9, h⟩ := h
          obtain ⟨o10, h⟩ := h
          refine z_icmp_ne C 38 dX0_holds_33 (by decide) o9 o10 (fun c11 => ?_) (fun c11 => ?_)
          · have h := h.1 c11
            refine z_iinc C 3 [(3, .int (zI (v3 + 1))), (0, za x (12)), (1, .int (zI (v1))), (2, .int (zI (v2)))] dX0_holds_38 rfl (by rw [hN]; decide) rfl ?_
            refine z_goto C 2 dX0_holds_41 (by decide) ?_
            refine z_sub C [1, 2, 3, 0] [(0, za x (12)), (1, .int (zI (v1))), (2, .int (zI (v2))), (3, .int (zI (v3 + 1)))] rfl ?_
            exact ih v1 v2 (v3 + 1)  σ h
          · have h := h.2 c11
            refine z_iconst C dX0_holds_36 ?_
            exact z_zret C E dX0_holds_37 (by decide) ⟨_, rfl, h⟩
def wX0_holds (v1 : Int) (v2 : Int) (σ : Hp) (k : Int → Hp → Prop) : Prop :=
  (∃ N1, wX0_holds_2 k N1 v1 v2 0 σ)
set_option maxRecDepth 100000 in
theorem mX0_holds (v1 : Int) (v2 : Int) (σ : Hp) (k : Int → Hp → Prop) (h : wX0_holds v1 v2 σ k) (l : Launch) : zMt l yX0_holds cX0_holds 4 (some .boolean) { frames := 0, cells := 0, slots := 0, locals := 0 } (fun w => [.ref (w.2.1 (12)), .int (zI (v1)), .int (zI (v2))]) σ (zPi k) := by
  refine zMt_of (plainFor_of_name (by decide)) (fun w => Nat.le_of_ble_eq_true rfl) (fun x hl hN C E => ?_)
  change zV x σ 0 [(0, za x (12)), (1, .int (zI (v1))), (2, .int (zI (v2)))] []
  change zOk x cX0_holds RX0 (some .boolean) (0) (0) at C
  unfold wX0_holds at h
  refine z_iconst C dX0_holds_0 ?_
  refine z_istore_n C [(3, .int (zI (0))), (0, za x (12)), (1, .int (zI (v1))), (2, .int (zI (v2)))] dX0_holds_1 rfl (by rw [hN]; decide) rfl ?_
  refine z_sub C [1, 2, 3, 0] [(0, za x (12)), (1, .int (zI (v1))), (2, .int (zI (v2))), (3, .int (zI (0)))] rfl ?_
  obtain ⟨n1, h⟩ := h
  exact sX0_holds_2 C hN E n1 v1 v2 0  σ h
def wX0_isFull (σ : Hp) (k : Int → Hp → Prop) : Prop :=
  zrg (σ 12 2) ∧ ((σ 12 2 < 40 → k 0 σ) ∧ (¬ (σ 12 2 < 40) → k 1 σ))
set_option maxRecDepth 100000 in
theorem mX0_isFull (σ : Hp) (k : Int → Hp → Prop) (h : wX0_isFull  σ k) (l : Launch) : zMt l yX0_isFull cX0_isFull 1 (some .boolean) { frames := 0, cells := 0, slots := 0, locals := 0 } (fun w => [.ref (w.2.1 (12))]) σ (zPi k) := by
  refine zMt_of (plainFor_of_name (by decide)) (fun w => Nat.le_of_ble_eq_true rfl) (fun x hl hN C E => ?_)
  change zV x σ 0 [(0, za x (12))] []
  change zOk x cX0_isFull RX0 (some .boolean) (0) (0) at C
  unfold wX0_isFull at h
  refine z_aload_n C 0 dX0_isFull_0 rfl rfl ?_
  refine g_X0_2 C kf_X0_16 dX0_isFull_1 ?_
  refine z_bipush C dX0_isFull_4 rfl ?_
  obtain ⟨o1, h⟩ := h
  refine z_icmp_lt C 13 dX0_isFull_6 (by decide) o1 (zrg_d rfl) (fun c2 => ?_) (fun c2 => ?_)
  · have h := h.1 c2
    refine z_iconst C dX0_isFull_13 ?_
    exact z_zret C E dX0_isFull_14 (by decide) ⟨_, rfl, h⟩
  · have h := h.2 c2
    refine z_iconst C dX0_isFull_9 ?_
    refine z_goto C 14 dX0_isFull_10 (by decide) ?_
    exact z_zret C E dX0_isFull_14 (by decide) ⟨_, rfl, h⟩
def wX0_meetHeard_2 (k : Hp → Prop) : Nat → Int → Int → Int → Hp → Prop
  | 0, _, _, _, _ => False
  | n + 1, v1, v2, v3, σ => zrg v3 ∧ zrg (σ 12 2) ∧ ((σ 12 2 ≤ v3 → k σ) ∧ (¬ (σ 12 2 ≤ v3) → ((40 ≤ v3 → k σ) ∧ (¬ (40 ≤ v3) → (0 ≤ v3 ∧ v3 < 40) ∧ wX6_within ((σ 13 v3.toNat) - v1) 0 18 σ (fun a7 σ6 => zrg a7 ∧ ((a7 = 0 → wX0_meetHeard_2 k n v1 v2 (v3 + 1) σ6) ∧ (¬ (a7 = 0) → wX6_within ((σ 14 v3.toNat) - v2) ((-20)) 20 σ6 (fun a11 σ10 => zrg a11 ∧ ((a11 = 0 → wX0_meetHeard_2 k n v1 v2 (v3 + 1) σ10) ∧ (¬ (a11 = 0) → (0 ≤ ((((σ 13 v3.toNat) - v1) * 41) + ((σ 14 v3.toNat) - v2)) + 20 ∧ ((((σ 13 v3.toNat) - v1) * 41) + ((σ 14 v3.toNat) - v2)) + 20 < 779) ∧ wX0_meetHeard_2 k n v1 v2 (v3 + 1) (zst σ10 15 (((((σ 13 v3.toNat) - v1) * 41) + ((σ 14 v3.toNat) - v2)) + 20).toNat ((σ10 15 (((((σ 13 v3.toNat) - v1) * 41) + ((σ 14 v3.toNat) - v2)) + 20).toNat) + 1))))))))))))
set_option maxRecDepth 100000 in
theorem sX0_meetHeard_2 {x : Cx} (C : zOk x cX0_meetHeard RX0 (none) (1) (22)) (hN : x.2.2.2.2.1 = 6) {k : Hp → Prop} (E : zEnd x (zPv k x.2.1)) : ∀ (n : Nat) (v1 : Int) (v2 : Int) (v3 : Int) (σ : Hp), wX0_meetHeard_2 k n v1 v2 v3 σ → zV x σ 2 [(0, za x (12)), (1, .int (zI (v1))), (2, .int (zI (v2))), (3, .int (zI (v3)))] [] := by
  intro n
  induction n with
  | zero => intro _ _ _ _ h; exact h.elim
  | succ n ih =>
    intro v1 v2 v3 σ h
    unfold wX0_meetHeard_2 at h
    refine z_iload_n C 3 dX0_meetHeard_2 rfl rfl ?_
    refine z_aload_n C 0 dX0_meetHeard_3 rfl rfl ?_
    refine g_X0_2 C kf_X0_16 dX0_meetHeard_4 ?_
    obtain ⟨o1, h⟩ := h
    obtain ⟨o2, h⟩ := h
    refine z_icmp_ge C 85 dX0_meetHeard_7 (by decide) o1 o2 (fun c3 => ?_) (fun c3 => ?_)
    · have h := h.1 c3
      exact z_vret C E dX0_meetHeard_85 ⟨rfl, h⟩
    · have h := h.2 c3
      refine z_iload_n C 3 dX0_meetHeard_10 rfl rfl ?_
      refine z_bipush C dX0_meetHeard_11 rfl ?_
      refine z_icmp_ge C 85 dX0_meetHeard_13 (by decide) o1 (zrg_d rfl) (fun c4 => ?_) (fun c4 => ?_)
      · have h := h.1 c4
        exact z_vret C E dX0_meetHeard_85 ⟨rfl, h⟩
      · have h := h.2 c4
        refine z_aload_n C 0 dX0_meetHeard_16 rfl rfl ?_
        refine g_X0_0 C kf_X0_9 dX0_meetHeard_17 ?_
        refine z_iload_n C 3 dX0_meetHeard_20 rfl rfl ?_
        obtain ⟨o5, h⟩ := h
        refine z_iald C ia_13 dX0_meetHeard_21 o5.1 o5.2 ?_
        refine z_iload_n C 1 dX0_meetHeard_22 rfl rfl ?_
        refine z_isub C dX0_meetHeard_23 ?_
        refine z_istore C [(4, .int (zI ((σ 13 v3.toNat) - v1))), (0, za x (12)), (1, .int (zI (v1))), (2, .int (zI (v2))), (3, .int (zI (v3)))] dX0_meetHeard_24 (by rw [hN]; decide) rfl ?_
        refine z_aload_n C 1 dX0_meetHeard_26 rfl rfl ?_
        refine g_X0_1 C kf_X0_13 dX0_meetHeard_27 ?_
        refine z_iload_n C 4 dX0_meetHeard_30 rfl rfl ?_
        refine z_iald C ia_14 dX0_meetHeard_31 o5.1 o5.2 ?_
        refine z_iload_n C 3 dX0_meetHeard_32 rfl rfl ?_
        refine z_isub C dX0_meetHeard_33 ?_
        refine z_istore C [(5, .int (zI ((σ 14 v3.toNat) - v2))), (4, .int (zI ((σ 13 v3.toNat) - v1))), (0, za x (12)), (1, .int (zI (v1))), (2, .int (zI (v2))), (3, .int (zI (v3)))] dX0_meetHeard_34 (by rw [hN]; decide) rfl ?_
        refine z_iload C 1 dX0_meetHeard_36 rfl ?_
        refine z_iconst C dX0_meetHeard_38 ?_
        refine z_bipush C dX0_meetHeard_39 rfl ?_
        refine z_callN (av := fun w => [.int (zI ((σ 13 v3.toNat) - v1)), .int (zI (0)), .int (zI (18))]) C [] cs_X6_within (mX6_within ((σ 13 v3.toNat) - v1) 0 18  σ _ h) kn_X0_23 dX0_meetHeard_41 rfl rfl ⟨rfl, rfl⟩ ⟨by decide, by decide⟩ (Nat.le_of_ble_eq_true rfl) (fun rv σ6 hp => ?_)
        obtain ⟨a7, rfl, h⟩ := hp
        change zV x σ6 44 [(5, .int (zI ((σ 14 v3.toNat) - v2))), (4, .int (zI ((σ 13 v3.toNat) - v1))), (0, za x (12)), (1, .int (zI (v1))), (2, .int (zI (v2))), (3, .int (zI (v3)))] [.int (zI (a7))]
        obtain ⟨o8, h⟩ := h
        refine z_if_eq C 79 dX0_meetHeard_44 (by decide) o8 (fun c9 => ?_) (fun c9 => ?_)
        · have h := h.1 c9
          refine z_iinc C 5 [(3, .int (zI (v3 + 1))), (5, .int (zI ((σ 14 v3.toNat) - v2))), (4, .int (zI ((σ 13 v3.toNat) - v1))), (0, za x (12)), (1, .int (zI (v1))), (2, .int (zI (v2)))] dX0_meetHeard_79 rfl (by rw [hN]; decide) rfl ?_
          refine z_goto C 2 dX0_meetHeard_82 (by decide) ?_
          refine z_sub C [3, 4, 5, 0] [(0, za x (12)), (1, .int (zI (v1))), (2, .int (zI (v2))), (3, .int (zI (v3 + 1)))] rfl ?_
          exact ih v1 v2 (v3 + 1)  σ6 h
        · have h := h.2 c9
          refine z_iload C 0 dX0_meetHeard_47 rfl ?_
          refine z_bipush C dX0_meetHeard_49 rfl ?_
          refine z_bipush C dX0_meetHeard_51 rfl ?_
          refine z_callN (av := fun w => [.int (zI ((σ 14 v3.toNat) - v2)), .int (zI ((-20))), .int (zI (20))]) C [] cs_X6_within (mX6_within ((σ 14 v3.toNat) - v2) ((-20)) 20  σ6 _ h) kn_X0_23 dX0_meetHeard_53 rfl rfl ⟨rfl, rfl⟩ ⟨by decide, by decide⟩ (Nat.le_of_ble_eq_true rfl) (fun rv σ10 hp => ?_)
          obtain ⟨a11, rfl, h⟩ := hp
          change zV x σ10 56 [(5, .int (zI ((σ 14 v3.toNat) - v2))), (4, .int (zI ((σ 13 v3.toNat) - v1))), (0, za x (12)), (1, .int (zI (v1))), (2, .int (zI (v2))), (3, .int (zI (v3)))] [.int (zI (a11))]
          obtain ⟨o12, h⟩ := h
          refine z_if_eq C 79 dX0_meetHeard_56 (by decide) o12 (fun c13 => ?_) (fun c13 => ?_)
          · have h := h.1 c13
            refine z_iinc C 5 [(3, .int (zI (v3 + 1))), (5, .int (zI ((σ 14 v3.toNat) - v2))), (4, .int (zI ((σ 13 v3.toNat) - v1))), (0, za x (12)), (1, .int (zI (v1))), (2, .int (zI (v2)))] dX0_meetHeard_79 rfl (by rw [hN]; decide) rfl ?_
            refine z_goto C 2 dX0_meetHeard_82 (by decide) ?_
            refine z_sub C [3, 4, 5, 0] [(0, za x (12)), (1, .int (zI (v1))), (2, .int (zI (v2))), (3, .int (zI (v3 + 1)))] rfl ?_
            exact ih v1 v2 (v3 + 1)  σ10 h
          · have h := h.2 c13
            refine z_aload_n C 2 dX0_meetHeard_59 rfl rfl ?_
            refine g_X0_3 C kf_X0_20 dX0_meetHeard_60 ?_
            refine z_iload C 1 dX0_meetHeard_63 rfl ?_
            refine z_bipush C dX0_meetHeard_65 rfl ?_
            refine z_imul C dX0_meetHeard_67 ?_
            refine z_iload C 0 dX0_meetHeard_68 rfl ?_
            refine z_iadd C dX0_meetHeard_70 ?_
            refine z_bipush C dX0_meetHeard_71 rfl ?_
            refine z_iadd C dX0_meetHeard_73 ?_
            refine z_dup2 C dX0_meetHeard_74 rfl rfl ?_
            obtain ⟨o14, h⟩ := h
            refine z_iald C ia_15 dX0_meetHeard_75 o14.1 o14.2 ?_
            refine z_iconst C dX0_meetHeard_76 ?_
            refine z_iadd C dX0_meetHeard_77 ?_
            refine z_iast C ia_15 dX0_meetHeard_78 o14.1 o14.2 ?_
            refine z_iinc C 5 [(3, .int (zI (v3 + 1))), (5, .int (zI ((σ 14 v3.toNat) - v2))), (4, .int (zI ((σ 13 v3.toNat) - v1))), (0, za x (12)), (1, .int (zI (v1))), (2, .int (zI (v2)))] dX0_meetHeard_79 rfl (by rw [hN]; decide) rfl ?_
            refine z_goto C 2 dX0_meetHeard_82 (by decide) ?_
            refine z_sub C [3, 4, 5, 0] [(0, za x (12)), (1, .int (zI (v1))), (2, .int (zI (v2))), (3, .int (zI (v3 + 1)))] rfl ?_
            exact ih v1 v2 (v3 + 1)  (zst σ10 15 (((((σ 13 v3.toNat) - v1) * 41) + ((σ 14 v3.toNat) - v2)) + 20).toNat ((σ10 15 (((((σ 13 v3.toNat) - v1) * 41) + ((σ 14 v3.toNat) - v2)) + 20).toNat) + 1)) h
def wX0_meetHeard (v1 : Int) (v2 : Int) (σ : Hp) (k : Hp → Prop) : Prop :=
  (∃ N1, wX0_meetHeard_2 k N1 v1 v2 0 σ)
set_option maxRecDepth 100000 in
theorem mX0_meetHeard (v1 : Int) (v2 : Int) (σ : Hp) (k : Hp → Prop) (h : wX0_meetHeard v1 v2 σ k) (l : Launch) : zMt l yX0_meetHeard cX0_meetHeard 6 (none) { frames := 1, cells := 0, slots := 0, locals := 22 } (fun w => [.ref (w.2.1 (12)), .int (zI (v1)), .int (zI (v2))]) σ (zPv k) := by
  refine zMt_of (plainFor_of_name (by decide)) (fun w => Nat.le_of_ble_eq_true rfl) (fun x hl hN C E => ?_)
  change zV x σ 0 [(0, za x (12)), (1, .int (zI (v1))), (2, .int (zI (v2)))] []
  change zOk x cX0_meetHeard RX0 (none) (1) (22) at C
  unfold wX0_meetHeard at h
  refine z_iconst C dX0_meetHeard_0 ?_
  refine z_istore_n C [(3, .int (zI (0))), (0, za x (12)), (1, .int (zI (v1))), (2, .int (zI (v2)))] dX0_meetHeard_1 rfl (by rw [hN]; decide) rfl ?_
  refine z_sub C [1, 2, 3, 0] [(0, za x (12)), (1, .int (zI (v1))), (2, .int (zI (v2))), (3, .int (zI (0)))] rfl ?_
  obtain ⟨n1, h⟩ := h
  exact sX0_meetHeard_2 C hN E n1 v1 v2 0  σ h
def wX3_columns (r0 : Nat) (σ : Hp) (k : Int → Hp → Prop) : Prop :=
  k (σ (29 + r0) 0) σ
set_option maxRecDepth 100000 in
theorem mX3_columns (r0 : Nat) (hr0 : r0 < 7) (σ : Hp) (k : Int → Hp → Prop) (h : wX3_columns r0 σ k) (l : Launch) : zMt l yX3_columns cX3_columns 1 (some .int) { frames := 0, cells := 0, slots := 0, locals := 0 } (fun w => [.ref (w.2.1 (29 + r0))]) σ (zPi k) := by
  refine zMt_of (plainFor_of_name (by decide)) (fun w => Nat.le_of_ble_eq_true rfl) (fun x hl hN C E => ?_)
  change zV x σ 0 [(0, za x (29 + r0))] []
  change zOk x cX3_columns RX3 (some .int) (0) (0) at C
  unfold wX3_columns at h
  refine z_aload_n C 0 dX3_columns_0 rfl rfl ?_
  refine g_X3_0 C hr0 kf_X3_9 dX3_columns_1 ?_
  exact z_iret C E dX3_columns_4 ⟨_, rfl, h⟩
def wX3_lineAt (r0 : Nat) (v1 : Int) (σ : Hp) (k : Int → Hp → Prop) : Prop :=
  wX6_within v1 0 ((σ (29 + r0) 0) - 1) σ (fun a2 σ1 => zrg a2 ∧ ((a2 = 0 → k 15 σ1) ∧ (¬ (a2 = 0) → (0 ≤ v1 ∧ v1 < 12) ∧ k (σ1 (36 + r0) v1.toNat) σ1)))
set_option maxRecDepth 100000 in
theorem mX3_lineAt (r0 : Nat) (v1 : Int) (hr0 : r0 < 7) (σ : Hp) (k : Int → Hp → Prop) (h : wX3_lineAt r0 v1 σ k) (l : Launch) : zMt l yX3_lineAt cX3_lineAt 2 (some .int) { frames := 1, cells := 0, slots := 0, locals := 22 } (fun w => [.ref (w.2.1 (29 + r0)), .int (zI (v1))]) σ (zPi k) := by
  refine zMt_of (plainFor_of_name (by decide)) (fun w => Nat.le_of_ble_eq_true rfl) (fun x hl hN C E => ?_)
  change zV x σ 0 [(0, za x (29 + r0)), (1, .int (zI (v1)))] []
  change zOk x cX3_lineAt RX3 (some .int) (1) (22) at C
  unfold wX3_lineAt at h
  refine z_iload_n C 1 dX3_lineAt_0 rfl rfl ?_
  refine z_iconst C dX3_lineAt_1 ?_
  refine z_aload_n C 0 dX3_lineAt_2 rfl rfl ?_
  refine g_X3_0 C hr0 kf_X3_9 dX3_lineAt_3 ?_
  refine z_iconst C dX3_lineAt_6 ?_
  refine z_isub C dX3_lineAt_7 ?_
  refine z_callN (av := fun w => [.int (zI (v1)), .int (zI (0)), .int (zI ((σ (29 + r0) 0) - 1))]) C [] cs_X6_within (mX6_within v1 0 ((σ (29 + r0) 0) - 1)  σ _ h) kn_X3_22 dX3_lineAt_8 rfl rfl ⟨rfl, rfl⟩ ⟨by decide, by decide⟩ (Nat.le_of_ble_eq_true rfl) (fun rv σ1 hp => ?_)
  obtain ⟨a2, rfl, h⟩ := hp
  change zV x σ1 11 [(0, za x (29 + r0)), (1, .int (zI (v1)))] [.int (zI (a2))]
  obtain ⟨o3, h⟩ := h
  refine z_if_eq C 23 dX3_lineAt_11 (by decide) o3 (fun c4 => ?_) (fun c4 => ?_)
  · have h := h.1 c4
    refine z_bipush C dX3_lineAt_23 rfl ?_
    exact z_iret C E dX3_lineAt_25 ⟨_, rfl, h⟩
  · have h := h.2 c4
    refine z_aload_n C 0 dX3_lineAt_14 rfl rfl ?_
    refine g_X3_2 C hr0 kf_X3_18 dX3_lineAt_15 ?_
    refine z_iload_n C 1 dX3_lineAt_18 rfl rfl ?_
    obtain ⟨o5, h⟩ := h
    refine z_iald C (zIA_line hr0) dX3_lineAt_19 o5.1 o5.2 ?_
    refine z_goto C 25 dX3_lineAt_20 (by decide) ?_
    exact z_iret C E dX3_lineAt_25 ⟨_, rfl, h⟩
def wX3_markedAt (r0 : Nat) (v1 : Int) (σ : Hp) (k : Int → Hp → Prop) : Prop :=
  wX3_lineAt r0 v1 σ (fun a2 σ1 => zrg a2 ∧ ((a2 = 15 → k 0 σ1) ∧ (¬ (a2 = 15) → k 1 σ1)))
set_option maxRecDepth 100000 in
theorem mX3_markedAt (r0 : Nat) (v1 : Int) (hr0 : r0 < 7) (σ : Hp) (k : Int → Hp → Prop) (h : wX3_markedAt r0 v1 σ k) (l : Launch) : zMt l yX3_markedAt cX3_markedAt 2 (some .boolean) { frames := 2, cells := 0, slots := 0, locals := 43 } (fun w => [.ref (w.2.1 (29 + r0)), .int (zI (v1))]) σ (zPi k) := by
  refine zMt_of (plainFor_of_name (by decide)) (fun w => Nat.le_of_ble_eq_true rfl) (fun x hl hN C E => ?_)
  change zV x σ 0 [(0, za x (29 + r0)), (1, .int (zI (v1)))] []
  change zOk x cX3_markedAt RX3 (some .boolean) (2) (43) at C
  unfold wX3_markedAt at h
  refine z_aload_n C 0 dX3_markedAt_0 rfl rfl ?_
  refine z_iload_n C 1 dX3_markedAt_1 rfl rfl ?_
  refine z_callV (av := fun w => [.int (zI (v1))]) C [] cs_X3_lineAt (by have := hr0; omega) (zcell_row hr0) rfl (mX3_lineAt r0 v1 hr0 σ _ h) km_X3_32 dX3_markedAt_2 rfl rfl ⟨rfl, rfl⟩ ⟨by decide, by decide⟩ (Nat.le_of_ble_eq_true rfl) (fun rv σ1 hp => ?_)
  obtain ⟨a2, rfl, h⟩ := hp
  change zV x σ1 5 [(0, za x (29 + r0)), (1, .int (zI (v1)))] [.int (zI (a2))]
  refine z_bipush C dX3_markedAt_5 rfl ?_
  obtain ⟨o3, h⟩ := h
  refine z_icmp_eq C 14 dX3_markedAt_7 (by decide) o3 (zrg_d rfl) (fun c4 => ?_) (fun c4 => ?_)
  · have h := h.1 c4
    refine z_iconst C dX3_markedAt_14 ?_
    exact z_zret C E dX3_markedAt_15 (by decide) ⟨_, rfl, h⟩
  · have h := h.2 c4
    refine z_iconst C dX3_markedAt_10 ?_
    refine z_goto C 15 dX3_markedAt_11 (by decide) ?_
    exact z_zret C E dX3_markedAt_15 (by decide) ⟨_, rfl, h⟩
def wX0_seek_49 (k : Hp → Prop) : Nat → Int → Hp → Prop
  | 0, _, _ => False
  | n + 1, v2, σ => zrg v2 ∧ zrg (((779 : Nat) : Int)) ∧ ((((779 : Nat) : Int) ≤ v2 → k σ) ∧ (¬ (((779 : Nat) : Int) ≤ v2) → (0 ≤ v2 ∧ v2 < 779) ∧ (0 ≤ σ 12 4 ∧ σ 12 4 < 779) ∧ zrg (σ 15 v2.toNat) ∧ zrg (σ 15 (σ 12 4).toNat) ∧ ((σ 15 v2.toNat ≤ σ 15 (σ 12 4).toNat → wX0_seek_49 k n (v2 + 1) σ) ∧ (¬ (σ 15 v2.toNat ≤ σ 15 (σ 12 4).toNat) → wX0_seek_49 k n (v2 + 1) (zst σ 12 4 v2)))))
set_option maxRecDepth 100000 in
theorem sX0_seek_49 {x : Cx} (C : zOk x cX0_seek RX0 (none) (3) (64)) (hN : x.2.2.2.2.1 = 3) {k : Hp → Prop} (E : zEnd x (zPv k x.2.1)) : ∀ (n : Nat) (v2 : Int) (σ : Hp), wX0_seek_49 k n v2 σ → zV x σ 49 [(0, za x (12)), (2, .int (zI (v2)))] [] := by
  intro n
  induction n with
  | zero => intro _ _ h; exact h.elim
  | succ n ih =>
    intro v2 σ h
    unfold wX0_seek_49 at h
    refine z_iload_n C 1 dX0_seek_49 rfl rfl ?_
    refine z_aload_n C 0 dX0_seek_50 rfl rfl ?_
    refine g_X0_3 C kf_X0_20 dX0_seek_51 ?_
    refine z_alen C ia_15 dX0_seek_54 ?_
    obtain ⟨o1, h⟩ := h
    obtain ⟨o2, h⟩ := h
    refine z_icmp_ge C 87 dX0_seek_55 (by decide) o1 o2 (fun c3 => ?_) (fun c3 => ?_)
    · have h := h.1 c3
      exact z_vret C E dX0_seek_87 ⟨rfl, h⟩
    · have h := h.2 c3
      refine z_aload_n C 0 dX0_seek_58 rfl rfl ?_
      refine g_X0_3 C kf_X0_20 dX0_seek_59 ?_
      refine z_iload_n C 1 dX0_seek_62 rfl rfl ?_
      obtain ⟨o4, h⟩ := h
      refine z_iald C ia_15 dX0_seek_63 o4.1 o4.2 ?_
      refine z_aload_n C 0 dX0_seek_64 rfl rfl ?_
      refine g_X0_3 C kf_X0_20 dX0_seek_65 ?_
      refine z_aload_n C 0 dX0_seek_68 rfl rfl ?_
      refine g_X0_4 C kf_X0_53 dX0_seek_69 ?_
      obtain ⟨o5, h⟩ := h
      refine z_iald C ia_15 dX0_seek_72 o5.1 o5.2 ?_
      obtain ⟨o6, h⟩ := h
      obtain ⟨o7, h⟩ := h
      refine z_icmp_le C 81 dX0_seek_73 (by decide) o6 o7 (fun c8 => ?_) (fun c8 => ?_)
      · have h := h.1 c8
        refine z_iinc C 1 [(2, .int (zI (v2 + 1))), (0, za x (12))] dX0_seek_81 rfl (by rw [hN]; decide) rfl ?_
        refine z_goto C 49 dX0_seek_84 (by decide) ?_
        refine z_sub C [1, 0] [(0, za x (12)), (2, .int (zI (v2 + 1)))] rfl ?_
        exact ih (v2 + 1)  σ h
      · have h := h.2 c8
        refine z_aload_n C 0 dX0_seek_76 rfl rfl ?_
        refine z_iload_n C 1 dX0_seek_77 rfl rfl ?_
        refine p_X0_4 C kf_X0_53 dX0_seek_78 ?_
        refine z_iinc C 1 [(2, .int (zI (v2 + 1))), (0, za x (12))] dX0_seek_81 rfl (by rw [hN]; decide) rfl ?_
        refine z_goto C 49 dX0_seek_84 (by decide) ?_
        refine z_sub C [1, 0] [(0, za x (12)), (2, .int (zI (v2 + 1)))] rfl ?_
        exact ih (v2 + 1)  (zst σ 12 4 v2) h
def wX0_seek_10 (k : Hp → Prop) : Nat → Nat → Int → Hp → Prop
  | 0, _, _, _ => False
  | n + 1, r1, v2, σ => wX3_columns r1 σ (fun a2 σ1 => zrg v2 ∧ zrg a2 ∧ ((a2 ≤ v2 → (∃ N6, wX0_seek_49 k N6 1 (zst σ1 12 4 0))) ∧ (¬ (a2 ≤ v2) → wX3_markedAt r1 v2 σ1 (fun a8 σ7 => zrg a8 ∧ ((a8 = 0 → wX0_seek_10 k n r1 (v2 + 1) σ7) ∧ (¬ (a8 = 0) → wX3_lineAt r1 v2 σ7 (fun a12 σ11 => wX0_meetHeard v2 a12 σ11 (fun σ13 => wX0_seek_10 k n r1 (v2 + 1) σ13))))))))
set_option maxRecDepth 100000 in
theorem sX0_seek_10 {x : Cx} (C : zOk x cX0_seek RX0 (none) (3) (64)) (hN : x.2.2.2.2.1 = 3) {k : Hp → Prop} (E : zEnd x (zPv k x.2.1)) : ∀ (n : Nat) (r1 : Nat) (v2 : Int) (hr1 : r1 < 7) (σ : Hp), wX0_seek_10 k n r1 v2 σ → zV x σ 10 [(0, za x (12)), (1, za x (29 + r1)), (2, .int (zI (v2)))] [] := by
  intro n
  induction n with
  | zero => intro _ _ _ _ h; exact h.elim
  | succ n ih =>
    intro r1 v2 hr1 σ h
    unfold wX0_seek_10 at h
    refine z_iload_n C 2 dX0_seek_10 rfl rfl ?_
    refine z_aload_n C 1 dX0_seek_11 rfl rfl ?_
    refine z_callV (av := fun w => []) C [.int (zI (v2))] cs_X3_columns (by have := hr1; omega) (zcell_row hr1) rfl (mX3_columns r1 hr1 σ _ h) km_X0_35 dX0_seek_12 rfl rfl ⟨rfl, rfl⟩ ⟨by decide, by decide⟩ (Nat.le_of_ble_eq_true rfl) (fun rv σ1 hp => ?_)
    obtain ⟨a2, rfl, h⟩ := hp
    change zV x σ1 15 [(0, za x (12)), (1, za x (29 + r1)), (2, .int (zI (v2)))] [.int (zI (a2)), .int (zI (v2))]
    obtain ⟨o3, h⟩ := h
    obtain ⟨o4, h⟩ := h
    refine z_icmp_ge C 42 dX0_seek_15 (by decide) o3 o4 (fun c5 => ?_) (fun c5 => ?_)
    · have h := h.1 c5
      refine z_aload_n C 0 dX0_seek_42 rfl rfl ?_
      refine z_iconst C dX0_seek_43 ?_
      refine p_X0_4 C kf_X0_53 dX0_seek_44 ?_
      refine z_iconst C dX0_seek_47 ?_
      refine z_istore_n C [(2, .int (zI (1))), (0, za x (12)), (1, za x (29 + r1))] dX0_seek_48 rfl (by rw [hN]; decide) rfl ?_
      refine z_sub C [1, 0] [(0, za x (12)), (2, .int (zI (1)))] rfl ?_
      obtain ⟨n6, h⟩ := h
      exact sX0_seek_49 C hN E n6 1  (zst σ1 12 4 0) h
    · have h := h.2 c5
      refine z_aload_n C 1 dX0_seek_18 rfl rfl ?_
      refine z_iload_n C 2 dX0_seek_19 rfl rfl ?_
      refine z_callV (av := fun w => [.int (zI (v2))]) C [] cs_X3_markedAt (by have := hr1; omega) (zcell_row hr1) rfl (mX3_markedAt r1 v2 hr1 σ1 _ h) km_X0_41 dX0_seek_20 rfl rfl ⟨rfl, rfl⟩ ⟨by decide, by decide⟩ (Nat.le_of_ble_eq_true rfl) (fun rv σ7 hp => ?_)
      obtain ⟨a8, rfl, h⟩ := hp
      change zV x σ7 23 [(0, za x (12)), (1, za x (29 + r1)), (2, .int (zI (v2)))] [.int (zI (a8))]
      obtain ⟨o9, h⟩ := h
      refine z_if_eq C 36 dX0_seek_23 (by decide) o9 (fun c10 => ?_) (fun c10 => ?_)
      · have h := h.1 c10
        refine z_iinc C 2 [(2, .int (zI (v2 + 1))), (0, za x (12)), (1, za x (29 + r1))] dX0_seek_36 rfl (by rw [hN]; decide) rfl ?_
        refine z_goto C 10 dX0_seek_39 (by decide) ?_
        refine z_sub C [1, 2, 0] [(0, za x (12)), (1, za x (29 + r1)), (2, .int (zI (v2 + 1)))] rfl ?_
        exact ih r1 (v2 + 1) hr1 σ7 h
      · have h := h.2 c10
        refine z_aload_n C 0 dX0_seek_26 rfl rfl ?_
        refine z_iload_n C 2 dX0_seek_27 rfl rfl ?_
        refine z_aload_n C 1 dX0_seek_28 rfl rfl ?_
        refine z_iload_n C 2 dX0_seek_29 rfl rfl ?_
        refine z_callV (av := fun w => [.int (zI (v2))]) C [.int (zI (v2)), za x (12)] cs_X3_lineAt (by have := hr1; omega) (zcell_row hr1) rfl (mX3_lineAt r1 v2 hr1 σ7 _ h) km_X0_45 dX0_seek_30 rfl rfl ⟨rfl, rfl⟩ ⟨by decide, by decide⟩ (Nat.le_of_ble_eq_true rfl) (fun rv σ11 hp => ?_)
        obtain ⟨a12, rfl, h⟩ := hp
        change zV x σ11 33 [(0, za x (12)), (1, za x (29 + r1)), (2, .int (zI (v2)))] [.int (zI (a12)), .int (zI (v2)), za x (12)]
        refine z_callV (av := fun w => [.int (zI (v2)), .int (zI (a12))]) C [] cs_X0_meetHeard (by decide) (fun _ _ => rfl) rfl (mX0_meetHeard v2 a12  σ11 _ h) km_X0_49 dX0_seek_33 rfl rfl ⟨rfl, rfl⟩ ⟨by decide, by decide⟩ (Nat.le_of_ble_eq_true rfl) (fun rv σ13 hp => ?_)
        obtain ⟨rfl, h⟩ := hp
        change zV x σ13 36 [(0, za x (12)), (1, za x (29 + r1)), (2, .int (zI (v2)))] []
        refine z_iinc C 2 [(2, .int (zI (v2 + 1))), (0, za x (12)), (1, za x (29 + r1))] dX0_seek_36 rfl (by rw [hN]; decide) rfl ?_
        refine z_goto C 10 dX0_seek_39 (by decide) ?_
        refine z_sub C [1, 2, 0] [(0, za x (12)), (1, za x (29 + r1)), (2, .int (zI (v2 + 1)))] rfl ?_
        exact ih r1 (v2 + 1) hr1 σ13 h
def wX0_seek (r1 : Nat) (σ : Hp) (k : Hp → Prop) : Prop :=
  wJ7_fill_53178 15 779 0 σ (fun σ1 => (∃ N2, wX0_seek_10 k N2 r1 0 σ1))
set_option maxRecDepth 100000 in
theorem mX0_seek (r1 : Nat) (hr1 : r1 < 7) (σ : Hp) (k : Hp → Prop) (h : wX0_seek r1 σ k) (l : Launch) : zMt l yX0_seek cX0_seek 3 (none) { frames := 3, cells := 0, slots := 0, locals := 64 } (fun w => [.ref (w.2.1 (12)), .ref (w.2.1 (29 + r1))]) σ (zPv k) := by
  refine zMt_of (plainFor_of_name (by decide)) (fun w => Nat.le_of_ble_eq_true rfl) (fun x hl hN C E => ?_)
  change zV x σ 0 [(0, za x (12)), (1, za x (29 + r1))] []
  change zOk x cX0_seek RX0 (none) (3) (64) at C
  unfold wX0_seek at h
  refine z_aload_n C 0 dX0_seek_0 rfl rfl ?_
  refine g_X0_3 C kf_X0_20 dX0_seek_1 ?_
  refine z_iconst C dX0_seek_4 ?_
  refine z_callS (av := fun w => [.ref (w.2.1 (15)), .int (zI (0))]) C [] cs_J7_fill_53178 (mJ7_fill_53178 15 779 0 ia_15 σ _ h) km_X0_29 dX0_seek_5 rfl rfl ⟨rfl, rfl⟩ ⟨by decide, by decide⟩ (Nat.le_of_ble_eq_true rfl) (fun rv σ1 hp => ?_)
  obtain ⟨rfl, h⟩ := hp
  change zV x σ1 8 [(0, za x (12)), (1, za x (29 + r1))] []
  refine z_iconst C dX0_seek_8 ?_
  refine z_istore_n C [(2, .int (zI (0))), (0, za x (12)), (1, za x (29 + r1))] dX0_seek_9 rfl (by rw [hN]; decide) rfl ?_
  refine z_sub C [1, 2, 0] [(0, za x (12)), (1, za x (29 + r1)), (2, .int (zI (0)))] rfl ?_
  obtain ⟨n2, h⟩ := h
  exact sX0_seek_10 C hN E n2 r1 0 hr1 σ1 h
def wX0_size (σ : Hp) (k : Int → Hp → Prop) : Prop :=
  k (σ 12 2) σ
set_option maxRecDepth 100000 in
theorem mX0_size (σ : Hp) (k : Int → Hp → Prop) (h : wX0_size  σ k) (l : Launch) : zMt l yX0_size cX0_size 1 (some .int) { frames := 0, cells := 0, slots := 0, locals := 0 } (fun w => [.ref (w.2.1 (12))]) σ (zPi k) := by
  refine zMt_of (plainFor_of_name (by decide)) (fun w => Nat.le_of_ble_eq_true rfl) (fun x hl hN C E => ?_)
  change zV x σ 0 [(0, za x (12))] []
  change zOk x cX0_size RX0 (some .int) (0) (0) at C
  unfold wX0_size at h
  refine z_aload_n C 0 dX0_size_0 rfl rfl ?_
  refine g_X0_2 C kf_X0_16 dX0_size_1 ?_
  exact z_iret C E dX0_size_4 ⟨_, rfl, h⟩
def wX1_bestDx (σ : Hp) (k : Int → Hp → Prop) : Prop :=
  zrg (σ 4 2) ∧ k ((Int.tdiv (σ 4 2) 25) - 12) σ
set_option maxRecDepth 100000 in
theorem mX1_bestDx (σ : Hp) (k : Int → Hp → Prop) (h : wX1_bestDx  σ k) (l : Launch) : zMt l yX1_bestDx cX1_bestDx 1 (some .int) { frames := 0, cells := 0, slots := 0, locals := 0 } (fun w => [.ref (w.2.1 (4))]) σ (zPi k) := by
  refine zMt_of (plainFor_of_name (by decide)) (fun w => Nat.le_of_ble_eq_true rfl) (fun x hl hN C E => ?_)
  change zV x σ 0 [(0, za x (4))] []
  change zOk x cX1_bestDx RX1 (some .int) (0) (0) at C
  unfold wX1_bestDx at h
  refine z_aload_n C 0 dX1_bestDx_0 rfl rfl ?_
  refine g_X1_2 C kf_X1_54 dX1_bestDx_1 ?_
  refine z_bipush C dX1_bestDx_4 rfl ?_
  obtain ⟨o1, h⟩ := h
  refine z_idiv C dX1_bestDx_6 o1 (zrg_d rfl) (by decide) ?_
  refine z_bipush C dX1_bestDx_7 rfl ?_
  refine z_isub C dX1_bestDx_9 ?_
  exact z_iret C E dX1_bestDx_10 ⟨_, rfl, h⟩
def wX1_bestDy (σ : Hp) (k : Int → Hp → Prop) : Prop :=
  zrg (σ 4 2) ∧ k ((Int.tmod (σ 4 2) 25) - 12) σ
set_option maxRecDepth 100000 in
theorem mX1_bestDy (σ : Hp) (k : Int → Hp → Prop) (h : wX1_bestDy  σ k) (l : Launch) : zMt l yX1_bestDy cX1_bestDy 1 (some .int) { frames := 0, cells := 0, slots := 0, locals := 0 } (fun w => [.ref (w.2.1 (4))]) σ (zPi k) := by
  refine zMt_of (plainFor_of_name (by decide)) (fun w => Nat.le_of_ble_eq_true rfl) (fun x hl hN C E => ?_)
  change zV x σ 0 [(0, za x (4))] []
  change zOk x cX1_bestDy RX1 (some .int) (0) (0) at C
  unfold wX1_bestDy at h
  refine z_aload_n C 0 dX1_bestDy_0 rfl rfl ?_
  refine g_X1_2 C kf_X1_54 dX1_bestDy_1 ?_
  refine z_bipush C dX1_bestDy_4 rfl ?_
  obtain ⟨o1, h⟩ := h
  refine z_irem C dX1_bestDy_6 o1 (zrg_d rfl) (by decide) ?_
  refine z_bipush C dX1_bestDy_7 rfl ?_
  refine z_isub C dX1_bestDy_9 ?_
  exact z_iret C E dX1_bestDy_10 ⟨_, rfl, h⟩
def wX1_bestMeeting (σ : Hp) (k : Int → Hp → Prop) : Prop :=
  k (σ 4 1) σ
set_option maxRecDepth 100000 in
theorem mX1_bestMeeting (σ : Hp) (k : Int → Hp → Prop) (h : wX1_bestMeeting  σ k) (l : Launch) : zMt l yX1_bestMeeting cX1_bestMeeting 1 (some .int) { frames := 0, cells := 0, slots := 0, locals := 0 } (fun w => [.ref (w.2.1 (4))]) σ (zPi k) := by
  refine zMt_of (plainFor_of_name (by decide)) (fun w => Nat.le_of_ble_eq_true rfl) (fun x hl hN C E => ?_)
  change zV x σ 0 [(0, za x (4))] []
  change zOk x cX1_bestMeeting RX1 (some .int) (0) (0) at C
  unfold wX1_bestMeeting at h
  refine z_aload_n C 0 dX1_bestMeeting_0 rfl rfl ?_
  refine g_X1_1 C kf_X1_50 dX1_bestMeeting_1 ?_
  exact z_iret C E dX1_bestMeeting_4 ⟨_, rfl, h⟩
def wX1_placeOf (v0 : Int) (v1 : Int) (σ : Hp) (k : Int → Hp → Prop) : Prop :=
  k ((((v0 + 12) * 25) + v1) + 12) σ
set_option maxRecDepth 100000 in
theorem mX1_placeOf (v0 : Int) (v1 : Int) (σ : Hp) (k : Int → Hp → Prop) (h : wX1_placeOf v0 v1 σ k) (l : Launch) : zMt l yX1_placeOf cX1_placeOf 2 (some .int) { frames := 0, cells := 0, slots := 0, locals := 0 } (fun w => [.int (zI (v0)), .int (zI (v1))]) σ (zPi k) := by
  refine zMt_of (plainFor_of_name (by decide)) (fun w => Nat.le_of_ble_eq_true rfl) (fun x hl hN C E => ?_)
  change zV x σ 0 [(0, .int (zI (v0))), (1, .int (zI (v1)))] []
  change zOk x cX1_placeOf RX1 (some .int) (0) (0) at C
  unfold wX1_placeOf at h
  refine z_iload_n C 0 dX1_placeOf_0 rfl rfl ?_
  refine z_bipush C dX1_placeOf_1 rfl ?_
  refine z_iadd C dX1_placeOf_3 ?_
  refine z_bipush C dX1_placeOf_4 rfl ?_
  refine z_imul C dX1_placeOf_6 ?_
  refine z_iload_n C 1 dX1_placeOf_7 rfl rfl ?_
  refine z_iadd C dX1_placeOf_8 ?_
  refine z_bipush C dX1_placeOf_9 rfl ?_
  refine z_iadd C dX1_placeOf_11 ?_
  exact z_iret C E dX1_placeOf_12 ⟨_, rfl, h⟩
def wX6_isMove (v0 : Int) (σ : Hp) (k : Int → Hp → Prop) : Prop :=
  wX6_within v0 ((-12)) 12 σ (fun a2 σ1 => (a2 = 0 ∨ a2 = 1) ∧ k a2 σ1)
set_option maxRecDepth 100000 in
theorem mX6_isMove (v0 : Int) (σ : Hp) (k : Int → Hp → Prop) (h : wX6_isMove v0 σ k) (l : Launch) : zMt l yX6_isMove cX6_isMove 1 (some .boolean) { frames := 1, cells := 0, slots := 0, locals := 22 } (fun w => [.int (zI (v0))]) σ (zPi k) := by
  refine zMt_of (plainFor_of_name (by decide)) (fun w => Nat.le_of_ble_eq_true rfl) (fun x hl hN C E => ?_)
  change zV x σ 0 [(0, .int (zI (v0)))] []
  change zOk x cX6_isMove RX6 (some .boolean) (1) (22) at C
  unfold wX6_isMove at h
  refine z_iload_n C 0 dX6_isMove_0 rfl rfl ?_
  refine z_bipush C dX6_isMove_1 rfl ?_
  refine z_bipush C dX6_isMove_3 rfl ?_
  refine z_callS (av := fun w => [.int (zI (v0)), .int (zI ((-12))), .int (zI (12))]) C [] cs_X6_within (mX6_within v0 ((-12)) 12  σ _ h) km_X6_63 dX6_isMove_5 rfl rfl ⟨rfl, rfl⟩ ⟨by decide, by decide⟩ (Nat.le_of_ble_eq_true rfl) (fun rv σ1 hp => ?_)
  obtain ⟨a2, rfl, h⟩ := hp
  change zV x σ1 8 [(0, .int (zI (v0)))] [.int (zI (a2))]
  obtain ⟨o3, h⟩ := h
  exact z_zret C E dX6_isMove_8 o3 ⟨_, rfl, h⟩
def wX1_meetAll_3 (k : Hp → Prop) : Nat → Int → Int → Nat → Int → Hp → Prop
  | 0, _, _, _, _, _ => False
  | n + 1, v1, v2, r3, v4, σ => wX3_columns r3 σ (fun a2 σ1 => zrg v4 ∧ zrg a2 ∧ ((a2 ≤ v4 → k σ1) ∧ (¬ (a2 ≤ v4) → wX3_lineAt r3 v4 σ1 (fun a7 σ6 => wX3_markedAt r3 v4 σ6 (fun a9 σ8 => zrg a9 ∧ ((a9 = 0 → wX1_meetAll_3 k n v1 v2 r3 (v4 + 1) σ8) ∧ (¬ (a9 = 0) → wX6_isMove (v4 - v1) σ8 (fun a13 σ12 => zrg a13 ∧ ((a13 = 0 → wX1_meetAll_3 k n v1 v2 r3 (v4 + 1) σ12) ∧ (¬ (a13 = 0) → wX6_isMove (a7 - v2) σ12 (fun a17 σ16 => zrg a17 ∧ ((a17 = 0 → wX1_meetAll_3 k n v1 v2 r3 (v4 + 1) σ16) ∧ (¬ (a17 = 0) → wX1_placeOf (v4 - v1) (a7 - v2) σ16 (fun a21 σ20 => (0 ≤ a21 ∧ a21 < 625) ∧ wX1_meetAll_3 k n v1 v2 r3 (v4 + 1) (zst σ20 5 a21.toNat ((σ20 5 a21.toNat) + 1))))))))))))))))
set_option maxRecDepth 100000 in
theorem sX1_meetAll_3 {x : Cx} (C : zOk x cX1_meetAll RX1 (none) (3) (64)) (hN : x.2.2.2.2.1 = 7) {k : Hp → Prop} (E : zEnd x (zPv k x.2.1)) : ∀ (n : Nat) (v1 : Int) (v2 : Int) (r3 : Nat) (v4 : Int) (hr3 : r3 < 7) (σ : Hp), wX1_meetAll_3 k n v1 v2 r3 v4 σ → zV x σ 3 [(0, za x (4)), (1, .int (zI (v1))), (2, .int (zI (v2))), (3, za x (29 + r3)), (4, .int (zI (v4)))] [] := by
  intro n
  induction n with
  | zero => intro _ _ _ _ _ _ h; exact h.elim
  | succ n ih =>
    intro v1 v2 r3 v4 hr3 σ h
    unfold wX1_meetAll_3 at h
    refine z_iload C 4 dX1_meetAll_3 rfl ?_
    refine z_aload_n C 3 dX1_meetAll_5 rfl rfl ?_
    refine z_callV (av := fun w => []) C [.int (zI (v4))] cs_X3_columns (by have := hr3; omega) (zcell_row hr3) rfl (mX3_columns r3 hr3 σ _ h) km_X1_21 dX1_meetAll_6 rfl rfl ⟨rfl, rfl⟩ ⟨by decide, by decide⟩ (Nat.le_of_ble_eq_true rfl) (fun rv σ1 hp => ?_)
    obtain ⟨a2, rfl, h⟩ := hp
    change zV x σ1 9 [(0, za x (4)), (1, .int (zI (v1))), (2, .int (zI (v2))), (3, za x (29 + r3)), (4, .int (zI (v4)))] [.int (zI (a2)), .int (zI (v4))]
    obtain ⟨o3, h⟩ := h
    obtain ⟨o4, h⟩ := h
    refine z_icmp_ge C 75 dX1_meetAll_9 (by decide) o3 o4 (fun c5 => ?_) (fun c5 => ?_)
    · have h := h.1 c5
      exact z_vret C E dX1_meetAll_75 ⟨rfl, h⟩
    · have h := h.2 c5
      refine z_iload C 4 dX1_meetAll_12 rfl ?_
      refine z_iload_n C 1 dX1_meetAll_14 rfl rfl ?_
      refine z_isub C dX1_meetAll_15 ?_
      refine z_istore C [(5, .int (zI (v4 - v1))), (0, za x (4)), (1, .int (zI (v1))), (2, .int (zI (v2))), (3, za x (29 + r3)), (4, .int (zI (v4)))] dX1_meetAll_16 (by rw [hN]; decide) rfl ?_
      refine z_aload_n C 4 dX1_meetAll_18 rfl rfl ?_
      refine z_iload C 5 dX1_meetAll_19 rfl ?_
      refine z_callV (av := fun w => [.int (zI (v4))]) C [] cs_X3_lineAt (by have := hr3; omega) (zcell_row hr3) rfl (mX3_lineAt r3 v4 hr3 σ1 _ h) km_X1_31 dX1_meetAll_21 rfl rfl ⟨rfl, rfl⟩ ⟨by decide, by decide⟩ (Nat.le_of_ble_eq_true rfl) (fun rv σ6 hp => ?_)
      obtain ⟨a7, rfl, h⟩ := hp
      change zV x σ6 24 [(5, .int (zI (v4 - v1))), (0, za x (4)), (1, .int (zI (v1))), (2, .int (zI (v2))), (3, za x (29 + r3)), (4, .int (zI (v4)))] [.int (zI (a7))]
      refine z_iload_n C 3 dX1_meetAll_24 rfl rfl ?_
      refine z_isub C dX1_meetAll_25 ?_
      refine z_istore C [(6, .int (zI (a7 - v2))), (5, .int (zI (v4 - v1))), (0, za x (4)), (1, .int (zI (v1))), (2, .int (zI (v2))), (3, za x (29 + r3)), (4, .int (zI (v4)))] dX1_meetAll_26 (by rw [hN]; decide) rfl ?_
      refine z_aload_n C 5 dX1_meetAll_28 rfl rfl ?_
      refine z_iload C 6 dX1_meetAll_29 rfl ?_
      refine z_callV (av := fun w => [.int (zI (v4))]) C [] cs_X3_markedAt (by have := hr3; omega) (zcell_row hr3) rfl (mX3_markedAt r3 v4 hr3 σ6 _ h) km_X1_27 dX1_meetAll_31 rfl rfl ⟨rfl, rfl⟩ ⟨by decide, by decide⟩ (Nat.le_of_ble_eq_true rfl) (fun rv σ8 hp => ?_)
      obtain ⟨a9, rfl, h⟩ := hp
      change zV x σ8 34 [(6, .int (zI (a7 - v2))), (5, .int (zI (v4 - v1))), (0, za x (4)), (1, .int (zI (v1))), (2, .int (zI (v2))), (3, za x (29 + r3)), (4, .int (zI (v4)))] [.int (zI (a9))]
      obtain ⟨o10, h⟩ := h
      refine z_if_eq C 69 dX1_meetAll_34 (by decide) o10 (fun c11 => ?_) (fun c11 => ?_)
      · have h := h.1 c11
        refine z_iinc C 6 [(4, .int (zI (v4 + 1))), (6, .int (zI (a7 - v2))), (5, .int (zI (v4 - v1))), (0, za x (4)), (1, .int (zI (v1))), (2, .int (zI (v2))), (3, za x (29 + r3))] dX1_meetAll_69 rfl (by rw [hN]; decide) rfl ?_
        refine z_goto C 3 dX1_meetAll_72 (by decide) ?_
        refine z_sub C [3, 4, 5, 6, 0] [(0, za x (4)), (1, .int (zI (v1))), (2, .int (zI (v2))), (3, za x (29 + r3)), (4, .int (zI (v4 + 1)))] rfl ?_
        exact ih v1 v2 r3 (v4 + 1) hr3 σ8 h
      · have h := h.2 c11
        refine z_iload C 1 dX1_meetAll_37 rfl ?_
        refine z_callN (av := fun w => [.int (zI (v4 - v1))]) C [] cs_X6_isMove (mX6_isMove (v4 - v1)  σ8 _ h) kn_X1_47 dX1_meetAll_39 rfl rfl ⟨rfl, rfl⟩ ⟨by decide, by decide⟩ (Nat.le_of_ble_eq_true rfl) (fun rv σ12 hp => ?_)
        obtain ⟨a13, rfl, h⟩ := hp
        change zV x σ12 42 [(6, .int (zI (a7 - v2))), (5, .int (zI (v4 - v1))), (0, za x (4)), (1, .int (zI (v1))), (2, .int (zI (v2))), (3, za x (29 + r3)), (4, .int (zI (v4)))] [.int (zI (a13))]
        obtain ⟨o14, h⟩ := h
        refine z_if_eq C 69 dX1_meetAll_42 (by decide) o14 (fun c15 => ?_) (fun c15 => ?_)
        · have h := h.1 c15
          refine z_iinc C 6 [(4, .int (zI (v4 + 1))), (6, .int (zI (a7 - v2))), (5, .int (zI (v4 - v1))), (0, za x (4)), (1, .int (zI (v1))), (2, .int (zI (v2))), (3, za x (29 + r3))] dX1_meetAll_69 rfl (by rw [hN]; decide) rfl ?_
          refine z_goto C 3 dX1_meetAll_72 (by decide) ?_
          refine z_sub C [3, 4, 5, 6, 0] [(0, za x (4)), (1, .int (zI (v1))), (2, .int (zI (v2))), (3, za x (29 + r3)), (4, .int (zI (v4 + 1)))] rfl ?_
          exact ih v1 v2 r3 (v4 + 1) hr3 σ12 h
        · have h := h.2 c15
          refine z_iload C 0 dX1_meetAll_45 rfl ?_
          refine z_callN (av := fun w => [.int (zI (a7 - v2))]) C [] cs_X6_isMove (mX6_isMove (a7 - v2)  σ12 _ h) kn_X1_47 dX1_meetAll_47 rfl rfl ⟨rfl, rfl⟩ ⟨by decide, by decide⟩ (Nat.le_of_ble_eq_true rfl) (fun rv σ16 hp => ?_)
          obtain ⟨a17, rfl, h⟩ := hp
          change zV x σ16 50 [(6, .int (zI (a7 - v2))), (5, .int (zI (v4 - v1))), (0, za x (4)), (1, .int (zI (v1))), (2, .int (zI (v2))), (3, za x (29 + r3)), (4, .int (zI (v4)))] [.int (zI (a17))]
          obtain ⟨o18, h⟩ := h
          refine z_if_eq C 69 dX1_meetAll_50 (by decide) o18 (fun c19 => ?_) (fun c19 => ?_)
          · have h := h.1 c19
            refine z_iinc C 6 [(4, .int (zI (v4 + 1))), (6, .int (zI (a7 - v2))), (5, .int (zI (v4 - v1))), (0, za x (4)), (1, .int (zI (v1))), (2, .int (zI (v2))), (3, za x (29 + r3))] dX1_meetAll_69 rfl (by rw [hN]; decide) rfl ?_
            refine z_goto C 3 dX1_meetAll_72 (by decide) ?_
            refine z_sub C [3, 4, 5, 6, 0] [(0, za x (4)), (1, .int (zI (v1))), (2, .int (zI (v2))), (3, za x (29 + r3)), (4, .int (zI (v4 + 1)))] rfl ?_
            exact ih v1 v2 r3 (v4 + 1) hr3 σ16 h
          · have h := h.2 c19
            refine z_aload_n C 2 dX1_meetAll_53 rfl rfl ?_
            refine g_X1_0 C kf_X1_11 dX1_meetAll_54 ?_
            refine z_iload C 1 dX1_meetAll_57 rfl ?_
            refine z_iload C 0 dX1_meetAll_59 rfl ?_
            refine z_callS (av := fun w => [.int (zI (v4 - v1)), .int (zI (a7 - v2))]) C [za x (5)] cs_X1_placeOf (mX1_placeOf (v4 - v1) (a7 - v2)  σ16 _ h) km_X1_39 dX1_meetAll_61 rfl rfl ⟨rfl, rfl⟩ ⟨by decide, by decide⟩ (Nat.le_of_ble_eq_true rfl) (fun rv σ20 hp => ?_)
            obtain ⟨a21, rfl, h⟩ := hp
            change zV x σ20 64 [(6, .int (zI (a7 - v2))), (5, .int (zI (v4 - v1))), (0, za x (4)), (1, .int (zI (v1))), (2, .int (zI (v2))), (3, za x (29 + r3)), (4, .int (zI (v4)))] [.int (zI (a21)), za x (5)]
            refine z_dup2 C dX1_meetAll_64 rfl rfl ?_
            obtain ⟨o22, h⟩ := h
            refine z_iald C ia_5 dX1_meetAll_65 o22.1 o22.2 ?_
            refine z_iconst C dX1_meetAll_66 ?_
            refine z_iadd C dX1_meetAll_67 ?_
            refine z_iast C ia_5 dX1_meetAll_68 o22.1 o22.2 ?_
            refine z_iinc C 6 [(4, .int (zI (v4 + 1))), (6, .int (zI (a7 - v2))), (5, .int (zI (v4 - v1))), (0, za x (4)), (1, .int (zI (v1))), (2, .int (zI (v2))), (3, za x (29 + r3))] dX1_meetAll_69 rfl (by rw [hN]; decide) rfl ?_
            refine z_goto C 3 dX1_meetAll_72 (by decide) ?_
            refine z_sub C [3, 4, 5, 6, 0] [(0, za x (4)), (1, .int (zI (v1))), (2, .int (zI (v2))), (3, za x (29 + r3)), (4, .int (zI (v4 + 1)))] rfl ?_
            exact ih v1 v2 r3 (v4 + 1) hr3 (zst σ20 5 a21.toNat ((σ20 5 a21.toNat) + 1)) h
def wX1_meetAll (v1 : Int) (v2 : Int) (r3 : Nat) (σ : Hp) (k : Hp → Prop) : Prop :=
  (∃ N1, wX1_meetAll_3 k N1 v1 v2 r3 0 σ)
set_option maxRecDepth 100000 in
theorem mX1_meetAll (v1 : Int) (v2 : Int) (r3 : Nat) (hr3 : r3 < 7) (σ : Hp) (k : Hp → Prop) (h : wX1_meetAll v1 v2 r3 σ k) (l : Launch) : zMt l yX1_meetAll cX1_meetAll 7 (none) { frames := 3, cells := 0, slots := 0, locals := 64 } (fun w => [.ref (w.2.1 (4)), .int (zI (v1)), .int (zI (v2)), .ref (w.2.1 (29 + r3))]) σ (zPv k) := by
  refine zMt_of (plainFor_of_name (by decide)) (fun w => Nat.le_of_ble_eq_true rfl) (fun x hl hN C E => ?_)
  change zV x σ 0 [(0, za x (4)), (1, .int (zI (v1))), (2, .int (zI (v2))), (3, za x (29 + r3))] []
  change zOk x cX1_meetAll RX1 (none) (3) (64) at C
  unfold wX1_meetAll at h
  refine z_iconst C dX1_meetAll_0 ?_
  refine z_istore C [(4, .int (zI (0))), (0, za x (4)), (1, .int (zI (v1))), (2, .int (zI (v2))), (3, za x (29 + r3))] dX1_meetAll_1 (by rw [hN]; decide) rfl ?_
  refine z_sub C [1, 2, 3, 4, 0] [(0, za x (4)), (1, .int (zI (v1))), (2, .int (zI (v2))), (3, za x (29 + r3)), (4, .int (zI (0)))] rfl ?_
  obtain ⟨n1, h⟩ := h
  exact sX1_meetAll_3 C hN E n1 v1 v2 r3 0 hr3 σ h
def wX1_weigh_17 (k : Hp → Prop) : Nat → Int → Int → Hp → Prop
  | 0, _, _, _ => False
  | n + 1, v1, v2, σ => zrg v2 ∧ zrg (((625 : Nat) : Int)) ∧ ((((625 : Nat) : Int) ≤ v2 → k σ) ∧ (¬ (((625 : Nat) : Int) ≤ v2) → zrg v1 ∧ ((v2 = v1 → wX1_weigh_17 k n v1 (v2 + 1) σ) ∧ (¬ (v2 = v1) → (0 ≤ v2 ∧ v2 < 625) ∧ zrg ((zst σ 4 3 ((σ 4 3) + ((σ 5 v2.toNat) * (σ 5 v2.toNat)))) 5 v2.toNat) ∧ zrg ((zst σ 4 3 ((σ 4 3) + ((σ 5 v2.toNat) * (σ 5 v2.toNat)))) 4 1) ∧ (((zst σ 4 3 ((σ 4 3) + ((σ 5 v2.toNat) * (σ 5 v2.toNat)))) 5 v2.toNat ≤ (zst σ 4 3 ((σ 4 3) + ((σ 5 v2.toNat) * (σ 5 v2.toNat)))) 4 1 → wX1_weigh_17 k n v1 (v2 + 1) (zst σ 4 3 ((σ 4 3) + ((σ 5 v2.toNat) * (σ 5 v2.toNat))))) ∧ (¬ ((zst σ 4 3 ((σ 4 3) + ((σ 5 v2.toNat) * (σ 5 v2.toNat)))) 5 v2.toNat ≤ (zst σ 4 3 ((σ 4 3) + ((σ 5 v2.toNat) * (σ 5 v2.toNat)))) 4 1) → wX1_weigh_17 k n v1 (v2 + 1) (zst (zst (zst σ 4 3 ((σ 4 3) + ((σ 5 v2.toNat) * (σ 5 v2.toNat)))) 4 1 ((zst σ 4 3 ((σ 4 3) + ((σ 5 v2.toNat) * (σ 5 v2.toNat)))) 5 v2.toNat)) 4 2 v2)))))))
set_option maxRecDepth 100000 in
theorem sX1_weigh_17 {x : Cx} (C : zOk x cX1_weigh RX1 (none) (0) (0)) (hN : x.2.2.2.2.1 = 3) {k : Hp → Prop} (E : zEnd x (zPv k x.2.1)) : ∀ (n : Nat) (v1 : Int) (v2 : Int) (σ : Hp), wX1_weigh_17 k n v1 v2 σ → zV x σ 17 [(0, za x (4)), (1, .int (zI (v1))), (2, .int (zI (v2)))] [] := by
  intro n
  induction n with
  | zero => intro _ _ _ h; exact h.elim
  | succ n ih =>
    intro v1 v2 σ h
    unfold wX1_weigh_17 at h
    refine z_iload_n C 2 dX1_weigh_17 rfl rfl ?_
    refine z_aload_n C 0 dX1_weigh_18 rfl rfl ?_
    refine g_X1_0 C kf_X1_11 dX1_weigh_19 ?_
    refine z_alen C ia_5 dX1_weigh_22 ?_
    obtain ⟨o1, h⟩ := h
    obtain ⟨o2, h⟩ := h
    refine z_icmp_ge C 87 dX1_weigh_23 (by decide) o1 o2 (fun c3 => ?_) (fun c3 => ?_)
    · have h := h.1 c3
      exact z_vret C E dX1_weigh_87 ⟨rfl, h⟩
    · have h := h.2 c3
      refine z_iload_n C 2 dX1_weigh_26 rfl rfl ?_
      refine z_iload_n C 1 dX1_weigh_27 rfl rfl ?_
      obtain ⟨o4, h⟩ := h
      refine z_icmp_eq C 81 dX1_weigh_28 (by decide) o1 o4 (fun c5 => ?_) (fun c5 => ?_)
      · have h := h.1 c5
        refine z_iinc C 2 [(2, .int (zI (v2 + 1))), (0, za x (4)), (1, .int (zI (v1)))] dX1_weigh_81 rfl (by rw [hN]; decide) rfl ?_
        refine z_goto C 17 dX1_weigh_84 (by decide) ?_
        refine z_sub C [1, 2, 0] [(0, za x (4)), (1, .int (zI (v1))), (2, .int (zI (v2 + 1)))] rfl ?_
        exact ih v1 (v2 + 1)  σ h
      · have h := h.2 c5
        refine z_aload_n C 0 dX1_weigh_31 rfl rfl ?_
        refine z_dup C dX1_weigh_32 rfl ?_
        refine g_X1_3 C kf_X1_57 dX1_weigh_33 ?_
        refine z_aload_n C 0 dX1_weigh_36 rfl rfl ?_
        refine g_X1_0 C kf_X1_11 dX1_weigh_37 ?_
        refine z_iload_n C 2 dX1_weigh_40 rfl rfl ?_
        obtain ⟨o6, h⟩ := h
        refine z_iald C ia_5 dX1_weigh_41 o6.1 o6.2 ?_
        refine z_aload_n C 0 dX1_weigh_42 rfl rfl ?_
        refine g_X1_0 C kf_X1_11 dX1_weigh_43 ?_
        refine z_iload_n C 2 dX1_weigh_46 rfl rfl ?_
        refine z_iald C ia_5 dX1_weigh_47 o6.1 o6.2 ?_
        refine z_imul C dX1_weigh_48 ?_
        refine z_iadd C dX1_weigh_49 ?_
        refine p_X1_3 C kf_X1_57 dX1_weigh_50 ?_
        refine z_aload_n C 0 dX1_weigh_53 rfl rfl ?_
        refine g_X1_0 C kf_X1_11 dX1_weigh_54 ?_
        refine z_iload_n C 2 dX1_weigh_57 rfl rfl ?_
        refine z_iald C ia_5 dX1_weigh_58 o6.1 o6.2 ?_
        refine z_aload_n C 0 dX1_weigh_59 rfl rfl ?_
        refine g_X1_1 C kf_X1_50 dX1_weigh_60 ?_
        obtain ⟨o7, h⟩ := h
        obtain ⟨o8, h⟩ := h
        refine z_icmp_le C 81 dX1_weigh_63 (by decide) o7 o8 (fun c9 => ?_) (fun c9 => ?_)
        · have h := h.1 c9
          refine z_iinc C 2 [(2, .int (zI (v2 + 1))), (0, za x (4)), (1, .int (zI (v1)))] dX1_weigh_81 rfl (by rw [hN]; decide) rfl ?_
          refine z_goto C 17 dX1_weigh_84 (by decide) ?_
          refine z_sub C [1, 2, 0] [(0, za x (4)), (1, .int (zI (v1))), (2, .int (zI (v2 + 1)))] rfl ?_
          exact ih v1 (v2 + 1)  (zst σ 4 3 ((σ 4 3) + ((σ 5 v2.toNat) * (σ 5 v2.toNat)))) h
        · have h := h.2 c9
          refine z_aload_n C 0 dX1_weigh_66 rfl rfl ?_
          refine z_aload_n C 0 dX1_weigh_67 rfl rfl ?_
          refine g_X1_0 C kf_X1_11 dX1_weigh_68 ?_
          refine z_iload_n C 2 dX1_weigh_71 rfl rfl ?_
          refine z_iald C ia_5 dX1_weigh_72 o6.1 o6.2 ?_
          refine p_X1_1 C kf_X1_50 dX1_weigh_73 ?_
          refine z_aload_n C 0 dX1_weigh_76 rfl rfl ?_
          refine z_iload_n C 2 dX1_weigh_77 rfl rfl ?_
          refine p_X1_2 C kf_X1_54 dX1_weigh_78 ?_
          refine z_iinc C 2 [(2, .int (zI (v2 + 1))), (0, za x (4)), (1, .int (zI (v1)))] dX1_weigh_81 rfl (by rw [hN]; decide) rfl ?_
          refine z_goto C 17 dX1_weigh_84 (by decide) ?_
          refine z_sub C [1, 2, 0] [(0, za x (4)), (1, .int (zI (v1))), (2, .int (zI (v2 + 1)))] rfl ?_
          exact ih v1 (v2 + 1)  (zst (zst (zst σ 4 3 ((σ 4 3) + ((σ 5 v2.toNat) * (σ 5 v2.toNat)))) 4 1 ((zst σ 4 3 ((σ 4 3) + ((σ 5 v2.toNat) * (σ 5 v2.toNat)))) 5 v2.toNat)) 4 2 v2) h
def wX1_weigh (v1 : Int) (σ : Hp) (k : Hp → Prop) : Prop :=
  (∃ N1, wX1_weigh_17 k N1 v1 0 (zst (zst (zst σ 4 1 ((-1))) 4 2 0) 4 3 0))
set_option maxRecDepth 100000 in
theorem mX1_weigh (v1 : Int) (σ : Hp) (k : Hp → Prop) (h : wX1_weigh v1 σ k) (l : Launch) : zMt l yX1_weigh cX1_weigh 3 (none) { frames := 0, cells := 0, slots := 0, locals := 0 } (fun w => [.ref (w.2.1 (4)), .int (zI (v1))]) σ (zPv k) := by
  refine zMt_of (plainFor_of_name (by decide)) (fun w => Nat.le_of_ble_eq_true rfl) (fun x hl hN C E => ?_)
  change zV x σ 0 [(0, za x (4)), (1, .int (zI (v1)))] []
  change zOk x cX1_weigh RX1 (none) (0) (0) at C
  unfold wX1_weigh at h
  refine z_aload_n C 0 dX1_weigh_0 rfl rfl ?_
  refine z_iconst C dX1_weigh_1 ?_
  refine p_X1_1 C kf_X1_50 dX1_weigh_2 ?_
  refine z_aload_n C 0 dX1_weigh_5 rfl rfl ?_
  refine z_iconst C dX1_weigh_6 ?_
  refine p_X1_2 C kf_X1_54 dX1_weigh_7 ?_
  refine z_aload_n C 0 dX1_weigh_10 rfl rfl ?_
  refine z_iconst C dX1_weigh_11 ?_
  refine p_X1_3 C kf_X1_57 dX1_weigh_12 ?_
  refine z_iconst C dX1_weigh_15 ?_
  refine z_istore_n C [(2, .int (zI (0))), (0, za x (4)), (1, .int (zI (v1)))] dX1_weigh_16 rfl (by rw [hN]; decide) rfl ?_
  refine z_sub C [1, 2, 0] [(0, za x (4)), (1, .int (zI (v1))), (2, .int (zI (0)))] rfl ?_
  obtain ⟨n1, h⟩ := h
  exact sX1_weigh_17 C hN E n1 v1 0  (zst (zst (zst σ 4 1 ((-1))) 4 2 0) 4 3 0) h
def wX1_lookAt_62 (k : Hp → Prop) (t0 : Int) (σ : Hp) : Prop :=
  wX1_weigh t0 σ (fun σ1 => k σ1)
set_option maxRecDepth 100000 in
theorem sX1_lookAt_62 {x : Cx} (C : zOk x cX1_lookAt RX1 (none) (4) (90)) (hN : x.2.2.2.2.1 = 5) {k : Hp → Prop} (E : zEnd x (zPv k x.2.1)) (t0 : Int) (σ : Hp) (h : wX1_lookAt_62 k t0 σ) : zV x σ 62 [] [.int (zI (t0)), za x (4)] := by
  unfold wX1_lookAt_62 at h
  refine z_callV (av := fun w => [.int (zI (t0))]) C [] cs_X1_weigh (by decide) (fun _ _ => rfl) rfl (mX1_weigh t0  σ _ h) km_X1_43 dX1_lookAt_62 rfl rfl ⟨rfl, rfl⟩ ⟨by decide, by decide⟩ (Nat.le_of_ble_eq_true rfl) (fun rv σ1 hp => ?_)
  obtain ⟨rfl, h⟩ := hp
  change zV x σ1 65 [] []
  exact z_vret C E dX1_lookAt_65 ⟨rfl, h⟩
def wX1_lookAt_11 (k : Hp → Prop) : Nat → Nat → Nat → Int → Int → Hp → Prop
  | 0, _, _, _, _, _ => False
  | n + 1, r1, r2, v3, v4, σ => wX3_columns r1 σ (fun a2 σ1 => zrg v4 ∧ zrg a2 ∧ ((a2 ≤ v4 → zrg v3 ∧ ((v3 = 0 → wX1_lookAt_62 k ((-1)) σ1) ∧ (¬ (v3 = 0) → wX1_placeOf 0 0 σ1 (fun a9 σ8 => wX1_lookAt_62 k a9 σ8)))) ∧ (¬ (a2 ≤ v4) → wX3_markedAt r1 v4 σ1 (fun a11 σ10 => zrg a11 ∧ ((a11 = 0 → wX1_lookAt_11 k n r1 r2 v3 (v4 + 1) σ10) ∧ (¬ (a11 = 0) → wX3_lineAt r1 v4 σ10 (fun a15 σ14 => wX1_meetAll v4 a15 r2 σ14 (fun σ16 => wX1_lookAt_11 k n r1 r2 v3 (v4 + 1) σ16))))))))
set_option maxRecDepth 100000 in
theorem sX1_lookAt_11 {x : Cx} (C : zOk x cX1_lookAt RX1 (none) (4) (90)) (hN : x.2.2.2.2.1 = 5) {k : Hp → Prop} (E : zEnd x (zPv k x.2.1)) : ∀ (n : Nat) (r1 : Nat) (r2 : Nat) (v3 : Int) (v4 : Int) (hr1 : r1 < 7) (hr2 : r2 < 7) (σ : Hp), wX1_lookAt_11 k n r1 r2 v3 v4 σ → zV x σ 11 [(0, za x (4)), (1, za x (29 + r1)), (2, za x (29 + r2)), (3, .int (zI (v3))), (4, .int (zI (v4)))] [] := by
  intro n
  induction n with
  | zero => intro _ _ _ _ _ _ _ h; exact h.elim
  | succ n ih =>
    intro r1 r2 v3 v4 hr1 hr2 σ h
    unfold wX1_lookAt_11 at h
    refine z_iload C 4 dX1_lookAt_11 rfl ?_
    refine z_aload_n C 1 dX1_lookAt_13 rfl rfl ?_
    refine z_callV (av := fun w => []) C [.int (zI (v4))] cs_X3_columns (by have := hr1; omega) (zcell_row hr1) rfl (mX3_columns r1 hr1 σ _ h) km_X1_21 dX1_lookAt_14 rfl rfl ⟨rfl, rfl⟩ ⟨by decide, by decide⟩ (Nat.le_of_ble_eq_true rfl) (fun rv σ1 hp => ?_)
    obtain ⟨a2, rfl, h⟩ := hp
    change zV x σ1 17 [(0, za x (4)), (1, za x (29 + r1)), (2, za x (29 + r2)), (3, .int (zI (v3))), (4, .int (zI (v4)))] [.int (zI (a2)), .int (zI (v4))]
    obtain ⟨o3, h⟩ := h
    obtain ⟨o4, h⟩ := h
    refine z_icmp_ge C 48 dX1_lookAt_17 (by decide) o3 o4 (fun c5 => ?_) (fun c5 => ?_)
    · have h := h.1 c5
      refine z_aload_n C 0 dX1_lookAt_48 rfl rfl ?_
      refine z_iload_n C 3 dX1_lookAt_49 rfl rfl ?_
      obtain ⟨o6, h⟩ := h
      refine z_if_eq C 61 dX1_lookAt_50 (by decide) o6 (fun c7 => ?_) (fun c7 => ?_)
      · have h := h.1 c7
        refine z_iconst C dX1_lookAt_61 ?_
        refine z_sub C [] [] rfl ?_
        exact sX1_lookAt_62 C hN E ((-1))  σ1 h
      · have h := h.2 c7
        refine z_iconst C dX1_lookAt_53 ?_
        refine z_iconst C dX1_lookAt_54 ?_
        refine z_callS (av := fun w => [.int (zI (0)), .int (zI (0))]) C [za x (4)] cs_X1_placeOf (mX1_placeOf 0 0  σ1 _ h) km_X1_39 dX1_lookAt_55 rfl rfl ⟨rfl, rfl⟩ ⟨by decide, by decide⟩ (Nat.le_of_ble_eq_true rfl) (fun rv σ8 hp => ?_)
        obtain ⟨a9, rfl, h⟩ := hp
        change zV x σ8 58 [(0, za x (4)), (1, za x (29 + r1)), (2, za x (29 + r2)), (3, .int (zI (v3))), (4, .int (zI (v4)))] [.int (zI (a9)), za x (4)]
        refine z_goto C 62 dX1_lookAt_58 (by decide) ?_
        refine z_sub C [] [] rfl ?_
        exact sX1_lookAt_62 C hN E a9  σ8 h
    · have h := h.2 c5
      refine z_aload_n C 1 dX1_lookAt_20 rfl rfl ?_
      refine z_iload C 4 dX1_lookAt_21 rfl ?_
      refine z_callV (av := fun w => [.int (zI (v4))]) C [] cs_X3_markedAt (by have := hr1; omega) (zcell_row hr1) rfl (mX3_markedAt r1 v4 hr1 σ1 _ h) km_X1_27 dX1_lookAt_23 rfl rfl ⟨rfl, rfl⟩ ⟨by decide, by decide⟩ (Nat.le_of_ble_eq_true rfl) (fun rv σ10 hp => ?_)
      obtain ⟨a11, rfl, h⟩ := hp
      change zV x σ10 26 [(0, za x (4)), (1, za x (29 + r1)), (2, za x (29 + r2)), (3, .int (zI (v3))), (4, .int (zI (v4)))] [.int (zI (a11))]
      obtain ⟨o12, h⟩ := h
      refine z_if_eq C 42 dX1_lookAt_26 (by decide) o12 (fun c13 => ?_) (fun c13 => ?_)
      · have h := h.1 c13
        refine z_iinc C 4 [(4, .int (zI (v4 + 1))), (0, za x (4)), (1, za x (29 + r1)), (2, za x (29 + r2)), (3, .int (zI (v3)))] dX1_lookAt_42 rfl (by rw [hN]; decide) rfl ?_
        refine z_goto C 11 dX1_lookAt_45 (by decide) ?_
        refine z_sub C [1, 2, 3, 4, 0] [(0, za x (4)), (1, za x (29 + r1)), (2, za x (29 + r2)), (3, .int (zI (v3))), (4, .int (zI (v4 + 1)))] rfl ?_
        exact ih r1 r2 v3 (v4 + 1) hr1 hr2 σ10 h
      · have h := h.2 c13
        refine z_aload_n C 0 dX1_lookAt_29 rfl rfl ?_
        refine z_iload C 4 dX1_lookAt_30 rfl ?_
        refine z_aload_n C 1 dX1_lookAt_32 rfl rfl ?_
        refine z_iload C 4 dX1_lookAt_33 rfl ?_
        refine z_callV (av := fun w => [.int (zI (v4))]) C [.int (zI (v4)), za x (4)] cs_X3_lineAt (by have := hr1; omega) (zcell_row hr1) rfl (mX3_lineAt r1 v4 hr1 σ10 _ h) km_X1_31 dX1_lookAt_35 rfl rfl ⟨rfl, rfl⟩ ⟨by decide, by decide⟩ (Nat.le_of_ble_eq_true rfl) (fun rv σ14 hp => ?_)
        obtain ⟨a15, rfl, h⟩ := hp
        change zV x σ14 38 [(0, za x (4)), (1, za x (29 + r1)), (2, za x (29 + r2)), (3, .int (zI (v3))), (4, .int (zI (v4)))] [.int (zI (a15)), .int (zI (v4)), za x (4)]
        refine z_aload_n C 2 dX1_lookAt_38 rfl rfl ?_
        refine z_callV (av := fun w => [.int (zI (v4)), .int (zI (a15)), .ref (w.2.1 (29 + r2))]) C [] cs_X1_meetAll (by decide) (fun _ _ => rfl) rfl (mX1_meetAll v4 a15 r2 hr2 σ14 _ h) km_X1_35 dX1_lookAt_39 rfl rfl ⟨rfl, rfl⟩ ⟨by decide, by decide⟩ (Nat.le_of_ble_eq_true rfl) (fun rv σ16 hp => ?_)
        obtain ⟨rfl, h⟩ := hp
        change zV x σ16 42 [(0, za x (4)), (1, za x (29 + r1)), (2, za x (29 + r2)), (3, .int (zI (v3))), (4, .int (zI (v4)))] []
        refine z_iinc C 4 [(4, .int (zI (v4 + 1))), (0, za x (4)), (1, za x (29 + r1)), (2, za x (29 + r2)), (3, .int (zI (v3)))] dX1_lookAt_42 rfl (by rw [hN]; decide) rfl ?_
        refine z_goto C 11 dX1_lookAt_45 (by decide) ?_
        refine z_sub C [1, 2, 3, 4, 0] [(0, za x (4)), (1, za x (29 + r1)), (2, za x (29 + r2)), (3, .int (zI (v3))), (4, .int (zI (v4 + 1)))] rfl ?_
        exact ih r1 r2 v3 (v4 + 1) hr1 hr2 σ16 h
def wX1_lookAt (r1 : Nat) (r2 : Nat) (v3 : Int) (σ : Hp) (k : Hp → Prop) : Prop :=
  wJ7_fill_53178 5 625 0 σ (fun σ1 => (∃ N2, wX1_lookAt_11 k N2 r1 r2 v3 0 σ1))
set_option maxRecDepth 100000 in
theorem mX1_lookAt (r1 : Nat) (r2 : Nat) (v3 : Int) (hr1 : r1 < 7) (hr2 : r2 < 7) (σ : Hp) (k : Hp → Prop) (h : wX1_lookAt r1 r2 v3 σ k) (l : Launch) : zMt l yX1_lookAt cX1_lookAt 5 (none) { frames := 4, cells := 0, slots := 0, locals := 90 } (fun w => [.ref (w.2.1 (4)), .ref (w.2.1 (29 + r1)), .ref (w.2.1 (29 + r2)), .int (zI (v3))]) σ (zPv k) := by
  refine zMt_of (plainFor_of_name (by decide)) (fun w => Nat.le_of_ble_eq_true rfl) (fun x hl hN C E => ?_)
  change zV x σ 0 [(0, za x (4)), (1, za x (29 + r1)), (2, za x (29 + r2)), (3, .int (zI (v3)))] []
  change zOk x cX1_lookAt RX1 (none) (4) (90) at C
  unfold wX1_lookAt at h
  refine z_aload_n C 0 dX1_lookAt_0 rfl rfl ?_
  refine g_X1_0 C kf_X1_11 dX1_lookAt_1 ?_
  refine z_iconst C dX1_lookAt_4 ?_
  refine z_callS (av := fun w => [.ref (w.2.1 (5)), .int (zI (0))]) C [] cs_J7_fill_53178 (mJ7_fill_53178 5 625 0 ia_5 σ _ h) km_X1_15 dX1_lookAt_5 rfl rfl ⟨rfl, rfl⟩ ⟨by decide, by decide⟩ (Nat.le_of_ble_eq_true rfl) (fun rv σ1 hp => ?_)
  obtain ⟨rfl, h⟩ := hp
  change zV x σ1 8 [(0, za x (4)), (1, za x (29 + r1)), (2, za x (29 + r2)), (3, .int (zI (v3)))] []
  refine z_iconst C dX1_lookAt_8 ?_
  refine z_istore C [(4, .int (zI (0))), (0, za x (4)), (1, za x (29 + r1)), (2, za x (29 + r2)), (3, .int (zI (v3)))] dX1_lookAt_9 (by rw [hN]; decide) rfl ?_
  refine z_sub C [1, 2, 3, 4, 0] [(0, za x (4)), (1, za x (29 + r1)), (2, za x (29 + r2)), (3, .int (zI (v3))), (4, .int (zI (0)))] rfl ?_
  obtain ⟨n2, h⟩ := h
  exact sX1_lookAt_11 C hN E n2 r1 r2 v3 0 hr1 hr2 σ1 h
def wX1_sumOfSquares (σ : Hp) (k : Int → Hp → Prop) : Prop :=
  k (σ 4 3) σ
set_option maxRecDepth 100000 in
theorem mX1_sumOfSquares (σ : Hp) (k : Int → Hp → Prop) (h : wX1_sumOfSquares  σ k) (l : Launch) : zMt l yX1_sumOfSquares cX1_sumOfSquares 1 (some .int) { frames := 0, cells := 0, slots := 0, locals := 0 } (fun w => [.ref (w.2.1 (4))]) σ (zPi k) := by
  refine zMt_of (plainFor_of_name (by decide)) (fun w => Nat.le_of_ble_eq_true rfl) (fun x hl hN C E => ?_)
  change zV x σ 0 [(0, za x (4))] []
  change zOk x cX1_sumOfSquares RX1 (some .int) (0) (0) at C
  unfold wX1_sumOfSquares at h
  refine z_aload_n C 0 dX1_sumOfSquares_0 rfl rfl ?_
  refine g_X1_3 C kf_X1_57 dX1_sumOfSquares_1 ?_
  exact z_iret C E dX1_sumOfSquares_4 ⟨_, rfl, h⟩
def wX2_newQuarrels_29 (k : Int → Hp → Prop) (K4 : Int → Int → Int → Hp → Prop) : Nat → Int → Int → Int → Int → Int → Hp → Prop
  | 0, _, _, _, _, _, _ => False
  | n + 1, v1, v2, v3, v4, v5, σ => zrg v5 ∧ zrg (v1 - v3) ∧ ((v1 - v3 ≤ v5 → K4 v1 v2 (v3 + 1) σ) ∧ (¬ (v1 - v3 ≤ v5) → (0 ≤ v5 + v3 ∧ v5 + v3 < 6) ∧ (0 ≤ v5 ∧ v5 < 6) ∧ zrg ((σ 11 (v5 + v3).toNat) - (σ 11 v5.toNat)) ∧ zrg v4 ∧ (((σ 11 (v5 + v3).toNat) - (σ 11 v5.toNat) ≠ v4 → wX2_newQuarrels_29 k K4 n v1 v2 v3 v4 (v5 + 1) σ) ∧ (¬ ((σ 11 (v5 + v3).toNat) - (σ 11 v5.toNat) ≠ v4) → wX2_newQuarrels_29 k K4 n v1 (v2 + 1) v3 v4 (v5 + 1) σ))))
set_option maxRecDepth 100000 in
theorem sX2_newQuarrels_29 {x : Cx} (C : zOk x cX2_newQuarrels RX2 (some .int) (0) (0)) (hN : x.2.2.2.2.1 = 6) {k : Int → Hp → Prop} (E : zEnd x (zPi k x.2.1)) {K4 : Int → Int → Int → Hp → Prop} (H4 : ∀ (v1 : Int) (v2 : Int) (v3 : Int) (σ : Hp), K4 v1 v2 v3 σ → zV x σ 4 [(0, za x (10)), (1, .int (zI (v1))), (2, .int (zI (v2))), (3, .int (zI (v3)))] []) : ∀ (n : Nat) (v1 : Int) (v2 : Int) (v3 : Int) (v4 : Int) (v5 : Int) (σ : Hp), wX2_newQuarrels_29 k K4 n v1 v2 v3 v4 v5 σ → zV x σ 29 [(0, za x (10)), (1, .int (zI (v1))), (2, .int (zI (v2))), (3, .int (zI (v3))), (4, .int (zI (v4))), (5, .int (zI (v5)))] [] := by
  intro n
  induction n with
  | zero => intro _ _ _ _ _ _ h; exact h.elim
  | succ n ih =>
    intro v1 v2 v3 v4 v5 σ h
    unfold wX2_newQuarrels_29 at h
    refine z_iload C 5 dX2_newQuarrels_29 rfl ?_
    refine z_iload_n C 1 dX2_newQuarrels_31 rfl rfl ?_
    refine z_iload_n C 3 dX2_newQuarrels_32 rfl rfl ?_
    refine z_isub C dX2_newQuarrels_33 ?_
    obtain ⟨o1, h⟩ := h
    obtain ⟨o2, h⟩ := h
    refine z_icmp_ge C 68 dX2_newQuarrels_34 (by decide) o1 o2 (fun c3 => ?_) (fun c3 => ?_)
    · have h := h.1 c3
      refine z_iinc C 3 [(3, .int (zI (v3 + 1))), (0, za x (10)), (1, .int (zI (v1))), (2, .int (zI (v2))), (4, .int (zI (v4))), (5, .int (zI (v5)))] dX2_newQuarrels_68 rfl (by rw [hN]; decide) rfl ?_
      refine z_goto C 4 dX2_newQuarrels_71 (by decide) ?_
      refine z_sub C [1, 2, 3, 0] [(0, za x (10)), (1, .int (zI (v1))), (2, .int (zI (v2))), (3, .int (zI (v3 + 1)))] rfl ?_
      exact H4 v1 v2 (v3 + 1)  σ h
    · have h := h.2 c3
      refine z_aload_n C 0 dX2_newQuarrels_37 rfl rfl ?_
      refine g_X2_0 C kf_X2_9 dX2_newQuarrels_38 ?_
      refine z_iload C 5 dX2_newQuarrels_41 rfl ?_
      refine z_iload_n C 3 dX2_newQuarrels_43 rfl rfl ?_
      refine z_iadd C dX2_newQuarrels_44 ?_
      obtain ⟨o4, h⟩ := h
      refine z_iald C ia_11 dX2_newQuarrels_45 o4.1 o4.2 ?_
      refine z_aload_n C 0 dX2_newQuarrels_46 rfl rfl ?_
      refine g_X2_0 C kf_X2_9 dX2_newQuarrels_47 ?_
      refine z_iload C 5 dX2_newQuarrels_50 rfl ?_
      obtain ⟨o5, h⟩ := h
      refine z_iald C ia_11 dX2_newQuarrels_52 o5.1 o5.2 ?_
      refine z_isub C dX2_newQuarrels_53 ?_
      refine z_iload C 4 dX2_newQuarrels_54 rfl ?_
      obtain ⟨o6, h⟩ := h
      obtain ⟨o7, h⟩ := h
      refine z_icmp_ne C 62 dX2_newQuarrels_56 (by decide) o6 o7 (fun c8 => ?_) (fun c8 => ?_)
      · have h := h.1 c8
        refine z_iinc C 5 [(5, .int (zI (v5 + 1))), (0, za x (10)), (1, .int (zI (v1))), (2, .int (zI (v2))), (3, .int (zI (v3))), (4, .int (zI (v4)))] dX2_newQuarrels_62 rfl (by rw [hN]; decide) rfl ?_
        refine z_goto C 29 dX2_newQuarrels_65 (by decide) ?_
        refine z_sub C [1, 2, 3, 4, 5, 0] [(0, za x (10)), (1, .int (zI (v1))), (2, .int (zI (v2))), (3, .int (zI (v3))), (4, .int (zI (v4))), (5, .int (zI (v5 + 1)))] rfl ?_
        exact ih v1 v2 v3 v4 (v5 + 1)  σ h
      · have h := h.2 c8
        refine z_iinc C 2 [(2, .int (zI (v2 + 1))), (0, za x (10)), (1, .int (zI (v1))), (3, .int (zI (v3))), (4, .int (zI (v4))), (5, .int (zI (v5)))] dX2_newQuarrels_59 rfl (by rw [hN]; decide) rfl ?_
        refine z_iinc C 5 [(5, .int (zI (v5 + 1))), (2, .int (zI (v2 + 1))), (0, za x (10)), (1, .int (zI (v1))), (3, .int (zI (v3))), (4, .int (zI (v4)))] dX2_newQuarrels_62 rfl (by rw [hN]; decide) rfl ?_
        refine z_goto C 29 dX2_newQuarrels_65 (by decide) ?_
        refine z_sub C [2, 3, 1, 4, 5, 0] [(0, za x (10)), (1, .int (zI (v1))), (2, .int (zI (v2 + 1))), (3, .int (zI (v3))), (4, .int (zI (v4))), (5, .int (zI (v5 + 1)))] rfl ?_
        exact ih v1 (v2 + 1) v3 v4 (v5 + 1)  σ h
def wX2_newQuarrels_4 (k : Int → Hp → Prop) : Nat → Int → Int → Int → Hp → Prop
  | 0, _, _, _, _ => False
  | n + 1, v1, v2, v3, σ => zrg v3 ∧ zrg v1 ∧ ((v1 ≤ v3 → k v2 σ) ∧ (¬ (v1 ≤ v3) → (0 ≤ v1 ∧ v1 < 6) ∧ (0 ≤ v1 - v3 ∧ v1 - v3 < 6) ∧ (∃ N6, wX2_newQuarrels_29 k (fun v1 v2 v3 σ => wX2_newQuarrels_4 k n v1 v2 v3 σ) N6 v1 v2 v3 ((σ 11 v1.toNat) - (σ 11 (v1 - v3).toNat)) 0 σ)))
set_option maxRecDepth 100000 in
theorem sX2_newQuarrels_4 {x : Cx} (C : zOk x cX2_newQuarrels RX2 (some .int) (0) (0)) (hN : x.2.2.2.2.1 = 6) {k : Int → Hp → Prop} (E : zEnd x (zPi k x.2.1)) : ∀ (n : Nat) (v1 : Int) (v2 : Int) (v3 : Int) (σ : Hp), wX2_newQuarrels_4 k n v1 v2 v3 σ → zV x σ 4 [(0, za x (10)), (1, .int (zI (v1))), (2, .int (zI (v2))), (3, .int (zI (v3)))] [] := by
  intro n
  induction n with
  | zero => intro _ _ _ _ h; exact h.elim
  | succ n ih =>
    intro v1 v2 v3 σ h
    unfold wX2_newQuarrels_4 at h
    refine z_iload_n C 3 dX2_newQuarrels_4 rfl rfl ?_
    refine z_iload_n C 1 dX2_newQuarrels_5 rfl rfl ?_
    obtain ⟨o1, h⟩ := h
    obtain ⟨o2, h⟩ := h
    refine z_icmp_ge C 74 dX2_newQuarrels_6 (by decide) o1 o2 (fun c3 => ?_) (fun c3 => ?_)
    · have h := h.1 c3
      refine z_iload_n C 2 dX2_newQuarrels_74 rfl rfl ?_
      exact z_iret C E dX2_newQuarrels_75 ⟨_, rfl, h⟩
    · have h := h.2 c3
      refine z_aload_n C 0 dX2_newQuarrels_9 rfl rfl ?_
      refine g_X2_0 C kf_X2_9 dX2_newQuarrels_10 ?_
      refine z_iload_n C 1 dX2_newQuarrels_13 rfl rfl ?_
      obtain ⟨o4, h⟩ := h
      refine z_iald C ia_11 dX2_newQuarrels_14 o4.1 o4.2 ?_
      refine z_aload_n C 0 dX2_newQuarrels_15 rfl rfl ?_
      refine g_X2_0 C kf_X2_9 dX2_newQuarrels_16 ?_
      refine z_iload_n C 1 dX2_newQuarrels_19 rfl rfl ?_
      refine z_iload_n C 3 dX2_newQuarrels_20 rfl rfl ?_
      refine z_isub C dX2_newQuarrels_21 ?_
      obtain ⟨o5, h⟩ := h
      refine z_iald C ia_11 dX2_newQuarrels_22 o5.1 o5.2 ?_
      refine z_isub C dX2_newQuarrels_23 ?_
      refine z_istore C [(4, .int (zI ((σ 11 v1.toNat) - (σ 11 (v1 - v3).toNat)))), (0, za x (10)), (1, .int (zI (v1))), (2, .int (zI (v2))), (3, .int (zI (v3)))] dX2_newQuarrels_24 (by rw [hN]; decide) rfl ?_
      refine z_iconst C dX2_newQuarrels_26 ?_
      refine z_istore C [(5, .int (zI (0))), (4, .int (zI ((σ 11 v1.toNat) - (σ 11 (v1 - v3).toNat)))), (0, za x (10)), (1, .int (zI (v1))), (2, .int (zI (v2))), (3, .int (zI (v3)))] dX2_newQuarrels_27 (by rw [hN]; decide) rfl ?_
      refine z_sub C [2, 3, 4, 5, 1, 0] [(0, za x (10)), (1, .int (zI (v1))), (2, .int (zI (v2))), (3, .int (zI (v3))), (4, .int (zI ((σ 11 v1.toNat) - (σ 11 (v1 - v3).toNat)))), (5, .int (zI (0)))] rfl ?_
      obtain ⟨n6, h⟩ := h
      exact sX2_newQuarrels_29 C hN E (by intro v1 v2 v3 σ h; exact ih v1 v2 v3  σ h) n6 v1 v2 v3 ((σ 11 v1.toNat) - (σ 11 (v1 - v3).toNat)) 0  σ h
def wX2_newQuarrels (v1 : Int) (σ : Hp) (k : Int → Hp → Prop) : Prop :=
  (∃ N1, wX2_newQuarrels_4 k N1 v1 0 1 σ)
set_option maxRecDepth 100000 in
theorem mX2_newQuarrels (v1 : Int) (σ : Hp) (k : Int → Hp → Prop) (h : wX2_newQuarrels v1 σ k) (l : Launch) : zMt l yX2_newQuarrels cX2_newQuarrels 6 (some .int) { frames := 0, cells := 0, slots := 0, locals := 0 } (fun w => [.ref (w.2.1 (10)), .int (zI (v1))]) σ (zPi k) := by
  refine zMt_of (plainFor_of_name (by decide)) (fun w => Nat.le_of_ble_eq_true rfl) (fun x hl hN C E => ?_)
  change zV x σ 0 [(0, za x (10)), (1, .int (zI (v1)))] []
  change zOk x cX2_newQuarrels RX2 (some .int) (0) (0) at C
  unfold wX2_newQuarrels at h
  refine z_iconst C dX2_newQuarrels_0 ?_
  refine z_istore_n C [(2, .int (zI (0))), (0, za x (10)), (1, .int (zI (v1)))] dX2_newQuarrels_1 rfl (by rw [hN]; decide) rfl ?_
  refine z_iconst C dX2_newQuarrels_2 ?_
  refine z_istore_n C [(3, .int (zI (1))), (2, .int (zI (0))), (0, za x (10)), (1, .int (zI (v1)))] dX2_newQuarrels_3 rfl (by rw [hN]; decide) rfl ?_
  refine z_sub C [2, 3, 1, 0] [(0, za x (10)), (1, .int (zI (v1))), (2, .int (zI (0))), (3, .int (zI (1)))] rfl ?_
  obtain ⟨n1, h⟩ := h
  exact sX2_newQuarrels_4 C hN E n1 v1 0 1  σ h
def wX2_countFrom_30 (rc : Int → Int → Int → Hp → (Int → Hp → Prop) → Prop) (k : Int → Hp → Prop) : Nat → Int → Int → Int → Int → Int → Hp → Prop
  | 0, _, _, _, _, _, _ => False
  | n + 1, v1, v2, v3, v4, v5, σ => zrg v5 ∧ zrg (σ 10 1) ∧ ((σ 10 1 ≤ v5 → k v4 σ) ∧ (¬ (σ 10 1 ≤ v5) → zrg (zand (zshr v2 v5) 1) ∧ ((zand (zshr v2 v5) 1 ≠ 0 → wX2_countFrom_30 rc k n v1 v2 v3 v4 (v5 + 1) σ) ∧ (¬ (zand (zshr v2 v5) 1 ≠ 0) → (0 ≤ v1 ∧ v1 < 6) ∧ wX2_newQuarrels v1 (zst σ 11 v1.toNat v5) (fun a8 σ7 => zrg (v3 - a8) ∧ ((v3 - a8 < 0 → wX2_countFrom_30 rc k n v1 v2 v3 v4 (v5 + 1) σ7) ∧ (¬ (v3 - a8 < 0) → rc (v1 + 1) (zor v2 (zshl 1 v5)) (v3 - a8) σ7 (fun a12 σ11 => wX2_countFrom_30 rc k n v1 v2 v3 (v4 + a12) (v5 + 1) σ11))))))))
set_option maxRecDepth 100000 in
theorem sX2_countFrom_30 {x : Cx} {d : Nat} (C : zOk x cX2_countFrom RX2 (some .int) (1 + (d + 1)) (25 + (d + 1) * 26)) (hN : x.2.2.2.2.1 = 7) {k : Int → Hp → Prop} (E : zEnd x (zPi k x.2.1)) {rc : Int → Int → Int → Hp → (Int → Hp → Prop) → Prop} (Hrc : ∀ (v1 : Int) (v2 : Int) (v3 : Int) (σ : Hp) (k : Int → Hp → Prop), rc v1 v2 v3 σ k → ∀ l, zMt l yX2_countFrom cX2_countFrom 7 (some .int) { frames := 1 + d, cells := 0, slots := 0, locals := 25 + d * 26 } (fun w => [.ref (w.2.1 (10)), .int (zI (v1)), .int (zI (v2)), .int (zI (v3))]) σ (zPi k)) : ∀ (n : Nat) (v1 : Int) (v2 : Int) (v3 : Int) (v4 : Int) (v5 : Int) (σ : Hp), wX2_countFrom_30 rc k n v1 v2 v3 v4 v5 σ → zV x σ 30 [(0, za x (10)), (1, .int (zI (v1))), (2, .int (zI (v2))), (3, .int (zI (v3))), (4, .int (zI (v4))), (5, .int (zI (v5)))] [] := by
  intro n
  induction n with
  | zero => intro _ _ _ _ _ _ h; exact h.elim
  | succ n ih =>
    intro v1 v2 v3 v4 v5 σ h
    unfold wX2_countFrom_30 at h
    refine z_iload C 5 dX2_countFrom_30 rfl ?_
    refine z_aload_n C 0 dX2_countFrom_32 rfl rfl ?_
    refine g_X2_1 C kf_X2_15 dX2_countFrom_33 ?_
    obtain ⟨o1, h⟩ := h
    obtain ⟨o2, h⟩ := h
    refine z_icmp_ge C 96 dX2_countFrom_36 (by decide) o1 o2 (fun c3 => ?_) (fun c3 => ?_)
    · have h := h.1 c3
      refine z_iload C 4 dX2_countFrom_96 rfl ?_
      exact z_iret C E dX2_countFrom_98 ⟨_, rfl, h⟩
    · have h := h.2 c3
      refine z_iload_n C 2 dX2_countFrom_39 rfl rfl ?_
      refine z_iload C 5 dX2_countFrom_40 rfl ?_
      refine z_ishr C dX2_countFrom_42 ?_
      refine z_iconst C dX2_countFrom_43 ?_
      refine z_iand C dX2_countFrom_44 ?_
      obtain ⟨o4, h⟩ := h
      refine z_if_ne C 90 dX2_countFrom_45 (by decide) o4 (fun c5 => ?_) (fun c5 => ?_)
      · have h := h.1 c5
        refine z_iinc C 5 [(5, .int (zI (v5 + 1))), (0, za x (10)), (1, .int (zI (v1))), (2, .int (zI (v2))), (3, .int (zI (v3))), (4, .int (zI (v4)))] dX2_countFrom_90 rfl (by rw [hN]; decide) rfl ?_
        refine z_goto C 30 dX2_countFrom_93 (by decide) ?_
        refine z_sub C [1, 2, 3, 4, 5, 0] [(0, za x (10)), (1, .int (zI (v1))), (2, .int (zI (v2))), (3, .int (zI (v3))), (4, .int (zI (v4))), (5, .int (zI (v5 + 1)))] rfl ?_
        exact ih v1 v2 v3 v4 (v5 + 1)  σ h
      · have h := h.2 c5
        refine z_aload_n C 0 dX2_countFrom_48 rfl rfl ?_
        refine g_X2_0 C kf_X2_9 dX2_countFrom_49 ?_
        refine z_iload_n C 1 dX2_countFrom_52 rfl rfl ?_
        refine z_iload C 5 dX2_countFrom_53 rfl ?_
        obtain ⟨o6, h⟩ := h
        refine z_iast C ia_11 dX2_countFrom_55 o6.1 o6.2 ?_
        refine z_iload_n C 3 dX2_countFrom_56 rfl rfl ?_
        refine z_aload_n C 0 dX2_countFrom_57 rfl rfl ?_
        refine z_iload_n C 1 dX2_countFrom_58 rfl rfl ?_
        refine z_callV (av := fun w => [.int (zI (v1))]) C [.int (zI (v3))] cs_X2_newQuarrels (by decide) (fun _ _ => rfl) rfl (mX2_newQuarrels v1  (zst σ 11 v1.toNat v5) _ h) km_X2_27 dX2_countFrom_59 rfl rfl ⟨rfl, rfl⟩ (by refine ⟨?_, ?_⟩ <;> dsimp only <;> omega) (Nat.le_of_ble_eq_true rfl) (fun rv σ7 hp => ?_)
        obtain ⟨a8, rfl, h⟩ := hp
        change zV x σ7 62 [(0, za x (10)), (1, .int (zI (v1))), (2, .int (zI (v2))), (3, .int (zI (v3))), (4, .int (zI (v4))), (5, .int (zI (v5)))] [.int (zI (a8)), .int (zI (v3))]
        refine z_isub C dX2_countFrom_62 ?_
        refine z_istore C [(6, .int (zI (v3 - a8))), (0, za x (10)), (1, .int (zI (v1))), (2, .int (zI (v2))), (3, .int (zI (v3))), (4, .int (zI (v4))), (5, .int (zI (v5)))] dX2_countFrom_63 (by rw [hN]; decide) rfl ?_
        refine z_iload C 0 dX2_countFrom_65 rfl ?_
        obtain ⟨o9, h⟩ := h
        refine z_if_lt C 90 dX2_countFrom_67 (by decide) o9 (fun c10 => ?_) (fun c10 => ?_)
        · have h := h.1 c10
          refine z_iinc C 6 [(5, .int (zI (v5 + 1))), (6, .int (zI (v3 - a8))), (0, za x (10)), (1, .int (zI (v1))), (2, .int (zI (v2))), (3, .int (zI (v3))), (4, .int (zI (v4)))] dX2_countFrom_90 rfl (by rw [hN]; decide) rfl ?_
          refine z_goto C 30 dX2_countFrom_93 (by decide) ?_
          refine z_sub C [2, 3, 4, 5, 6, 0] [(0, za x (10)), (1, .int (zI (v1))), (2, .int (zI (v2))), (3, .int (zI (v3))), (4, .int (zI (v4))), (5, .int (zI (v5 + 1)))] rfl ?_
          exact ih v1 v2 v3 v4 (v5 + 1)  σ7 h
        · have h := h.2 c10
          refine z_iload C 5 dX2_countFrom_70 rfl ?_
          refine z_aload_n C 1 dX2_countFrom_72 rfl rfl ?_
          refine z_iload_n C 2 dX2_countFrom_73 rfl rfl ?_
          refine z_iconst C dX2_countFrom_74 ?_
          refine z_iadd C dX2_countFrom_75 ?_
          refine z_iload_n C 3 dX2_countFrom_76 rfl rfl ?_
          refine z_iconst C dX2_countFrom_77 ?_
          refine z_iload C 6 dX2_countFrom_78 rfl ?_
          refine z_ishl C dX2_countFrom_80 ?_
          refine z_ior C dX2_countFrom_81 ?_
          refine z_iload C 0 dX2_countFrom_82 rfl ?_
          refine z_callV (av := fun w => [.int (zI (v1 + 1)), .int (zI (zor v2 (zshl 1 v5))), .int (zI (v3 - a8))]) C [.int (zI (v4))] cs_X2_countFrom (by decide) (fun _ _ => rfl) rfl (Hrc (v1 + 1) (zor v2 (zshl 1 v5)) (v3 - a8)  σ7 _ h) km_X2_23 dX2_countFrom_84 rfl rfl ⟨rfl, rfl⟩ (by refine ⟨?_, ?_⟩ <;> dsimp only <;> omega) (Nat.le_of_ble_eq_true rfl) (fun rv σ11 hp => ?_)
          obtain ⟨a12, rfl, h⟩ := hp
          change zV x σ11 87 [(6, .int (zI (v3 - a8))), (0, za x (10)), (1, .int (zI (v1))), (2, .int (zI (v2))), (3, .int (zI (v3))), (4, .int (zI (v4))), (5, .int (zI (v5)))] [.int (zI (a12)), .int (zI (v4))]
          refine z_iadd C dX2_countFrom_87 ?_
          refine z_istore C [(4, .int (zI (v4 + a12))), (6, .int (zI (v3 - a8))), (0, za x (10)), (1, .int (zI (v1))), (2, .int (zI (v2))), (3, .int (zI (v3))), (5, .int (zI (v5)))] dX2_countFrom_88 (by rw [hN]; decide) rfl ?_
          refine z_iinc C 6 [(5, .int (zI (v5 + 1))), (4, .int (zI (v4 + a12))), (6, .int (zI (v3 - a8))), (0, za x (10)), (1, .int (zI (v1))), (2, .int (zI (v2))), (3, .int (zI (v3)))] dX2_countFrom_90 rfl (by rw [hN]; decide) rfl ?_
          refine z_goto C 30 dX2_countFrom_93 (by decide) ?_
          refine z_sub C [3, 4, 5, 6, 1, 0] [(0, za x (10)), (1, .int (zI (v1))), (2, .int (zI (v2))), (3, .int (zI (v3))), (4, .int (zI (v4 + a12))), (5, .int (zI (v5 + 1)))] rfl ?_
          exact ih v1 v2 v3 (v4 + a12) (v5 + 1)  σ11 h
def wX2_countFrom_14 (rc : Int → Int → Int → Hp → (Int → Hp → Prop) → Prop) (k : Int → Hp → Prop) (v3 : Int) (σ : Hp) : Prop :=
  zrg v3 ∧ ((v3 ≠ 0 → k 0 σ) ∧ (¬ (v3 ≠ 0) → k 1 σ))
set_option maxRecDepth 100000 in
theorem sX2_countFrom_14 {x : Cx} {d : Nat} (C : zOk x cX2_countFrom RX2 (some .int) (1 + (d + 1)) (25 + (d + 1) * 26)) (hN : x.2.2.2.2.1 = 7) {k : Int → Hp → Prop} (E : zEnd x (zPi k x.2.1)) {rc : Int → Int → Int → Hp → (Int → Hp → Prop) → Prop} (Hrc : ∀ (v1 : Int) (v2 : Int) (v3 : Int) (σ : Hp) (k : Int → Hp → Prop), rc v1 v2 v3 σ k → ∀ l, zMt l yX2_countFrom cX2_countFrom 7 (some .int) { frames := 1 + d, cells := 0, slots := 0, locals := 25 + d * 26 } (fun w => [.ref (w.2.1 (10)), .int (zI (v1)), .int (zI (v2)), .int (zI (v3))]) σ (zPi k)) (v3 : Int) (σ : Hp) (h : wX2_countFrom_14 rc k v3 σ) : zV x σ 14 [(3, .int (zI (v3)))] [] := by
  unfold wX2_countFrom_14 at h
  refine z_iload_n C 0 dX2_countFrom_14 rfl rfl ?_
  obtain ⟨o1, h⟩ := h
  refine z_if_ne C 22 dX2_countFrom_15 (by decide) o1 (fun c2 => ?_) (fun c2 => ?_)
  · have h := h.1 c2
    refine z_iconst C dX2_countFrom_22 ?_
    exact z_iret C E dX2_countFrom_23 ⟨_, rfl, h⟩
  · have h := h.2 c2
    refine z_iconst C dX2_countFrom_18 ?_
    refine z_goto C 23 dX2_countFrom_19 (by decide) ?_
    exact z_iret C E dX2_countFrom_23 ⟨_, rfl, h⟩
def wX2_countFrom_0 (rc : Int → Int → Int → Hp → (Int → Hp → Prop) → Prop) (v1 : Int) (v2 : Int) (v3 : Int) (σ : Hp) (k : Int → Hp → Prop) : Prop :=
  zrg v1 ∧ zrg (σ 10 1) ∧ ((σ 10 1 ≤ v1 → wX2_countFrom_14 rc k v3 σ) ∧ (¬ (σ 10 1 ≤ v1) → ((v1 < 6 → (∃ N5, wX2_countFrom_30 rc k N5 v1 v2 v3 0 0 σ)) ∧ (¬ (v1 < 6) → wX2_countFrom_14 rc k v3 σ))))
def wX2_countFrom : Nat → Int → Int → Int → Hp → (Int → Hp → Prop) → Prop
  | 0, _, _, _, _, _ => False
  | d + 1, v1, v2, v3, σ, k => wX2_countFrom_0 (wX2_countFrom d) v1 v2 v3 σ k
set_option maxRecDepth 100000 in
theorem mX2_countFrom : ∀ (d : Nat) (v1 : Int) (v2 : Int) (v3 : Int) (σ : Hp) (k : Int → Hp → Prop) (_ : wX2_countFrom d v1 v2 v3 σ k) (l : Launch), zMt l yX2_countFrom cX2_countFrom 7 (some .int) { frames := 1 + d, cells := 0, slots := 0, locals := 25 + d * 26 } (fun w => [.ref (w.2.1 (10)), .int (zI (v1)), .int (zI (v2)), .int (zI (v3))]) σ (zPi k) := by
  intro d
  induction d with
  | zero => intro _ _ _ _ _ h; exact h.elim
  | succ d ih =>
    intro v1 v2 v3 σ k h l
    refine zMt_of (plainFor_of_name (by decide)) (fun w => Nat.le_of_ble_eq_true rfl) (fun x hl hN C E => ?_)
    change zV x σ 0 [(0, za x (10)), (1, .int (zI (v1))), (2, .int (zI (v2))), (3, .int (zI (v3)))] []
    change zOk x cX2_countFrom RX2 (some .int) (1 + (d + 1)) (25 + (d + 1) * 26) at C
    have Hrc := ih
    unfold wX2_countFrom wX2_countFrom_0 at h
    refine z_iload_n C 1 dX2_countFrom_0 rfl rfl ?_
    refine z_aload_n C 0 dX2_countFrom_1 rfl rfl ?_
    refine g_X2_1 C kf_X2_15 dX2_countFrom_2 ?_
    obtain ⟨o1, h⟩ := h
    obtain ⟨o2, h⟩ := h
    refine z_icmp_ge C 14 dX2_countFrom_5 (by decide) o1 o2 (fun c3 => ?_) (fun c3 => ?_)
    · have h := h.1 c3
      refine z_sub C [3] [(3, .int (zI (v3)))] rfl ?_
      exact sX2_countFrom_14 C hN E (rc := wX2_countFrom d) Hrc v3  σ h
    · have h := h.2 c3
      refine z_iload_n C 1 dX2_countFrom_8 rfl rfl ?_
      refine z_bipush C dX2_countFrom_9 rfl ?_
      refine z_icmp_lt C 24 dX2_countFrom_11 (by decide) o1 (zrg_d rfl) (fun c4 => ?_) (fun c4 => ?_)
      · have h := h.1 c4
        refine z_iconst C dX2_countFrom_24 ?_
        refine z_istore C [(4, .int (zI (0))), (0, za x (10)), (1, .int (zI (v1))), (2, .int (zI (v2))), (3, .int (zI (v3)))] dX2_countFrom_25 (by rw [hN]; decide) rfl ?_
        refine z_iconst C dX2_countFrom_27 ?_
        refine z_istore C [(5, .int (zI (0))), (4, .int (zI (0))), (0, za x (10)), (1, .int (zI (v1))), (2, .int (zI (v2))), (3, .int (zI (v3)))] dX2_countFrom_28 (by rw [hN]; decide) rfl ?_
        refine z_sub C [2, 3, 4, 5, 1, 0] [(0, za x (10)), (1, .int (zI (v1))), (2, .int (zI (v2))), (3, .int (zI (v3))), (4, .int (zI (0))), (5, .int (zI (0)))] rfl ?_
        obtain ⟨n5, h⟩ := h
        exact sX2_countFrom_30 C hN E (rc := wX2_countFrom d) Hrc n5 v1 v2 v3 0 0  σ h
      · have h := h.2 c4
        refine z_sub C [3] [(3, .int (zI (v3)))] rfl ?_
        exact sX2_countFrom_14 C hN E (rc := wX2_countFrom d) Hrc v3  σ h
def wdX2_countFrom (v1 : Int) (v2 : Int) (v3 : Int) (σ : Hp) (k : Int → Hp → Prop) : Prop := wX2_countFrom 8 v1 v2 v3 σ k
theorem mdX2_countFrom (v1 : Int) (v2 : Int) (v3 : Int) (σ : Hp) (k : Int → Hp → Prop) (h : wdX2_countFrom v1 v2 v3 σ k) (l : Launch) : zMt l yX2_countFrom cX2_countFrom 7 (some .int) { frames := 9, cells := 0, slots := 0, locals := 233 } (fun w => [.ref (w.2.1 (10)), .int (zI (v1)), .int (zI (v2)), .int (zI (v3))]) σ (zPi k) := mX2_countFrom 8 v1 v2 v3  σ k h l
def wX2_withQuarrels (v1 : Int) (v2 : Int) (σ : Hp) (k : Int → Hp → Prop) : Prop :=
  wX6_within v1 1 6 σ (fun a2 σ1 => zrg a2 ∧ ((a2 ≠ 0 → wdX2_countFrom 0 0 v2 (zst σ1 10 1 v1) (fun a6 σ5 => k a6 σ5)) ∧ (¬ (a2 ≠ 0) → k 0 σ1)))
set_option maxRecDepth 100000 in
theorem mX2_withQuarrels (v1 : Int) (v2 : Int) (σ : Hp) (k : Int → Hp → Prop) (h : wX2_withQuarrels v1 v2 σ k) (l : Launch) : zMt l yX2_withQuarrels cX2_withQuarrels 3 (some .int) { frames := 10, cells := 0, slots := 0, locals := 259 } (fun w => [.ref (w.2.1 (10)), .int (zI (v1)), .int (zI (v2))]) σ (zPi k) := by
  refine zMt_of (plainFor_of_name (by decide)) (fun w => Nat.le_of_ble_eq_true rfl) (fun x hl hN C E => ?_)
  change zV x σ 0 [(0, za x (10)), (1, .int (zI (v1))), (2, .int (zI (v2)))] []
  change zOk x cX2_withQuarrels RX2 (some .int) (10) (259) at C
  unfold wX2_withQuarrels at h
  refine z_iload_n C 1 dX2_withQuarrels_0 rfl rfl ?_
  refine z_iconst C dX2_withQuarrels_1 ?_
  refine z_bipush C dX2_withQuarrels_2 rfl ?_
  refine z_callN (av := fun w => [.int (zI (v1)), .int (zI (1)), .int (zI (6))]) C [] cs_X6_within (mX6_within v1 1 6  σ _ h) kn_X2_19 dX2_withQuarrels_4 rfl rfl ⟨rfl, rfl⟩ ⟨by decide, by decide⟩ (Nat.le_of_ble_eq_true rfl) (fun rv σ1 hp => ?_)
  obtain ⟨a2, rfl, h⟩ := hp
  change zV x σ1 7 [(0, za x (10)), (1, .int (zI (v1))), (2, .int (zI (v2)))] [.int (zI (a2))]
  obtain ⟨o3, h⟩ := h
  refine z_if_ne C 12 dX2_withQuarrels_7 (by decide) o3 (fun c4 => ?_) (fun c4 => ?_)
  · have h := h.1 c4
    refine z_aload_n C 0 dX2_withQuarrels_12 rfl rfl ?_
    refine z_iload_n C 1 dX2_withQuarrels_13 rfl rfl ?_
    refine p_X2_1 C kf_X2_15 dX2_withQuarrels_14 ?_
    refine z_aload_n C 0 dX2_withQuarrels_17 rfl rfl ?_
    refine z_iconst C dX2_withQuarrels_18 ?_
    refine z_iconst C dX2_withQuarrels_19 ?_
    refine z_iload_n C 2 dX2_withQuarrels_20 rfl rfl ?_
    refine z_callV (av := fun w => [.int (zI (0)), .int (zI (0)), .int (zI (v2))]) C [] cs_X2_countFrom (by decide) (fun _ _ => rfl) rfl (mdX2_countFrom 0 0 v2  (zst σ1 10 1 v1) _ h) km_X2_23 dX2_withQuarrels_21 rfl rfl ⟨rfl, rfl⟩ ⟨by decide, by decide⟩ (Nat.le_of_ble_eq_true rfl) (fun rv σ5 hp => ?_)
    obtain ⟨a6, rfl, h⟩ := hp
    change zV x σ5 24 [(0, za x (10)), (1, .int (zI (v1))), (2, .int (zI (v2)))] [.int (zI (a6))]
    exact z_iret C E dX2_withQuarrels_24 ⟨_, rfl, h⟩
  · have h := h.2 c4
    refine z_iconst C dX2_withQuarrels_10 ?_
    exact z_iret C E dX2_withQuarrels_11 ⟨_, rfl, h⟩
def wX3_put_39 (k : Hp → Prop) (t0 : Int) (t1 : Int) (s2 : Nat) (σ : Hp) : Prop :=
  (0 ≤ t1 ∧ t1 < 12) ∧ k (zst σ (36 + s2) t1.toNat t0)
set_option maxRecDepth 100000 in
theorem sX3_put_39 {x : Cx} (C : zOk x cX3_put RX3 (none) (1) (22)) (hN : x.2.2.2.2.1 = 3) {k : Hp → Prop} (E : zEnd x (zPv k x.2.1)) (t0 : Int) (t1 : Int) (s2 : Nat) (hs2 : s2 < 7) (σ : Hp) (h : wX3_put_39 k t0 t1 s2 σ) : zV x σ 39 [] [.int (zI (t0)), .int (zI (t1)), za x (36 + s2)] := by
  unfold wX3_put_39 at h
  obtain ⟨o1, h⟩ := h
  refine z_iast C (zIA_line hs2) dX3_put_39 o1.1 o1.2 ?_
  exact z_vret C E dX3_put_40 ⟨rfl, h⟩
def wX3_put (r0 : Nat) (v1 : Int) (v2 : Int) (σ : Hp) (k : Hp → Prop) : Prop :=
  wX6_within v1 0 ((σ (29 + r0) 0) - 1) σ (fun a2 σ1 => zrg a2 ∧ ((a2 = 0 → k σ1) ∧ (¬ (a2 = 0) → wX6_within v2 0 ((σ1 (29 + r0) 1) - 1) σ1 (fun a6 σ5 => zrg a6 ∧ ((a6 = 0 → wX3_put_39 k 15 v1 r0 σ5) ∧ (¬ (a6 = 0) → wX3_put_39 k v2 v1 r0 σ5))))))
set_option maxRecDepth 100000 in
theorem mX3_put (r0 : Nat) (v1 : Int) (v2 : Int) (hr0 : r0 < 7) (σ : Hp) (k : Hp → Prop) (h : wX3_put r0 v1 v2 σ k) (l : Launch) : zMt l yX3_put cX3_put 3 (none) { frames := 1, cells := 0, slots := 0, locals := 22 } (fun w => [.ref (w.2.1 (29 + r0)), .int (zI (v1)), .int (zI (v2))]) σ (zPv k) := by
  refine zMt_of (plainFor_of_name (by decide)) (fun w => Nat.le_of_ble_eq_true rfl) (fun x hl hN C E => ?_)
  change zV x σ 0 [(0, za x (29 + r0)), (1, .int (zI (v1))), (2, .int (zI (v2)))] []
  change zOk x cX3_put RX3 (none) (1) (22) at C
  unfold wX3_put at h
  refine z_iload_n C 1 dX3_put_0 rfl rfl ?_
  refine z_iconst C dX3_put_1 ?_
  refine z_aload_n C 0 dX3_put_2 rfl rfl ?_
  refine g_X3_0 C hr0 kf_X3_9 dX3_put_3 ?_
  refine z_iconst C dX3_put_6 ?_
  refine z_isub C dX3_put_7 ?_
  refine z_callN (av := fun w => [.int (zI (v1)), .int (zI (0)), .int (zI ((σ (29 + r0) 0) - 1))]) C [] cs_X6_within (mX6_within v1 0 ((σ (29 + r0) 0) - 1)  σ _ h) kn_X3_22 dX3_put_8 rfl rfl ⟨rfl, rfl⟩ ⟨by decide, by decide⟩ (Nat.le_of_ble_eq_true rfl) (fun rv σ1 hp => ?_)
  obtain ⟨a2, rfl, h⟩ := hp
  change zV x σ1 11 [(0, za x (29 + r0)), (1, .int (zI (v1))), (2, .int (zI (v2)))] [.int (zI (a2))]
  obtain ⟨o3, h⟩ := h
  refine z_if_eq C 40 dX3_put_11 (by decide) o3 (fun c4 => ?_) (fun c4 => ?_)
  · have h := h.1 c4
    exact z_vret C E dX3_put_40 ⟨rfl, h⟩
  · have h := h.2 c4
    refine z_aload_n C 0 dX3_put_14 rfl rfl ?_
    refine g_X3_2 C hr0 kf_X3_18 dX3_put_15 ?_
    refine z_iload_n C 1 dX3_put_18 rfl rfl ?_
    refine z_iload_n C 2 dX3_put_19 rfl rfl ?_
    refine z_iconst C dX3_put_20 ?_
    refine z_aload_n C 0 dX3_put_21 rfl rfl ?_
    refine g_X3_1 C hr0 kf_X3_15 dX3_put_22 ?_
    refine z_iconst C dX3_put_25 ?_
    refine z_isub C dX3_put_26 ?_
    refine z_callN (av := fun w => [.int (zI (v2)), .int (zI (0)), .int (zI ((σ1 (29 + r0) 1) - 1))]) C [.int (zI (v1)), za x (36 + r0)] cs_X6_within (mX6_within v2 0 ((σ1 (29 + r0) 1) - 1)  σ1 _ h) kn_X3_22 dX3_put_27 rfl rfl ⟨rfl, rfl⟩ ⟨by decide, by decide⟩ (Nat.le_of_ble_eq_true rfl) (fun rv σ5 hp => ?_)
    obtain ⟨a6, rfl, h⟩ := hp
    change zV x σ5 30 [(0, za x (29 + r0)), (1, .int (zI (v1))), (2, .int (zI (v2)))] [.int (zI (a6)), .int (zI (v1)), za x (36 + r0)]
    obtain ⟨o7, h⟩ := h
    refine z_if_eq C 37 dX3_put_30 (by decide) o7 (fun c8 => ?_) (fun c8 => ?_)
    · have h := h.1 c8
      refine z_bipush C dX3_put_37 rfl ?_
      refine z_sub C [] [] rfl ?_
      exact sX3_put_39 C hN E 15 v1 r0 hr0 σ5 h
    · have h := h.2 c8
      refine z_iload_n C 2 dX3_put_33 rfl rfl ?_
      refine z_goto C 39 dX3_put_34 (by decide) ?_
      refine z_sub C [] [] rfl ?_
      exact sX3_put_39 C hN E v2 v1 r0 hr0 σ5 h
def wX3_shape (r0 : Nat) (v1 : Int) (v2 : Int) (σ : Hp) (k : Hp → Prop) : Prop :=
  wX6_within v1 1 12 σ (fun a2 σ1 => zrg a2 ∧ ((a2 = 0 → k σ1) ∧ (¬ (a2 = 0) → wX6_within v2 1 12 σ1 (fun a6 σ5 => zrg a6 ∧ ((a6 ≠ 0 → wJ7_fill_53178 (36 + r0) 12 15 (zst (zst σ5 (29 + r0) 0 v1) (29 + r0) 1 v2) (fun σ9 => k σ9)) ∧ (¬ (a6 ≠ 0) → k σ5))))))
set_option maxRecDepth 100000 in
theorem mX3_shape (r0 : Nat) (v1 : Int) (v2 : Int) (hr0 : r0 < 7) (σ : Hp) (k : Hp → Prop) (h : wX3_shape r0 v1 v2 σ k) (l : Launch) : zMt l yX3_shape cX3_shape 3 (none) { frames := 1, cells := 0, slots := 0, locals := 23 } (fun w => [.ref (w.2.1 (29 + r0)), .int (zI (v1)), .int (zI (v2))]) σ (zPv k) := by
  refine zMt_of (plainFor_of_name (by decide)) (fun w => Nat.le_of_ble_eq_true rfl) (fun x hl hN C E => ?_)
  change zV x σ 0 [(0, za x (29 + r0)), (1, .int (zI (v1))), (2, .int (zI (v2)))] []
  change zOk x cX3_shape RX3 (none) (1) (23) at C
  unfold wX3_shape at h
  refine z_iload_n C 1 dX3_shape_0 rfl rfl ?_
  refine z_iconst C dX3_shape_1 ?_
  refine z_bipush C dX3_shape_2 rfl ?_
  refine z_callN (av := fun w => [.int (zI (v1)), .int (zI (1)), .int (zI (12))]) C [] cs_X6_within (mX6_within v1 1 12  σ _ h) kn_X3_22 dX3_shape_4 rfl rfl ⟨rfl, rfl⟩ ⟨by decide, by decide⟩ (Nat.le_of_ble_eq_true rfl) (fun rv σ1 hp => ?_)
  obtain ⟨a2, rfl, h⟩ := hp
  change zV x σ1 7 [(0, za x (29 + r0)), (1, .int (zI (v1))), (2, .int (zI (v2)))] [.int (zI (a2))]
  obtain ⟨o3, h⟩ := h
  refine z_if_eq C 20 dX3_shape_7 (by decide) o3 (fun c4 => ?_) (fun c4 => ?_)
  · have h := h.1 c4
    exact z_vret C E dX3_shape_20 ⟨rfl, h⟩
  · have h := h.2 c4
    refine z_iload_n C 2 dX3_shape_10 rfl rfl ?_
    refine z_iconst C dX3_shape_11 ?_
    refine z_bipush C dX3_shape_12 rfl ?_
    refine z_callN (av := fun w => [.int (zI (v2)), .int (zI (1)), .int (zI (12))]) C [] cs_X6_within (mX6_within v2 1 12  σ1 _ h) kn_X3_22 dX3_shape_14 rfl rfl ⟨rfl, rfl⟩ ⟨by decide, by decide⟩ (Nat.le_of_ble_eq_true rfl) (fun rv σ5 hp => ?_)
    obtain ⟨a6, rfl, h⟩ := hp
    change zV x σ5 17 [(0, za x (29 + r0)), (1, .int (zI (v1))), (2, .int (zI (v2)))] [.int (zI (a6))]
    obtain ⟨o7, h⟩ := h
    refine z_if_ne C 21 dX3_shape_17 (by decide) o7 (fun c8 => ?_) (fun c8 => ?_)
    · have h := h.1 c8
      refine z_aload_n C 0 dX3_shape_21 rfl rfl ?_
      refine z_iload_n C 1 dX3_shape_22 rfl rfl ?_
      refine p_X3_0 C hr0 kf_X3_9 dX3_shape_23 ?_
      refine z_aload_n C 0 dX3_shape_26 rfl rfl ?_
      refine z_iload_n C 2 dX3_shape_27 rfl rfl ?_
      refine p_X3_1 C hr0 kf_X3_15 dX3_shape_28 ?_
      refine z_aload_n C 0 dX3_shape_31 rfl rfl ?_
      refine g_X3_2 C hr0 kf_X3_18 dX3_shape_32 ?_
      refine z_bipush C dX3_shape_35 rfl ?_
      refine z_callS (av := fun w => [.ref (w.2.1 (36 + r0)), .int (zI (15))]) C [] cs_J7_fill_53178 (mJ7_fill_53178 (36 + r0) 12 15 (zIA_line hr0) (zst (zst σ5 (29 + r0) 0 v1) (29 + r0) 1 v2) _ h) km_X3_26 dX3_shape_37 rfl rfl ⟨rfl, rfl⟩ ⟨by decide, by decide⟩ (Nat.le_of_ble_eq_true rfl) (fun rv σ9 hp => ?_)
      obtain ⟨rfl, h⟩ := hp
      change zV x σ9 40 [(0, za x (29 + r0)), (1, .int (zI (v1))), (2, .int (zI (v2)))] []
      exact z_vret C E dX3_shape_40 ⟨rfl, h⟩
    · have h := h.2 c8
      exact z_vret C E dX3_shape_20 ⟨rfl, h⟩
def wX3_copyFrom_14 (k : Hp → Prop) : Nat → Nat → Nat → Int → Hp → Prop
  | 0, _, _, _, _ => False
  | n + 1, r0, r1, v2, σ => zrg v2 ∧ zrg (σ (29 + r0) 0) ∧ ((σ (29 + r0) 0 ≤ v2 → k σ) ∧ (¬ (σ (29 + r0) 0 ≤ v2) → wX3_lineAt r1 v2 σ (fun a5 σ4 => wX3_put r0 v2 a5 σ4 (fun σ6 => wX3_copyFrom_14 k n r0 r1 (v2 + 1) σ6))))
set_option maxRecDepth 100000 in
theorem sX3_copyFrom_14 {x : Cx} (C : zOk x cX3_copyFrom RX3 (none) (2) (45)) (hN : x.2.2.2.2.1 = 3) {k : Hp → Prop} (E : zEnd x (zPv k x.2.1)) : ∀ (n : Nat) (r0 : Nat) (r1 : Nat) (v2 : Int) (hr0 : r0 < 7) (hr1 : r1 < 7) (σ : Hp), wX3_copyFrom_14 k n r0 r1 v2 σ → zV x σ 14 [(0, za x (29 + r0)), (1, za x (29 + r1)), (2, .int (zI (v2)))] [] := by
  intro n
  induction n with
  | zero => intro _ _ _ _ _ _ h; exact h.elim
  | succ n ih =>
    intro r0 r1 v2 hr0 hr1 σ h
    unfold wX3_copyFrom_14 at h
    refine z_iload_n C 2 dX3_copyFrom_14 rfl rfl ?_
    refine z_aload_n C 0 dX3_copyFrom_15 rfl rfl ?_
    refine g_X3_0 C hr0 kf_X3_9 dX3_copyFrom_16 ?_
    obtain ⟨o1, h⟩ := h
    obtain ⟨o2, h⟩ := h
    refine z_icmp_ge C 38 dX3_copyFrom_19 (by decide) o1 o2 (fun c3 => ?_) (fun c3 => ?_)
    · have h := h.1 c3
      exact z_vret C E dX3_copyFrom_38 ⟨rfl, h⟩
    · have h := h.2 c3
      refine z_aload_n C 0 dX3_copyFrom_22 rfl rfl ?_
      refine z_iload_n C 2 dX3_copyFrom_23 rfl rfl ?_
      refine z_aload_n C 1 dX3_copyFrom_24 rfl rfl ?_
      refine z_iload_n C 2 dX3_copyFrom_25 rfl rfl ?_
      refine z_callV (av := fun w => [.int (zI (v2))]) C [.int (zI (v2)), za x (29 + r0)] cs_X3_lineAt (by have := hr1; omega) (zcell_row hr1) rfl (mX3_lineAt r1 v2 hr1 σ _ h) km_X3_32 dX3_copyFrom_26 rfl rfl ⟨rfl, rfl⟩ ⟨by decide, by decide⟩ (Nat.le_of_ble_eq_true rfl) (fun rv σ4 hp => ?_)
      obtain ⟨a5, rfl, h⟩ := hp
      change zV x σ4 29 [(0, za x (29 + r0)), (1, za x (29 + r1)), (2, .int (zI (v2)))] [.int (zI (a5)), .int (zI (v2)), za x (29 + r0)]
      refine z_callV (av := fun w => [.int (zI (v2)), .int (zI (a5))]) C [] cs_X3_put (by have := hr0; omega) (zcell_row hr0) rfl (mX3_put r0 v2 a5 hr0 σ4 _ h) km_X3_48 dX3_copyFrom_29 rfl rfl ⟨rfl, rfl⟩ ⟨by decide, by decide⟩ (Nat.le_of_ble_eq_true rfl) (fun rv σ6 hp => ?_)
      obtain ⟨rfl, h⟩ := hp
      change zV x σ6 32 [(0, za x (29 + r0)), (1, za x (29 + r1)), (2, .int (zI (v2)))] []
      refine z_iinc C 2 [(2, .int (zI (v2 + 1))), (0, za x (29 + r0)), (1, za x (29 + r1))] dX3_copyFrom_32 rfl (by rw [hN]; decide) rfl ?_
      refine z_goto C 14 dX3_copyFrom_35 (by decide) ?_
      refine z_sub C [1, 2, 0] [(0, za x (29 + r0)), (1, za x (29 + r1)), (2, .int (zI (v2 + 1)))] rfl ?_
      exact ih r0 r1 (v2 + 1) hr0 hr1 σ6 h
def wX3_copyFrom (r0 : Nat) (r1 : Nat) (σ : Hp) (k : Hp → Prop) : Prop :=
  wX3_shape r0 (σ (29 + r1) 0) (σ (29 + r1) 1) σ (fun σ1 => (∃ N2, wX3_copyFrom_14 k N2 r0 r1 0 σ1))
set_option maxRecDepth 100000 in
theorem mX3_copyFrom (r0 : Nat) (r1 : Nat) (hr0 : r0 < 7) (hr1 : r1 < 7) (σ : Hp) (k : Hp → Prop) (h : wX3_copyFrom r0 r1 σ k) (l : Launch) : zMt l yX3_copyFrom cX3_copyFrom 3 (none) { frames := 2, cells := 0, slots := 0, locals := 45 } (fun w => [.ref (w.2.1 (29 + r0)), .ref (w.2.1 (29 + r1))]) σ (zPv k) := by
  refine zMt_of (plainFor_of_name (by decide)) (fun w => Nat.le_of_ble_eq_true rfl) (fun x hl hN C E => ?_)
  change zV x σ 0 [(0, za x (29 + r0)), (1, za x (29 + r1))] []
  change zOk x cX3_copyFrom RX3 (none) (2) (45) at C
  unfold wX3_copyFrom at h
  refine z_aload_n C 0 dX3_copyFrom_0 rfl rfl ?_
  refine z_aload_n C 1 dX3_copyFrom_1 rfl rfl ?_
  refine g_X3_0 C hr1 kf_X3_9 dX3_copyFrom_2 ?_
  refine z_aload_n C 1 dX3_copyFrom_5 rfl rfl ?_
  refine g_X3_1 C hr1 kf_X3_15 dX3_copyFrom_6 ?_
  refine z_callV (av := fun w => [.int (zI (σ (29 + r1) 0)), .int (zI (σ (29 + r1) 1))]) C [] cs_X3_shape (by have := hr0; omega) (zcell_row hr0) rfl (mX3_shape r0 (σ (29 + r1) 0) (σ (29 + r1) 1) hr0 σ _ h) km_X3_44 dX3_copyFrom_9 rfl rfl ⟨rfl, rfl⟩ ⟨by decide, by decide⟩ (Nat.le_of_ble_eq_true rfl) (fun rv σ1 hp => ?_)
  obtain ⟨rfl, h⟩ := hp
  change zV x σ1 12 [(0, za x (29 + r0)), (1, za x (29 + r1))] []
  refine z_iconst C dX3_copyFrom_12 ?_
  refine z_istore_n C [(2, .int (zI (0))), (0, za x (29 + r0)), (1, za x (29 + r1))] dX3_copyFrom_13 rfl (by rw [hN]; decide) rfl ?_
  refine z_sub C [1, 2, 0] [(0, za x (29 + r0)), (1, za x (29 + r1)), (2, .int (zI (0)))] rfl ?_
  obtain ⟨n2, h⟩ := h
  exact sX3_copyFrom_14 C hN E n2 r0 r1 0 hr0 hr1 σ1 h
