def wX7_turns_97 (k : Hp → Prop) (K53 : Int → Int → Int → Hp → Prop) : Nat → Int → Int → Int → Int → Hp → Prop
  | 0, _, _, _, _, _ => False
  | n + 1, v2, v3, v4, v5, σ => zrg v5 ∧ zrg v3 ∧ ((v3 ≤ v5 → K53 v2 v3 (v4 + 1) σ) ∧ (¬ (v3 ≤ v5) → (0 ≤ v5 ∧ v5 < 12) ∧ wX7_turns_97 k K53 n v2 v3 v4 (v5 + 1) (zst σ 27 v5.toNat (σ 28 v5.toNat))))
set_option maxRecDepth 100000 in
theorem sX7_turns_97 {x : Cx} (C : zOk x cX7_turns RX7 (none) (2) (47)) (hN : x.2.2.2.2.1 = 6) {k : Hp → Prop} (E : zEnd x (zPv k x.2.1)) {K53 : Int → Int → Int → Hp → Prop} (H53 : ∀ (v2 : Int) (v3 : Int) (v4 : Int) (σ : Hp), K53 v2 v3 v4 σ → zV x σ 53 [(0, za x (17)), (2, .int (zI (v2))), (3, .int (zI (v3))), (4, .int (zI (v4)))] []) : ∀ (n : Nat) (v2 : Int) (v3 : Int) (v4 : Int) (v5 : Int) (σ : Hp), wX7_turns_97 k K53 n v2 v3 v4 v5 σ → zV x σ 97 [(0, za x (17)), (2, .int (zI (v2))), (3, .int (zI (v3))), (4, .int (zI (v4))), (5, .int (zI (v5)))] [] := by
  intro n
  induction n with
  | zero => intro _ _ _ _ _ h; exact h.elim
  | succ n ih =>
    intro v2 v3 v4 v5 σ h
    unfold wX7_turns_97 at h
    refine z_iload C 4 dX7_turns_97 rfl ?_
    refine z_iload_n C 2 dX7_turns_99 rfl rfl ?_
    obtain ⟨o1, h⟩ := h
    obtain ⟨o2, h⟩ := h
    refine z_icmp_ge C 123 dX7_turns_100 (by decide) o1 o2 (fun c3 => ?_) (fun c3 => ?_)
    · have h := h.1 c3
      refine z_iinc C 3 [(4, .int (zI (v4 + 1))), (0, za x (17)), (2, .int (zI (v2))), (3, .int (zI (v3))), (5, .int (zI (v5)))] dX7_turns_123 rfl (by rw [hN]; decide) rfl ?_
      refine z_goto C 53 dX7_turns_126 (by decide) ?_
      refine z_sub C [1, 2, 3, 0] [(0, za x (17)), (2, .int (zI (v2))), (3, .int (zI (v3))), (4, .int (zI (v4 + 1)))] rfl ?_
      exact H53 v2 v3 (v4 + 1)  σ h
    · have h := h.2 c3
      refine z_aload_n C 0 dX7_turns_103 rfl rfl ?_
      refine g_X7_13 C kf_X7_38 dX7_turns_104 ?_
      refine z_iload C 4 dX7_turns_107 rfl ?_
      refine z_aload_n C 0 dX7_turns_109 rfl rfl ?_
      refine g_X7_14 C kf_X7_41 dX7_turns_110 ?_
      refine z_iload C 4 dX7_turns_113 rfl ?_
      obtain ⟨o4, h⟩ := h
      refine z_iald C ia_28 dX7_turns_115 o4.1 o4.2 ?_
      refine z_iast C ia_27 dX7_turns_116 o4.1 o4.2 ?_
      refine z_iinc C 4 [(5, .int (zI (v5 + 1))), (0, za x (17)), (2, .int (zI (v2))), (3, .int (zI (v3))), (4, .int (zI (v4)))] dX7_turns_117 rfl (by rw [hN]; decide) rfl ?_
      refine z_goto C 97 dX7_turns_120 (by decide) ?_
      refine z_sub C [1, 2, 3, 4, 0] [(0, za x (17)), (2, .int (zI (v2))), (3, .int (zI (v3))), (4, .int (zI (v4))), (5, .int (zI (v5 + 1)))] rfl ?_
      exact ih v2 v3 v4 (v5 + 1)  (zst σ 27 v5.toNat (σ 28 v5.toNat)) h
def wX7_turns_64 (k : Hp → Prop) (K53 : Int → Int → Int → Hp → Prop) : Nat → Int → Int → Int → Int → Hp → Prop
  | 0, _, _, _, _, _ => False
  | n + 1, v2, v3, v4, v5, σ => zrg v5 ∧ zrg v3 ∧ ((v3 ≤ v5 → (∃ N4, wX7_turns_97 k K53 N4 v2 v3 v4 0 σ)) ∧ (¬ (v3 ≤ v5) → (0 ≤ v5 ∧ v5 < 12) ∧ (0 ≤ σ 27 v5.toNat ∧ σ 27 v5.toNat < 12) ∧ wX7_turns_64 k K53 n v2 v3 v4 (v5 + 1) (zst σ 28 (σ 27 v5.toNat).toNat ((v3 - 1) - v5))))
set_option maxRecDepth 100000 in
theorem sX7_turns_64 {x : Cx} (C : zOk x cX7_turns RX7 (none) (2) (47)) (hN : x.2.2.2.2.1 = 6) {k : Hp → Prop} (E : zEnd x (zPv k x.2.1)) {K53 : Int → Int → Int → Hp → Prop} (H53 : ∀ (v2 : Int) (v3 : Int) (v4 : Int) (σ : Hp), K53 v2 v3 v4 σ → zV x σ 53 [(0, za x (17)), (2, .int (zI (v2))), (3, .int (zI (v3))), (4, .int (zI (v4)))] []) : ∀ (n : Nat) (v2 : Int) (v3 : Int) (v4 : Int) (v5 : Int) (σ : Hp), wX7_turns_64 k K53 n v2 v3 v4 v5 σ → zV x σ 64 [(0, za x (17)), (2, .int (zI (v2))), (3, .int (zI (v3))), (4, .int (zI (v4))), (5, .int (zI (v5)))] [] := by
  intro n
  induction n with
  | zero => intro _ _ _ _ _ h; exact h.elim
  | succ n ih =>
    intro v2 v3 v4 v5 σ h
    unfold wX7_turns_64 at h
    refine z_iload C 4 dX7_turns_64 rfl ?_
    refine z_iload_n C 2 dX7_turns_66 rfl rfl ?_
    obtain ⟨o1, h⟩ := h
    obtain ⟨o2, h⟩ := h
    refine z_icmp_ge C 94 dX7_turns_67 (by decide) o1 o2 (fun c3 => ?_) (fun c3 => ?_)
    · have h := h.1 c3
      refine z_iconst C dX7_turns_94 ?_
      refine z_istore C [(5, .int (zI (0))), (0, za x (17)), (2, .int (zI (v2))), (3, .int (zI (v3))), (4, .int (zI (v4)))] dX7_turns_95 (by rw [hN]; decide) rfl ?_
      refine z_sub C [1, 2, 3, 4, 0] [(0, za x (17)), (2, .int (zI (v2))), (3, .int (zI (v3))), (4, .int (zI (v4))), (5, .int (zI (0)))] rfl ?_
      obtain ⟨n4, h⟩ := h
      exact sX7_turns_97 C hN E H53 n4 v2 v3 v4 0  σ h
    · have h := h.2 c3
      refine z_aload_n C 0 dX7_turns_70 rfl rfl ?_
      refine g_X7_14 C kf_X7_41 dX7_turns_71 ?_
      refine z_aload_n C 0 dX7_turns_74 rfl rfl ?_
      refine g_X7_13 C kf_X7_38 dX7_turns_75 ?_
      refine z_iload C 4 dX7_turns_78 rfl ?_
      obtain ⟨o5, h⟩ := h
      refine z_iald C ia_27 dX7_turns_80 o5.1 o5.2 ?_
      refine z_iload_n C 2 dX7_turns_81 rfl rfl ?_
      refine z_iconst C dX7_turns_82 ?_
      refine z_isub C dX7_turns_83 ?_
      refine z_iload C 4 dX7_turns_84 rfl ?_
      refine z_isub C dX7_turns_86 ?_
      obtain ⟨o6, h⟩ := h
      refine z_iast C ia_28 dX7_turns_87 o6.1 o6.2 ?_
      refine z_iinc C 4 [(5, .int (zI (v5 + 1))), (0, za x (17)), (2, .int (zI (v2))), (3, .int (zI (v3))), (4, .int (zI (v4)))] dX7_turns_88 rfl (by rw [hN]; decide) rfl ?_
      refine z_goto C 64 dX7_turns_91 (by decide) ?_
      refine z_sub C [1, 2, 3, 4, 0] [(0, za x (17)), (2, .int (zI (v2))), (3, .int (zI (v3))), (4, .int (zI (v4))), (5, .int (zI (v5 + 1)))] rfl ?_
      exact ih v2 v3 v4 (v5 + 1)  (zst σ 28 (σ 27 v5.toNat).toNat ((v3 - 1) - v5)) h
def wX7_turns_40 (k : Hp → Prop) (K10 : Int → Int → Int → Int → Hp → Prop) (v1 : Int) (v2 : Int) (v3 : Int) (v4 : Int) (t0 : Int) (t1 : Int) (t3 : Int) (σ : Hp) : Prop :=
  wX7_at t1 t0 σ (fun a2 σ1 => (0 ≤ t3 ∧ t3 < 12) ∧ K10 v1 v2 v3 (v4 + 1) (zst σ1 27 t3.toNat a2))
set_option maxRecDepth 100000 in
theorem sX7_turns_40 {x : Cx} (C : zOk x cX7_turns RX7 (none) (2) (47)) (hN : x.2.2.2.2.1 = 6) {k : Hp → Prop} (E : zEnd x (zPv k x.2.1)) {K10 : Int → Int → Int → Int → Hp → Prop} (H10 : ∀ (v1 : Int) (v2 : Int) (v3 : Int) (v4 : Int) (σ : Hp), K10 v1 v2 v3 v4 σ → zV x σ 10 [(0, za x (17)), (1, .int (zI (v1))), (2, .int (zI (v2))), (3, .int (zI (v3))), (4, .int (zI (v4)))] []) (v1 : Int) (v2 : Int) (v3 : Int) (v4 : Int) (t0 : Int) (t1 : Int) (t3 : Int) (σ : Hp) (h : wX7_turns_40 k K10 v1 v2 v3 v4 t0 t1 t3 σ) : zV x σ 40 [(0, za x (17)), (1, .int (zI (v1))), (2, .int (zI (v2))), (3, .int (zI (v3))), (4, .int (zI (v4)))] [.int (zI (t0)), .int (zI (t1)), za x (17), .int (zI (t3)), za x (27)] := by
  unfold wX7_turns_40 at h
  refine z_callV (av := fun w => [.int (zI (t1)), .int (zI (t0))]) C [.int (zI (t3)), za x (27)] cs_X7_at (by decide) (fun _ _ => rfl) rfl (mX7_at t1 t0  σ _ h) km_X7_79 dX7_turns_40 rfl rfl ⟨rfl, rfl⟩ ⟨by decide, by decide⟩ (Nat.le_of_ble_eq_true rfl) (fun rv σ1 hp => ?_)
  obtain ⟨a2, rfl, h⟩ := hp
  change zV x σ1 43 [(0, za x (17)), (1, .int (zI (v1))), (2, .int (zI (v2))), (3, .int (zI (v3))), (4, .int (zI (v4)))] [.int (zI (a2)), .int (zI (t3)), za x (27)]
  obtain ⟨o3, h⟩ := h
  refine z_iast C ia_27 dX7_turns_43 o3.1 o3.2 ?_
  refine z_iinc C 4 [(4, .int (zI (v4 + 1))), (0, za x (17)), (1, .int (zI (v1))), (2, .int (zI (v2))), (3, .int (zI (v3)))] dX7_turns_44 rfl (by rw [hN]; decide) rfl ?_
  refine z_goto C 10 dX7_turns_47 (by decide) ?_
  refine z_sub C [1, 2, 3, 4, 0] [(0, za x (17)), (1, .int (zI (v1))), (2, .int (zI (v2))), (3, .int (zI (v3))), (4, .int (zI (v4 + 1)))] rfl ?_
  exact H10 v1 v2 v3 (v4 + 1)  (zst σ1 27 t3.toNat a2) h
def wX7_turns_53 (k : Hp → Prop) : Nat → Int → Int → Int → Hp → Prop
  | 0, _, _, _, _ => False
  | n + 1, v2, v3, v4, σ => zrg v2 ∧ zrg v4 ∧ zrg (Int.tmod v2 4) ∧ ((Int.tmod v2 4 ≤ v4 → k σ) ∧ (¬ (Int.tmod v2 4 ≤ v4) → (∃ N5, wX7_turns_64 k (fun v2 v3 v4 σ => wX7_turns_53 k n v2 v3 v4 σ) N5 v2 v3 v4 0 σ)))
set_option maxRecDepth 100000 in
theorem sX7_turns_53 {x : Cx} (C : zOk x cX7_turns RX7 (none) (2) (47)) (hN : x.2.2.2.2.1 = 6) {k : Hp → Prop} (E : zEnd x (zPv k x.2.1)) : ∀ (n : Nat) (v2 : Int) (v3 : Int) (v4 : Int) (σ : Hp), wX7_turns_53 k n v2 v3 v4 σ → zV x σ 53 [(0, za x (17)), (2, .int (zI (v2))), (3, .int (zI (v3))), (4, .int (zI (v4)))] [] := by
  intro n
  induction n with
  | zero => intro _ _ _ _ h; exact h.elim
  | succ n ih =>
    intro v2 v3 v4 σ h
    unfold wX7_turns_53 at h
    refine z_iload C 3 dX7_turns_53 rfl ?_
    refine z_iload_n C 1 dX7_turns_55 rfl rfl ?_
    refine z_iconst C dX7_turns_56 ?_
    obtain ⟨o1, h⟩ := h
    refine z_irem C dX7_turns_57 o1 (zrg_d rfl) (by decide) ?_
    obtain ⟨o2, h⟩ := h
    obtain ⟨o3, h⟩ := h
    refine z_icmp_ge C 129 dX7_turns_58 (by decide) o2 o3 (fun c4 => ?_) (fun c4 => ?_)
    · have h := h.1 c4
      exact z_vret C E dX7_turns_129 ⟨rfl, h⟩
    · have h := h.2 c4
      refine z_iconst C dX7_turns_61 ?_
      refine z_istore C [(5, .int (zI (0))), (0, za x (17)), (2, .int (zI (v2))), (3, .int (zI (v3))), (4, .int (zI (v4)))] dX7_turns_62 (by rw [hN]; decide) rfl ?_
      refine z_sub C [1, 2, 3, 4, 0] [(0, za x (17)), (2, .int (zI (v2))), (3, .int (zI (v3))), (4, .int (zI (v4))), (5, .int (zI (0)))] rfl ?_
      obtain ⟨n5, h⟩ := h
      exact sX7_turns_64 C hN E (by intro v2 v3 v4 σ h; exact ih v2 v3 v4  σ h) n5 v2 v3 v4 0  σ h
def wX7_turns_10 (k : Hp → Prop) : Nat → Int → Int → Int → Int → Hp → Prop
  | 0, _, _, _, _, _ => False
  | n + 1, v1, v2, v3, v4, σ => zrg v4 ∧ zrg v3 ∧ ((v3 ≤ v4 → (∃ N4, wX7_turns_53 k N4 v2 v3 0 σ)) ∧ (¬ (v3 ≤ v4) → zrg v2 ∧ ((v2 ≤ 3 → wX7_turns_40 k (fun v1 v2 v3 v4 σ => wX7_turns_10 k n v1 v2 v3 v4 σ) v1 v2 v3 v4 v4 v1 v4 σ) ∧ (¬ (v2 ≤ 3) → wX7_turns_40 k (fun v1 v2 v3 v4 σ => wX7_turns_10 k n v1 v2 v3 v4 σ) v1 v2 v3 v4 ((v3 - 1) - v4) v1 v4 σ))))
set_option maxRecDepth 100000 in
theorem sX7_turns_10 {x : Cx} (C : zOk x cX7_turns RX7 (none) (2) (47)) (hN : x.2.2.2.2.1 = 6) {k : Hp → Prop} (E : zEnd x (zPv k x.2.1)) : ∀ (n : Nat) (v1 : Int) (v2 : Int) (v3 : Int) (v4 : Int) (σ : Hp), wX7_turns_10 k n v1 v2 v3 v4 σ → zV x σ 10 [(0, za x (17)), (1, .int (zI (v1))), (2, .int (zI (v2))), (3, .int (zI (v3))), (4, .int (zI (v4)))] [] := by
  intro n
  induction n with
  | zero => intro _ _ _ _ _ h; exact h.elim
  | succ n ih =>
    intro v1 v2 v3 v4 σ h
    unfold wX7_turns_10 at h
    refine z_iload C 4 dX7_turns_10 rfl ?_
    refine z_iload_n C 3 dX7_turns_12 rfl rfl ?_
    obtain ⟨o1, h⟩ := h
    obtain ⟨o2, h⟩ := h
    refine z_icmp_ge C 50 dX7_turns_13 (by decide) o1 o2 (fun c3 => ?_) (fun c3 => ?_)
    · have h := h.1 c3
      refine z_iconst C dX7_turns_50 ?_
      refine z_istore C [(4, .int (zI (0))), (0, za x (17)), (1, .int (zI (v1))), (2, .int (zI (v2))), (3, .int (zI (v3)))] dX7_turns_51 (by rw [hN]; decide) rfl ?_
      refine z_sub C [1, 3, 4, 0] [(0, za x (17)), (2, .int (zI (v2))), (3, .int (zI (v3))), (4, .int (zI (0)))] rfl ?_
      obtain ⟨n4, h⟩ := h
      exact sX7_turns_53 C hN E n4 v2 v3 0  σ h
    · have h := h.2 c3
      refine z_aload_n C 0 dX7_turns_16 rfl rfl ?_
      refine g_X7_13 C kf_X7_38 dX7_turns_17 ?_
      refine z_iload C 4 dX7_turns_20 rfl ?_
      refine z_aload_n C 0 dX7_turns_22 rfl rfl ?_
      refine z_iload_n C 1 dX7_turns_23 rfl rfl ?_
      refine z_iload_n C 2 dX7_turns_24 rfl rfl ?_
      refine z_iconst C dX7_turns_25 ?_
      obtain ⟨o5, h⟩ := h
      refine z_icmp_le C 38 dX7_turns_26 (by decide) o5 (zrg_d rfl) (fun c6 => ?_) (fun c6 => ?_)
      · have h := h.1 c6
        refine z_iload C 4 dX7_turns_38 rfl ?_
        exact sX7_turns_40 C hN E (by intro v1 v2 v3 v4 σ h; exact ih v1 v2 v3 v4  σ h) v1 v2 v3 v4 v4 v1 v4  σ h
      · have h := h.2 c6
        refine z_iload_n C 3 dX7_turns_29 rfl rfl ?_
        refine z_iconst C dX7_turns_30 ?_
        refine z_isub C dX7_turns_31 ?_
        refine z_iload C 4 dX7_turns_32 rfl ?_
        refine z_isub C dX7_turns_34 ?_
        refine z_goto C 40 dX7_turns_35 (by decide) ?_
        exact sX7_turns_40 C hN E (by intro v1 v2 v3 v4 σ h; exact ih v1 v2 v3 v4  σ h) v1 v2 v3 v4 ((v3 - 1) - v4) v1 v4  σ h
def wX7_turns (v1 : Int) (v2 : Int) (σ : Hp) (k : Hp → Prop) : Prop :=
  (0 ≤ v1 ∧ v1 < 6) ∧ (∃ N2, wX7_turns_10 k N2 v1 v2 (σ 18 v1.toNat) 0 σ)
set_option maxRecDepth 100000 in
theorem mX7_turns (v1 : Int) (v2 : Int) (σ : Hp) (k : Hp → Prop) (h : wX7_turns v1 v2 σ k) (l : Launch) : zMt l yX7_turns cX7_turns 6 (none) { frames := 2, cells := 0, slots := 0, locals := 47 } (fun w => [.ref (w.2.1 (17)), .int (zI (v1)), .int (zI (v2))]) σ (zPv k) := by
  refine zMt_of (plainFor_of_name (by decide)) (fun w => Nat.le_of_ble_eq_true rfl) (fun x hl hN C E => ?_)
  change zV x σ 0 [(0, za x (17)), (1, .int (zI (v1))), (2, .int (zI (v2)))] []
  change zOk x cX7_turns RX7 (none) (2) (47) at C
  unfold wX7_turns at h
  refine z_aload_n C 0 dX7_turns_0 rfl rfl ?_
  refine g_X7_0 C kf_X7_7 dX7_turns_1 ?_
  refine z_iload_n C 1 dX7_turns_4 rfl rfl ?_
  obtain ⟨o1, h⟩ := h
  refine z_iald C ia_18 dX7_turns_5 o1.1 o1.2 ?_
  refine z_istore_n C [(3, .int (zI (σ 18 v1.toNat))), (0, za x (17)), (1, .int (zI (v1))), (2, .int (zI (v2)))] dX7_turns_6 rfl (by rw [hN]; decide) rfl ?_
  refine z_iconst C dX7_turns_7 ?_
  refine z_istore C [(4, .int (zI (0))), (3, .int (zI (σ 18 v1.toNat))), (0, za x (17)), (1, .int (zI (v1))), (2, .int (zI (v2)))] dX7_turns_8 (by rw [hN]; decide) rfl ?_
  refine z_sub C [2, 3, 4, 1, 0] [(0, za x (17)), (1, .int (zI (v1))), (2, .int (zI (v2))), (3, .int (zI (σ 18 v1.toNat))), (4, .int (zI (0)))] rfl ?_
  obtain ⟨n2, h⟩ := h
  exact sX7_turns_10 C hN E n2 v1 v2 (σ 18 v1.toNat) 0  σ h
def wX7_like_54 (k : Int → Hp → Prop) (K24 : Int → Int → Int → Hp → Prop) : Nat → Int → Int → Int → Int → Int → Int → Hp → Prop
  | 0, _, _, _, _, _, _, _ => False
  | n + 1, v1, v2, v3, v4, v6, v7, σ => zrg v7 ∧ zrg v3 ∧ ((v3 ≤ v7 → zrg v6 ∧ ((v6 = 0 → K24 v1 (v2 + 0) (v3 + 1) σ) ∧ (¬ (v6 = 0) → K24 v1 (v2 + 1) (v3 + 1) σ))) ∧ (¬ (v3 ≤ v7) → wX7_turns v1 v7 σ (fun σ6 => zrg v6 ∧ ((v6 = 0 → wX7_like_54 k K24 n v1 v2 v3 v4 0 (v7 + 1) σ6) ∧ (¬ (v6 = 0) → (0 ≤ v1 ∧ v1 < 6) ∧ wX7_code (σ6 18 v1.toNat) σ6 (fun a11 σ10 => zrl a11 ∧ zrl v4 ∧ ((a11 = v4 → wX7_like_54 k K24 n v1 v2 v3 v4 0 (v7 + 1) σ10) ∧ (¬ (a11 = v4) → wX7_like_54 k K24 n v1 v2 v3 v4 1 (v7 + 1) σ10))))))))
set_option maxRecDepth 100000 in
theorem sX7_like_54 {x : Cx} (C : zOk x cX7_like RX7 (some .int) (3) (72)) (hN : x.2.2.2.2.1 = 8) {k : Int → Hp → Prop} (E : zEnd x (zPi k x.2.1)) {K24 : Int → Int → Int → Hp → Prop} (H24 : ∀ (v1 : Int) (v2 : Int) (v3 : Int) (σ : Hp), K24 v1 v2 v3 σ → zV x σ 24 [(0, za x (17)), (1, .int (zI (v1))), (2, .int (zI (v2))), (3, .int (zI (v3)))] []) : ∀ (n : Nat) (v1 : Int) (v2 : Int) (v3 : Int) (v4 : Int) (v6 : Int) (v7 : Int) (σ : Hp), wX7_like_54 k K24 n v1 v2 v3 v4 v6 v7 σ → zV x σ 54 [(0, za x (17)), (1, .int (zI (v1))), (2, .int (zI (v2))), (3, .int (zI (v3))), (4, .long (zJ (v4))), (6, .int (zI (v6))), (7, .int (zI (v7)))] [] := by
  intro n
  induction n with
  | zero => intro _ _ _ _ _ _ _ h; exact h.elim
  | succ n ih =>
    intro v1 v2 v3 v4 v6 v7 σ h
    unfold wX7_like_54 at h
    refine z_iload C 6 dX7_like_54 rfl ?_
    refine z_iload_n C 3 dX7_like_56 rfl rfl ?_
    obtain ⟨o1, h⟩ := h
    obtain ⟨o2, h⟩ := h
    refine z_icmp_ge C 101 dX7_like_57 (by decide) o1 o2 (fun c3 => ?_) (fun c3 => ?_)
    · have h := h.1 c3
      refine z_iload_n C 2 dX7_like_101 rfl rfl ?_
      refine z_iload C 5 dX7_like_102 rfl ?_
      obtain ⟨o4, h⟩ := h
      refine z_if_eq C 111 dX7_like_104 (by decide) o4 (fun c5 => ?_) (fun c5 => ?_)
      · have h := h.1 c5
        refine z_iconst C dX7_like_111 ?_
        refine z_iadd C dX7_like_112 ?_
        refine z_istore_n C [(2, .int (zI (v2 + 0))), (0, za x (17)), (1, .int (zI (v1))), (3, .int (zI (v3))), (4, .long (zJ (v4))), (6, .int (zI (v6))), (7, .int (zI (v7)))] dX7_like_113 rfl (by rw [hN]; decide) rfl ?_
        refine z_iinc C 3 [(3, .int (zI (v3 + 1))), (2, .int (zI (v2 + 0))), (0, za x (17)), (1, .int (zI (v1))), (4, .long (zJ (v4))), (6, .int (zI (v6))), (7, .int (zI (v7)))] dX7_like_114 rfl (by rw [hN]; decide) rfl ?_
        refine z_goto C 24 dX7_like_117 (by decide) ?_
        refine z_sub C [2, 3, 1, 0] [(0, za x (17)), (1, .int (zI (v1))), (2, .int (zI (v2 + 0))), (3, .int (zI (v3 + 1)))] rfl ?_
        exact H24 v1 (v2 + 0) (v3 + 1)  σ h
      · have h := h.2 c5
        refine z_iconst C dX7_like_107 ?_
        refine z_goto C 112 dX7_like_108 (by decide) ?_
        refine z_iadd C dX7_like_112 ?_
        refine z_istore_n C [(2, .int (zI (v2 + 1))), (0, za x (17)), (1, .int (zI (v1))), (3, .int (zI (v3))), (4, .long (zJ (v4))), (6, .int (zI (v6))), (7, .int (zI (v7)))] dX7_like_113 rfl (by rw [hN]; decide) rfl ?_
        refine z_iinc C 3 [(3, .int (zI (v3 + 1))), (2, .int (zI (v2 + 1))), (0, za x (17)), (1, .int (zI (v1))), (4, .long (zJ (v4))), (6, .int (zI (v6))), (7, .int (zI (v7)))] dX7_like_114 rfl (by rw [hN]; decide) rfl ?_
        refine z_goto C 24 dX7_like_117 (by decide) ?_
        refine z_sub C [2, 3, 1, 0] [(0, za x (17)), (1, .int (zI (v1))), (2, .int (zI (v2 + 1))), (3, .int (zI (v3 + 1)))] rfl ?_
        exact H24 v1 (v2 + 1) (v3 + 1)  σ h
    · have h := h.2 c3
      refine z_aload_n C 0 dX7_like_60 rfl rfl ?_
      refine z_iload_n C 1 dX7_like_61 rfl rfl ?_
      refine z_iload C 6 dX7_like_62 rfl ?_
      refine z_callV (av := fun w => [.int (zI (v1)), .int (zI (v7))]) C [] cs_X7_turns (by decide) (fun _ _ => rfl) rfl (mX7_turns v1 v7  σ _ h) km_X7_156 dX7_like_64 rfl rfl ⟨rfl, rfl⟩ ⟨by decide, by decide⟩ (Nat.le_of_ble_eq_true rfl) (fun rv σ6 hp => ?_)
      obtain ⟨rfl, h⟩ := hp
      change zV x σ6 67 [(0, za x (17)), (1, .int (zI (v1))), (2, .int (zI (v2))), (3, .int (zI (v3))), (4, .long (zJ (v4))), (6, .int (zI (v6))), (7, .int (zI (v7)))] []
      refine z_iload C 5 dX7_like_67 rfl ?_
      obtain ⟨o7, h⟩ := h
      refine z_if_eq C 92 dX7_like_69 (by decide) o7 (fun c8 => ?_) (fun c8 => ?_)
      · have h := h.1 c8
        refine z_iconst C dX7_like_92 ?_
        refine z_istore C [(6, .int (zI (0))), (0, za x (17)), (1, .int (zI (v1))), (2, .int (zI (v2))), (3, .int (zI (v3))), (4, .long (zJ (v4))), (7, .int (zI (v7)))] dX7_like_93 (by rw [hN]; decide) rfl ?_
        refine z_iinc C 6 [(7, .int (zI (v7 + 1))), (6, .int (zI (0))), (0, za x (17)), (1, .int (zI (v1))), (2, .int (zI (v2))), (3, .int (zI (v3))), (4, .long (zJ (v4)))] dX7_like_95 rfl (by rw [hN]; decide) rfl ?_
        refine z_goto C 54 dX7_like_98 (by decide) ?_
        refine z_sub C [2, 3, 4, 5, 6, 1, 0] [(0, za x (17)), (1, .int (zI (v1))), (2, .int (zI (v2))), (3, .int (zI (v3))), (4, .long (zJ (v4))), (6, .int (zI (0))), (7, .int (zI (v7 + 1)))] rfl ?_
        exact ih v1 v2 v3 v4 0 (v7 + 1)  σ6 h
      · have h := h.2 c8
        refine z_aload_n C 0 dX7_like_72 rfl rfl ?_
        refine z_aload_n C 0 dX7_like_73 rfl rfl ?_
        refine g_X7_0 C kf_X7_7 dX7_like_74 ?_
        refine z_iload_n C 1 dX7_like_77 rfl rfl ?_
        obtain ⟨o9, h⟩ := h
        refine z_iald C ia_18 dX7_like_78 o9.1 o9.2 ?_
        refine z_callV (av := fun w => [.int (zI (σ6 18 v1.toNat))]) C [] cs_X7_code (by decide) (fun _ _ => rfl) rfl (mX7_code (σ6 18 v1.toNat)  σ6 _ h) km_X7_160 dX7_like_79 rfl rfl ⟨rfl, rfl⟩ ⟨by decide, by decide⟩ (Nat.le_of_ble_eq_true rfl) (fun rv σ10 hp => ?_)
        obtain ⟨a11, rfl, h⟩ := hp
        change zV x σ10 82 [(0, za x (17)), (1, .int (zI (v1))), (2, .int (zI (v2))), (3, .int (zI (v3))), (4, .long (zJ (v4))), (6, .int (zI (v6))), (7, .int (zI (v7)))] [.long (zJ (a11))]
        refine z_lload C 4 dX7_like_82 rfl ?_
        obtain ⟨o12, h⟩ := h
        obtain ⟨o13, h⟩ := h
        refine z_lcmp_eq C 92 dX7_like_84 dX7_like_85 (by decide) o12 o13 (fun c14 => ?_) (fun c14 => ?_)
        · have h := h.1 c14
          refine z_iconst C dX7_like_92 ?_
          refine z_istore C [(6, .int (zI (0))), (0, za x (17)), (1, .int (zI (v1))), (2, .int (zI (v2))), (3, .int (zI (v3))), (4, .long (zJ (v4))), (7, .int (zI (v7)))] dX7_like_93 (by rw [hN]; decide) rfl ?_
          refine z_iinc C 6 [(7, .int (zI (v7 + 1))), (6, .int (zI (0))), (0, za x (17)), (1, .int (zI (v1))), (2, .int (zI (v2))), (3, .int (zI (v3))), (4, .long (zJ (v4)))] dX7_like_95 rfl (by rw [hN]; decide) rfl ?_
          refine z_goto C 54 dX7_like_98 (by decide) ?_
          refine z_sub C [2, 3, 4, 5, 6, 1, 0] [(0, za x (17)), (1, .int (zI (v1))), (2, .int (zI (v2))), (3, .int (zI (v3))), (4, .long (zJ (v4))), (6, .int (zI (0))), (7, .int (zI (v7 + 1)))] rfl ?_
          exact ih v1 v2 v3 v4 0 (v7 + 1)  σ10 h
        · have h := h.2 c14
          refine z_iconst C dX7_like_88 ?_
          refine z_goto C 93 dX7_like_89 (by decide) ?_
          refine z_istore C [(6, .int (zI (1))), (0, za x (17)), (1, .int (zI (v1))), (2, .int (zI (v2))), (3, .int (zI (v3))), (4, .long (zJ (v4))), (7, .int (zI (v7)))] dX7_like_93 (by rw [hN]; decide) rfl ?_
          refine z_iinc C 6 [(7, .int (zI (v7 + 1))), (6, .int (zI (1))), (0, za x (17)), (1, .int (zI (v1))), (2, .int (zI (v2))), (3, .int (zI (v3))), (4, .long (zJ (v4)))] dX7_like_95 rfl (by rw [hN]; decide) rfl ?_
          refine z_goto C 54 dX7_like_98 (by decide) ?_
          refine z_sub C [2, 3, 4, 5, 6, 1, 0] [(0, za x (17)), (1, .int (zI (v1))), (2, .int (zI (v2))), (3, .int (zI (v3))), (4, .long (zJ (v4))), (6, .int (zI (1))), (7, .int (zI (v7 + 1)))] rfl ?_
          exact ih v1 v2 v3 v4 1 (v7 + 1)  σ10 h
def wX7_like_24 (k : Int → Hp → Prop) : Nat → Int → Int → Int → Hp → Prop
  | 0, _, _, _, _ => False
  | n + 1, v1, v2, v3, σ => zrg v3 ∧ ((8 ≤ v3 → k v2 σ) ∧ (¬ (8 ≤ v3) → wX7_turns v1 v3 σ (fun σ3 => (0 ≤ v1 ∧ v1 < 6) ∧ wX7_code (σ3 18 v1.toNat) σ3 (fun a6 σ5 => (∃ N7, wX7_like_54 k (fun v1 v2 v3 σ => wX7_like_24 k n v1 v2 v3 σ) N7 v1 v2 v3 a6 1 0 σ5)))))
set_option maxRecDepth 100000 in
theorem sX7_like_24 {x : Cx} (C : zOk x cX7_like RX7 (some .int) (3) (72)) (hN : x.2.2.2.2.1 = 8) {k : Int → Hp → Prop} (E : zEnd x (zPi k x.2.1)) : ∀ (n : Nat) (v1 : Int) (v2 : Int) (v3 : Int) (σ : Hp), wX7_like_24 k n v1 v2 v3 σ → zV x σ 24 [(0, za x (17)), (1, .int (zI (v1))), (2, .int (zI (v2))), (3, .int (zI (v3)))] [] := by
  intro n
  induction n with
  | zero => intro _ _ _ _ h; exact h.elim
  | succ n ih =>
    intro v1 v2 v3 σ h
    unfold wX7_like_24 at h
    refine z_iload_n C 3 dX7_like_24 rfl rfl ?_
    refine z_bipush C dX7_like_25 rfl ?_
    obtain ⟨o1, h⟩ := h
    refine z_icmp_ge C 120 dX7_like_27 (by decide) o1 (zrg_d rfl) (fun c2 => ?_) (fun c2 => ?_)
    · have h := h.1 c2
      refine z_iload_n C 2 dX7_like_120 rfl rfl ?_
      exact z_iret C E dX7_like_121 ⟨_, rfl, h⟩
    · have h := h.2 c2
      refine z_aload_n C 0 dX7_like_30 rfl rfl ?_
      refine z_iload_n C 1 dX7_like_31 rfl rfl ?_
      refine z_iload_n C 3 dX7_like_32 rfl rfl ?_
      refine z_callV (av := fun w => [.int (zI (v1)), .int (zI (v3))]) C [] cs_X7_turns (by decide) (fun _ _ => rfl) rfl (mX7_turns v1 v3  σ _ h) km_X7_156 dX7_like_33 rfl rfl ⟨rfl, rfl⟩ ⟨by decide, by decide⟩ (Nat.le_of_ble_eq_true rfl) (fun rv σ3 hp => ?_)
      obtain ⟨rfl, h⟩ := hp
      change zV x σ3 36 [(0, za x (17)), (1, .int (zI (v1))), (2, .int (zI (v2))), (3, .int (zI (v3)))] []
      refine z_aload_n C 0 dX7_like_36 rfl rfl ?_
      refine z_aload_n C 0 dX7_like_37 rfl rfl ?_
      refine g_X7_0 C kf_X7_7 dX7_like_38 ?_
      refine z_iload_n C 1 dX7_like_41 rfl rfl ?_
      obtain ⟨o4, h⟩ := h
      refine z_iald C ia_18 dX7_like_42 o4.1 o4.2 ?_
      refine z_callV (av := fun w => [.int (zI (σ3 18 v1.toNat))]) C [] cs_X7_code (by decide) (fun _ _ => rfl) rfl (mX7_code (σ3 18 v1.toNat)  σ3 _ h) km_X7_160 dX7_like_43 rfl rfl ⟨rfl, rfl⟩ ⟨by decide, by decide⟩ (Nat.le_of_ble_eq_true rfl) (fun rv σ5 hp => ?_)
      obtain ⟨a6, rfl, h⟩ := hp
      change zV x σ5 46 [(0, za x (17)), (1, .int (zI (v1))), (2, .int (zI (v2))), (3, .int (zI (v3)))] [.long (zJ (a6))]
      refine z_lstore C [(4, .long (zJ (a6))), (0, za x (17)), (1, .int (zI (v1))), (2, .int (zI (v2))), (3, .int (zI (v3)))] dX7_like_46 (by rw [hN]; decide) rfl ?_
      refine z_iconst C dX7_like_48 ?_
      refine z_istore C [(6, .int (zI (1))), (4, .long (zJ (a6))), (0, za x (17)), (1, .int (zI (v1))), (2, .int (zI (v2))), (3, .int (zI (v3)))] dX7_like_49 (by rw [hN]; decide) rfl ?_
      refine z_iconst C dX7_like_51 ?_
      refine z_istore C [(7, .int (zI (0))), (6, .int (zI (1))), (4, .long (zJ (a6))), (0, za x (17)), (1, .int (zI (v1))), (2, .int (zI (v2))), (3, .int (zI (v3)))] dX7_like_52 (by rw [hN]; decide) rfl ?_
      refine z_sub C [3, 4, 5, 6, 2, 1, 0] [(0, za x (17)), (1, .int (zI (v1))), (2, .int (zI (v2))), (3, .int (zI (v3))), (4, .long (zJ (a6))), (6, .int (zI (1))), (7, .int (zI (0)))] rfl ?_
      obtain ⟨n7, h⟩ := h
      exact sX7_like_54 C hN E (by intro v1 v2 v3 σ h; exact ih v1 v2 v3  σ h) n7 v1 v2 v3 a6 1 0  σ5 h
def wX7_like (v1 : Int) (σ : Hp) (k : Int → Hp → Prop) : Prop :=
  wX7_isRow v1 σ (fun a2 σ1 => zrg a2 ∧ ((a2 ≠ 0 → wX7_isSquare v1 σ1 (fun a6 σ5 => zrg a6 ∧ ((a6 ≠ 0 → (∃ N9, wX7_like_24 k N9 v1 0 0 σ5)) ∧ (¬ (a6 ≠ 0) → k ((-2)) σ5)))) ∧ (¬ (a2 ≠ 0) → k ((-1)) σ1)))
set_option maxRecDepth 100000 in
theorem mX7_like (v1 : Int) (σ : Hp) (k : Int → Hp → Prop) (h : wX7_like v1 σ k) (l : Launch) : zMt l yX7_like cX7_like 8 (some .int) { frames := 3, cells := 0, slots := 0, locals := 72 } (fun w => [.ref (w.2.1 (17)), .int (zI (v1))]) σ (zPi k) := by
  refine zMt_of (plainFor_of_name (by decide)) (fun w => Nat.le_of_ble_eq_true rfl) (fun x hl hN C E => ?_)
  change zV x σ 0 [(0, za x (17)), (1, .int (zI (v1)))] []
  change zOk x cX7_like RX7 (some .int) (3) (72) at C
  unfold wX7_like at h
  refine z_iload_n C 1 dX7_like_0 rfl rfl ?_
  refine z_callS (av := fun w => [.int (zI (v1))]) C [] cs_X7_isRow (mX7_isRow v1  σ _ h) km_X7_50 dX7_like_1 rfl rfl ⟨rfl, rfl⟩ ⟨by decide, by decide⟩ (Nat.le_of_ble_eq_true rfl) (fun rv σ1 hp => ?_)
  obtain ⟨a2, rfl, h⟩ := hp
  change zV x σ1 4 [(0, za x (17)), (1, .int (zI (v1)))] [.int (zI (a2))]
  obtain ⟨o3, h⟩ := h
  refine z_if_ne C 9 dX7_like_4 (by decide) o3 (fun c4 => ?_) (fun c4 => ?_)
  · have h := h.1 c4
    refine z_aload_n C 0 dX7_like_9 rfl rfl ?_
    refine z_iload_n C 1 dX7_like_10 rfl rfl ?_
    refine z_callV (av := fun w => [.int (zI (v1))]) C [] cs_X7_isSquare (by decide) (fun _ _ => rfl) rfl (mX7_isSquare v1  σ1 _ h) km_X7_153 dX7_like_11 rfl rfl ⟨rfl, rfl⟩ ⟨by decide, by decide⟩ (Nat.le_of_ble_eq_true rfl) (fun rv σ5 hp => ?_)
    obtain ⟨a6, rfl, h⟩ := hp
    change zV x σ5 14 [(0, za x (17)), (1, .int (zI (v1)))] [.int (zI (a6))]
    obtain ⟨o7, h⟩ := h
    refine z_if_ne C 20 dX7_like_14 (by decide) o7 (fun c8 => ?_) (fun c8 => ?_)
    · have h := h.1 c8
      refine z_iconst C dX7_like_20 ?_
      refine z_istore_n C [(2, .int (zI (0))), (0, za x (17)), (1, .int (zI (v1)))] dX7_like_21 rfl (by rw [hN]; decide) rfl ?_
      refine z_iconst C dX7_like_22 ?_
      refine z_istore_n C [(3, .int (zI (0))), (2, .int (zI (0))), (0, za x (17)), (1, .int (zI (v1)))] dX7_like_23 rfl (by rw [hN]; decide) rfl ?_
      refine z_sub C [2, 3, 1, 0] [(0, za x (17)), (1, .int (zI (v1))), (2, .int (zI (0))), (3, .int (zI (0)))] rfl ?_
      obtain ⟨n9, h⟩ := h
      exact sX7_like_24 C hN E n9 v1 0 0  σ5 h
    · have h := h.2 c8
      refine z_bipush C dX7_like_17 rfl ?_
      exact z_iret C E dX7_like_19 ⟨_, rfl, h⟩
  · have h := h.2 c4
    refine z_iconst C dX7_like_7 ?_
    exact z_iret C E dX7_like_8 ⟨_, rfl, h⟩
def wX7_there (v1 : Int) (v2 : Int) (v3 : Int) (σ : Hp) (k : Int → Hp → Prop) : Prop :=
  wX7_lays v1 v2 v3 0 ((-1)) 0 σ (fun a2 σ1 => zrg (σ1 17 9) ∧ ((σ1 17 9 ≠ 1 → k 0 σ1) ∧ (¬ (σ1 17 9 ≠ 1) → k 1 σ1)))
set_option maxRecDepth 100000 in
theorem mX7_there (v1 : Int) (v2 : Int) (v3 : Int) (σ : Hp) (k : Int → Hp → Prop) (h : wX7_there v1 v2 v3 σ k) (l : Launch) : zMt l yX7_there cX7_there 4 (some .boolean) { frames := 4, cells := 0, slots := 0, locals := 101 } (fun w => [.ref (w.2.1 (17)), .int (zI (v1)), .int (zI (v2)), .int (zI (v3))]) σ (zPi k) := by
  refine zMt_of (plainFor_of_name (by decide)) (fun w => Nat.le_of_ble_eq_true rfl) (fun x hl hN C E => ?_)
  change zV x σ 0 [(0, za x (17)), (1, .int (zI (v1))), (2, .int (zI (v2))), (3, .int (zI (v3)))] []
  change zOk x cX7_there RX7 (some .boolean) (4) (101) at C
  unfold wX7_there at h
  refine z_aload_n C 0 dX7_there_0 rfl rfl ?_
  refine z_iload_n C 1 dX7_there_1 rfl rfl ?_
  refine z_iload_n C 2 dX7_there_2 rfl rfl ?_
  refine z_iload_n C 3 dX7_there_3 rfl rfl ?_
  refine z_iconst C dX7_there_4 ?_
  refine z_iconst C dX7_there_5 ?_
  refine z_iconst C dX7_there_6 ?_
  refine z_callV (av := fun w => [.int (zI (v1)), .int (zI (v2)), .int (zI (v3)), .int (zI (0)), .int (zI ((-1))), .int (zI (0))]) C [] cs_X7_lays (by decide) (fun _ _ => rfl) rfl (mX7_lays v1 v2 v3 0 ((-1)) 0  σ _ h) km_X7_122 dX7_there_7 rfl rfl ⟨rfl, rfl⟩ ⟨by decide, by decide⟩ (Nat.le_of_ble_eq_true rfl) (fun rv σ1 hp => ?_)
  obtain ⟨a2, rfl, h⟩ := hp
  change zV x σ1 10 [(0, za x (17)), (1, .int (zI (v1))), (2, .int (zI (v2))), (3, .int (zI (v3)))] [.int (zI (a2))]
  refine z_pop C dX7_there_10 rfl ?_
  refine z_aload_n C 0 dX7_there_11 rfl rfl ?_
  refine g_X7_9 C kf_X7_115 dX7_there_12 ?_
  refine z_iconst C dX7_there_15 ?_
  obtain ⟨o3, h⟩ := h
  refine z_icmp_ne C 23 dX7_there_16 (by decide) o3 (zrg_d rfl) (fun c4 => ?_) (fun c4 => ?_)
  · have h := h.1 c4
    refine z_iconst C dX7_there_23 ?_
    exact z_zret C E dX7_there_24 (by decide) ⟨_, rfl, h⟩
  · have h := h.2 c4
    refine z_iconst C dX7_there_19 ?_
    refine z_goto C 24 dX7_there_20 (by decide) ?_
    exact z_zret C E dX7_there_24 (by decide) ⟨_, rfl, h⟩
def wX7_longest_26 (k : Int → Hp → Prop) : Nat → Int → Int → Int → Hp → Prop
  | 0, _, _, _, _ => False
  | n + 1, v1, v2, v3, σ => zrg v3 ∧ ((12 ≤ v3 → k v3 σ) ∧ (¬ (12 ≤ v3) → wX7_there (v3 + 1) v1 v2 σ (fun a4 σ3 => zrg a4 ∧ ((a4 = 0 → k v3 σ3) ∧ (¬ (a4 = 0) → wX7_longest_26 k n v1 v2 (v3 + 1) σ3)))))
set_option maxRecDepth 100000 in
theorem sX7_longest_26 {x : Cx} (C : zOk x cX7_longest RX7 (some .int) (5) (124)) (hN : x.2.2.2.2.1 = 4) {k : Int → Hp → Prop} (E : zEnd x (zPi k x.2.1)) : ∀ (n : Nat) (v1 : Int) (v2 : Int) (v3 : Int) (σ : Hp), wX7_longest_26 k n v1 v2 v3 σ → zV x σ 26 [(0, za x (17)), (1, .int (zI (v1))), (2, .int (zI (v2))), (3, .int (zI (v3)))] [] := by
  intro n
  induction n with
  | zero => intro _ _ _ _ h; exact h.elim
  | succ n ih =>
    intro v1 v2 v3 σ h
    unfold wX7_longest_26 at h
    refine z_iload_n C 3 dX7_longest_26 rfl rfl ?_
    refine z_bipush C dX7_longest_27 rfl ?_
    obtain ⟨o1, h⟩ := h
    refine z_icmp_ge C 50 dX7_longest_29 (by decide) o1 (zrg_d rfl) (fun c2 => ?_) (fun c2 => ?_)
    · have h := h.1 c2
      refine z_iload_n C 3 dX7_longest_50 rfl rfl ?_
      exact z_iret C E dX7_longest_51 ⟨_, rfl, h⟩
    · have h := h.2 c2
      refine z_aload_n C 0 dX7_longest_32 rfl rfl ?_
      refine z_iload_n C 3 dX7_longest_33 rfl rfl ?_
      refine z_iconst C dX7_longest_34 ?_
      refine z_iadd C dX7_longest_35 ?_
      refine z_iload_n C 1 dX7_longest_36 rfl rfl ?_
      refine z_iload_n C 2 dX7_longest_37 rfl rfl ?_
      refine z_callV (av := fun w => [.int (zI (v3 + 1)), .int (zI (v1)), .int (zI (v2))]) C [] cs_X7_there (by decide) (fun _ _ => rfl) rfl (mX7_there (v3 + 1) v1 v2  σ _ h) km_X7_138 dX7_longest_38 rfl rfl ⟨rfl, rfl⟩ ⟨by decide, by decide⟩ (Nat.le_of_ble_eq_true rfl) (fun rv σ3 hp => ?_)
      obtain ⟨a4, rfl, h⟩ := hp
      change zV x σ3 41 [(0, za x (17)), (1, .int (zI (v1))), (2, .int (zI (v2))), (3, .int (zI (v3)))] [.int (zI (a4))]
      obtain ⟨o5, h⟩ := h
      refine z_if_eq C 50 dX7_longest_41 (by decide) o5 (fun c6 => ?_) (fun c6 => ?_)
      · have h := h.1 c6
        refine z_iload_n C 3 dX7_longest_50 rfl rfl ?_
        exact z_iret C E dX7_longest_51 ⟨_, rfl, h⟩
      · have h := h.2 c6
        refine z_iinc C 3 [(3, .int (zI (v3 + 1))), (0, za x (17)), (1, .int (zI (v1))), (2, .int (zI (v2)))] dX7_longest_44 rfl (by rw [hN]; decide) rfl ?_
        refine z_goto C 26 dX7_longest_47 (by decide) ?_
        refine z_sub C [1, 2, 3, 0] [(0, za x (17)), (1, .int (zI (v1))), (2, .int (zI (v2))), (3, .int (zI (v3 + 1)))] rfl ?_
        exact ih v1 v2 (v3 + 1)  σ3 h
def wX7_longest (v1 : Int) (v2 : Int) (σ : Hp) (k : Int → Hp → Prop) : Prop :=
  zrg v1 ∧ wX7_in v1 1 4 σ (fun a3 σ2 => zrg a3 ∧ ((a3 = 0 → k ((-1)) σ2) ∧ (¬ (a3 = 0) → zrg v2 ∧ wX7_in v2 0 1 σ2 (fun a8 σ7 => zrg a8 ∧ ((a8 ≠ 0 → (∃ N11, wX7_longest_26 k N11 v1 v2 1 σ7)) ∧ (¬ (a8 ≠ 0) → k ((-1)) σ7))))))
set_option maxRecDepth 100000 in
theorem mX7_longest (v1 : Int) (v2 : Int) (σ : Hp) (k : Int → Hp → Prop) (h : wX7_longest v1 v2 σ k) (l : Launch) : zMt l yX7_longest cX7_longest 4 (some .int) { frames := 5, cells := 0, slots := 0, locals := 124 } (fun w => [.ref (w.2.1 (17)), .int (zI (v1)), .int (zI (v2))]) σ (zPi k) := by
  refine zMt_of (plainFor_of_name (by decide)) (fun w => Nat.le_of_ble_eq_true rfl) (fun x hl hN C E => ?_)
  change zV x σ 0 [(0, za x (17)), (1, .int (zI (v1))), (2, .int (zI (v2)))] []
  change zOk x cX7_longest RX7 (some .int) (5) (124) at C
  unfold wX7_longest at h
  refine z_iload_n C 1 dX7_longest_0 rfl rfl ?_
  obtain ⟨o1, h⟩ := h
  refine z_i2l C dX7_longest_1 o1 ?_
  refine z_lconst (z := 1) C dX7_longest_2 rfl ?_
  refine z_ldc2 (z := 4) C kl_X7_136 rfl dX7_longest_3 ?_
  refine z_callS (av := fun w => [.long (zJ (v1)), .long (zJ (1)), .long (zJ (4))]) C [] cs_X7_in (mX7_in v1 1 4  σ _ h) km_X7_46 dX7_longest_6 rfl rfl ⟨rfl, rfl⟩ ⟨by decide, by decide⟩ (Nat.le_of_ble_eq_true rfl) (fun rv σ2 hp => ?_)
  obtain ⟨a3, rfl, h⟩ := hp
  change zV x σ2 9 [(0, za x (17)), (1, .int (zI (v1))), (2, .int (zI (v2)))] [.int (zI (a3))]
  obtain ⟨o4, h⟩ := h
  refine z_if_eq C 22 dX7_longest_9 (by decide) o4 (fun c5 => ?_) (fun c5 => ?_)
  · have h := h.1 c5
    refine z_iconst C dX7_longest_22 ?_
    exact z_iret C E dX7_longest_23 ⟨_, rfl, h⟩
  · have h := h.2 c5
    refine z_iload_n C 2 dX7_longest_12 rfl rfl ?_
    obtain ⟨o6, h⟩ := h
    refine z_i2l C dX7_longest_13 o6 ?_
    refine z_lconst (z := 0) C dX7_longest_14 rfl ?_
    refine z_lconst (z := 1) C dX7_longest_15 rfl ?_
    refine z_callS (av := fun w => [.long (zJ (v2)), .long (zJ (0)), .long (zJ (1))]) C [] cs_X7_in (mX7_in v2 0 1  σ2 _ h) km_X7_46 dX7_longest_16 rfl rfl ⟨rfl, rfl⟩ ⟨by decide, by decide⟩ (Nat.le_of_ble_eq_true rfl) (fun rv σ7 hp => ?_)
    obtain ⟨a8, rfl, h⟩ := hp
    change zV x σ7 19 [(0, za x (17)), (1, .int (zI (v1))), (2, .int (zI (v2)))] [.int (zI (a8))]
    obtain ⟨o9, h⟩ := h
    refine z_if_ne C 24 dX7_longest_19 (by decide) o9 (fun c10 => ?_) (fun c10 => ?_)
    · have h := h.1 c10
      refine z_iconst C dX7_longest_24 ?_
      refine z_istore_n C [(3, .int (zI (1))), (0, za x (17)), (1, .int (zI (v1))), (2, .int (zI (v2)))] dX7_longest_25 rfl (by rw [hN]; decide) rfl ?_
      refine z_sub C [1, 2, 3, 0] [(0, za x (17)), (1, .int (zI (v1))), (2, .int (zI (v2))), (3, .int (zI (1)))] rfl ?_
      obtain ⟨n11, h⟩ := h
      exact sX7_longest_26 C hN E n11 v1 v2 1  σ7 h
    · have h := h.2 c10
      refine z_iconst C dX7_longest_22 ?_
      exact z_iret C E dX7_longest_23 ⟨_, rfl, h⟩
def wX7_made_58 (k : Int → Hp → Prop) : Nat → Int → Int → Int → Hp → Prop
  | 0, _, _, _, _ => False
  | n + 1, v1, v2, v3, σ => zrg v3 ∧ zrg v2 ∧ ((v2 ≤ v3 → k v2 σ) ∧ (¬ (v2 ≤ v3) → (0 ≤ v3 ∧ v3 < 12) ∧ (0 ≤ (12 * v1) + v3 ∧ (12 * v1) + v3 < 72) ∧ wX7_made_58 k n v1 v2 (v3 + 1) (zst σ 20 ((12 * v1) + v3).toNat (σ 24 v3.toNat))))
set_option maxRecDepth 100000 in
theorem sX7_made_58 {x : Cx} (C : zOk x cX7_made RX7 (some .int) (1) (25)) (hN : x.2.2.2.2.1 = 4) {k : Int → Hp → Prop} (E : zEnd x (zPi k x.2.1)) : ∀ (n : Nat) (v1 : Int) (v2 : Int) (v3 : Int) (σ : Hp), wX7_made_58 k n v1 v2 v3 σ → zV x σ 58 [(0, za x (17)), (1, .int (zI (v1))), (2, .int (zI (v2))), (3, .int (zI (v3)))] [] := by
  intro n
  induction n with
  | zero => intro _ _ _ _ h; exact h.elim
  | succ n ih =>
    intro v1 v2 v3 σ h
    unfold wX7_made_58 at h
    refine z_iload_n C 3 dX7_made_58 rfl rfl ?_
    refine z_iload_n C 2 dX7_made_59 rfl rfl ?_
    obtain ⟨o1, h⟩ := h
    obtain ⟨o2, h⟩ := h
    refine z_icmp_ge C 86 dX7_made_60 (by decide) o1 o2 (fun c3 => ?_) (fun c3 => ?_)
    · have h := h.1 c3
      refine z_iload_n C 2 dX7_made_86 rfl rfl ?_
      exact z_iret C E dX7_made_87 ⟨_, rfl, h⟩
    · have h := h.2 c3
      refine z_aload_n C 0 dX7_made_63 rfl rfl ?_
      refine g_X7_2 C kf_X7_16 dX7_made_64 ?_
      refine z_bipush C dX7_made_67 rfl ?_
      refine z_iload_n C 1 dX7_made_69 rfl rfl ?_
      refine z_imul C dX7_made_70 ?_
      refine z_iload_n C 3 dX7_made_71 rfl rfl ?_
      refine z_iadd C dX7_made_72 ?_
      refine z_aload_n C 0 dX7_made_73 rfl rfl ?_
      refine g_X7_8 C kf_X7_29 dX7_made_74 ?_
      refine z_iload_n C 3 dX7_made_77 rfl rfl ?_
      obtain ⟨o4, h⟩ := h
      refine z_iald C ia_24 dX7_made_78 o4.1 o4.2 ?_
      obtain ⟨o5, h⟩ := h
      refine z_iast C ia_20 dX7_made_79 o5.1 o5.2 ?_
      refine z_iinc C 3 [(3, .int (zI (v3 + 1))), (0, za x (17)), (1, .int (zI (v1))), (2, .int (zI (v2)))] dX7_made_80 rfl (by rw [hN]; decide) rfl ?_
      refine z_goto C 58 dX7_made_83 (by decide) ?_
      refine z_sub C [1, 2, 3, 0] [(0, za x (17)), (1, .int (zI (v1))), (2, .int (zI (v2))), (3, .int (zI (v3 + 1)))] rfl ?_
      exact ih v1 v2 (v3 + 1)  (zst σ 20 ((12 * v1) + v3).toNat (σ 24 v3.toNat)) h
def wX7_made_2 (k : Int → Hp → Prop) : Nat → Int → Int → Int → Hp → Prop
  | 0, _, _, _, _ => False
  | n + 1, v1, v2, v3, σ => zrg v3 ∧ zrg v2 ∧ ((v2 ≤ v3 → (0 ≤ v1 ∧ v1 < 6) ∧ (∃ N5, wX7_made_58 k N5 v1 v2 0 (zst (zst σ 18 v1.toNat v2) 19 v1.toNat v2))) ∧ (¬ (v2 ≤ v3) → (0 ≤ v3 ∧ v3 < 12) ∧ zrg (σ 24 v3.toNat) ∧ zrg (v2 - 1) ∧ wX7_in (σ 24 v3.toNat) 0 (v2 - 1) σ (fun a10 σ9 => zrg a10 ∧ ((a10 = 0 → k ((-2)) σ9) ∧ (¬ (a10 = 0) → wX7_isUnlike v3 σ9 (fun a14 σ13 => zrg a14 ∧ ((a14 ≠ 0 → wX7_made_2 k n v1 v2 (v3 + 1) σ13) ∧ (¬ (a14 ≠ 0) → k ((-2)) σ13))))))))
set_option maxRecDepth 100000 in
theorem sX7_made_2 {x : Cx} (C : zOk x cX7_made RX7 (some .int) (1) (25)) (hN : x.2.2.2.2.1 = 4) {k : Int → Hp → Prop} (E : zEnd x (zPi k x.2.1)) : ∀ (n : Nat) (v1 : Int) (v2 : Int) (v3 : Int) (σ : Hp), wX7_made_2 k n v1 v2 v3 σ → zV x σ 2 [(0, za x (17)), (1, .int (zI (v1))), (2, .int (zI (v2))), (3, .int (zI (v3)))] [] := by
  intro n
  induction n with
  | zero => intro _ _ _ _ h; exact h.elim
  | succ n ih =>
    intro v1 v2 v3 σ h
    unfold wX7_made_2 at h
    refine z_iload_n C 3 dX7_made_2 rfl rfl ?_
    refine z_iload_n C 2 dX7_made_3 rfl rfl ?_
    obtain ⟨o1, h⟩ := h
    obtain ⟨o2, h⟩ := h
    refine z_icmp_ge C 42 dX7_made_4 (by decide) o1 o2 (fun c3 => ?_) (fun c3 => ?_)
    · have h := h.1 c3
      refine z_aload_n C 0 dX7_made_42 rfl rfl ?_
      refine g_X7_0 C kf_X7_7 dX7_made_43 ?_
      refine z_iload_n C 1 dX7_made_46 rfl rfl ?_
      refine z_iload_n C 2 dX7_made_47 rfl rfl ?_
      obtain ⟨o4, h⟩ := h
      refine z_iast C ia_18 dX7_made_48 o4.1 o4.2 ?_
      refine z_aload_n C 0 dX7_made_49 rfl rfl ?_
      refine g_X7_1 C kf_X7_13 dX7_made_50 ?_
      refine z_iload_n C 1 dX7_made_53 rfl rfl ?_
      refine z_iload_n C 2 dX7_made_54 rfl rfl ?_
      refine z_iast C ia_19 dX7_made_55 o4.1 o4.2 ?_
      refine z_iconst C dX7_made_56 ?_
      refine z_istore_n C [(3, .int (zI (0))), (0, za x (17)), (1, .int (zI (v1))), (2, .int (zI (v2)))] dX7_made_57 rfl (by rw [hN]; decide) rfl ?_
      refine z_sub C [1, 2, 3, 0] [(0, za x (17)), (1, .int (zI (v1))), (2, .int (zI (v2))), (3, .int (zI (0)))] rfl ?_
      obtain ⟨n5, h⟩ := h
      exact sX7_made_58 C hN E n5 v1 v2 0  (zst (zst σ 18 v1.toNat v2) 19 v1.toNat v2) h
    · have h := h.2 c3
      refine z_aload_n C 0 dX7_made_7 rfl rfl ?_
      refine g_X7_8 C kf_X7_29 dX7_made_8 ?_
      refine z_iload_n C 3 dX7_made_11 rfl rfl ?_
      obtain ⟨o6, h⟩ := h
      refine z_iald C ia_24 dX7_made_12 o6.1 o6.2 ?_
      obtain ⟨o7, h⟩ := h
      refine z_i2l C dX7_made_13 o7 ?_
      refine z_lconst (z := 0) C dX7_made_14 rfl ?_
      refine z_iload_n C 2 dX7_made_15 rfl rfl ?_
      refine z_iconst C dX7_made_16 ?_
      refine z_isub C dX7_made_17 ?_
      obtain ⟨o8, h⟩ := h
      refine z_i2l C dX7_made_18 o8 ?_
      refine z_callS (av := fun w => [.long (zJ (σ 24 v3.toNat)), .long (zJ (0)), .long (zJ (v2 - 1))]) C [] cs_X7_in (mX7_in (σ 24 v3.toNat) 0 (v2 - 1)  σ _ h) km_X7_46 dX7_made_19 rfl rfl ⟨rfl, rfl⟩ ⟨by decide, by decide⟩ (Nat.le_of_ble_eq_true rfl) (fun rv σ9 hp => ?_)
      obtain ⟨a10, rfl, h⟩ := hp
      change zV x σ9 22 [(0, za x (17)), (1, .int (zI (v1))), (2, .int (zI (v2))), (3, .int (zI (v3)))] [.int (zI (a10))]
      obtain ⟨o11, h⟩ := h
      refine z_if_eq C 33 dX7_made_22 (by decide) o11 (fun c12 => ?_) (fun c12 => ?_)
      · have h := h.1 c12
        refine z_bipush C dX7_made_33 rfl ?_
        exact z_iret C E dX7_made_35 ⟨_, rfl, h⟩
      · have h := h.2 c12
        refine z_aload_n C 0 dX7_made_25 rfl rfl ?_
        refine z_iload_n C 3 dX7_made_26 rfl rfl ?_
        refine z_callV (av := fun w => [.int (zI (v3))]) C [] cs_X7_isUnlike (by decide) (fun _ _ => rfl) rfl (mX7_isUnlike v3  σ9 _ h) km_X7_109 dX7_made_27 rfl rfl ⟨rfl, rfl⟩ ⟨by decide, by decide⟩ (Nat.le_of_ble_eq_true rfl) (fun rv σ13 hp => ?_)
        obtain ⟨a14, rfl, h⟩ := hp
        change zV x σ13 30 [(0, za x (17)), (1, .int (zI (v1))), (2, .int (zI (v2))), (3, .int (zI (v3)))] [.int (zI (a14))]
        obtain ⟨o15, h⟩ := h
        refine z_if_ne C 36 dX7_made_30 (by decide) o15 (fun c16 => ?_) (fun c16 => ?_)
        · have h := h.1 c16
          refine z_iinc C 3 [(3, .int (zI (v3 + 1))), (0, za x (17)), (1, .int (zI (v1))), (2, .int (zI (v2)))] dX7_made_36 rfl (by rw [hN]; decide) rfl ?_
          refine z_goto C 2 dX7_made_39 (by decide) ?_
          refine z_sub C [1, 2, 3, 0] [(0, za x (17)), (1, .int (zI (v1))), (2, .int (zI (v2))), (3, .int (zI (v3 + 1)))] rfl ?_
          exact ih v1 v2 (v3 + 1)  σ13 h
        · have h := h.2 c16
          refine z_bipush C dX7_made_33 rfl ?_
          exact z_iret C E dX7_made_35 ⟨_, rfl, h⟩
def wX7_made (v1 : Int) (v2 : Int) (σ : Hp) (k : Int → Hp → Prop) : Prop :=
  (∃ N1, wX7_made_2 k N1 v1 v2 0 σ)
set_option maxRecDepth 100000 in
theorem mX7_made (v1 : Int) (v2 : Int) (σ : Hp) (k : Int → Hp → Prop) (h : wX7_made v1 v2 σ k) (l : Launch) : zMt l yX7_made cX7_made 4 (some .int) { frames := 1, cells := 0, slots := 0, locals := 25 } (fun w => [.ref (w.2.1 (17)), .int (zI (v1)), .int (zI (v2))]) σ (zPi k) := by
  refine zMt_of (plainFor_of_name (by decide)) (fun w => Nat.le_of_ble_eq_true rfl) (fun x hl hN C E => ?_)
  change zV x σ 0 [(0, za x (17)), (1, .int (zI (v1))), (2, .int (zI (v2)))] []
  change zOk x cX7_made RX7 (some .int) (1) (25) at C
  unfold wX7_made at h
  refine z_iconst C dX7_made_0 ?_
  refine z_istore_n C [(3, .int (zI (0))), (0, za x (17)), (1, .int (zI (v1))), (2, .int (zI (v2)))] dX7_made_1 rfl (by rw [hN]; decide) rfl ?_
  refine z_sub C [1, 2, 3, 0] [(0, za x (17)), (1, .int (zI (v1))), (2, .int (zI (v2))), (3, .int (zI (0)))] rfl ?_
  obtain ⟨n1, h⟩ := h
  exact sX7_made_2 C hN E n1 v1 v2 0  σ h
def wX7_marks_16 (k : Int → Hp → Prop) : Nat → Int → Int → Int → Hp → Prop
  | 0, _, _, _, _ => False
  | n + 1, v1, v2, v4, σ => (0 ≤ v1 ∧ v1 < 6) ∧ zrg v4 ∧ zrg (σ 18 v1.toNat) ∧ ((σ 18 v1.toNat ≤ v4 → k v2 σ) ∧ (¬ (σ 18 v1.toNat ≤ v4) → (0 ≤ (12 * v1) + v4 ∧ (12 * v1) + v4 < 72) ∧ zrg (σ 20 ((12 * v1) + v4).toNat) ∧ wX7_marks_16 k n v1 ((16 * v2) + (σ 20 ((12 * v1) + v4).toNat)) (v4 + 1) σ))
set_option maxRecDepth 100000 in
theorem sX7_marks_16 {x : Cx} (C : zOk x cX7_marks RX7 (some .long) (2) (45)) (hN : x.2.2.2.2.1 = 5) {k : Int → Hp → Prop} (E : zEnd x (zPl k x.2.1)) : ∀ (n : Nat) (v1 : Int) (v2 : Int) (v4 : Int) (σ : Hp), wX7_marks_16 k n v1 v2 v4 σ → zV x σ 16 [(0, za x (17)), (1, .int (zI (v1))), (2, .long (zJ (v2))), (4, .int (zI (v4)))] [] := by
  intro n
  induction n with
  | zero => intro _ _ _ _ h; exact h.elim
  | succ n ih =>
    intro v1 v2 v4 σ h
    unfold wX7_marks_16 at h
    refine z_iload C 3 dX7_marks_16 rfl ?_
    refine z_aload_n C 0 dX7_marks_18 rfl rfl ?_
    refine g_X7_0 C kf_X7_7 dX7_marks_19 ?_
    refine z_iload_n C 1 dX7_marks_22 rfl rfl ?_
    obtain ⟨o1, h⟩ := h
    refine z_iald C ia_18 dX7_marks_23 o1.1 o1.2 ?_
    obtain ⟨o2, h⟩ := h
    obtain ⟨o3, h⟩ := h
    refine z_icmp_ge C 53 dX7_marks_24 (by decide) o2 o3 (fun c4 => ?_) (fun c4 => ?_)
    · have h := h.1 c4
      refine z_lload_n C 2 dX7_marks_53 rfl rfl ?_
      exact z_lret C E dX7_marks_54 ⟨_, rfl, h⟩
    · have h := h.2 c4
      refine z_ldc2 (z := 16) C kl_X7_85 rfl dX7_marks_27 ?_
      refine z_lload_n C 2 dX7_marks_30 rfl rfl ?_
      refine z_lmul C dX7_marks_31 ?_
      refine z_aload_n C 0 dX7_marks_32 rfl rfl ?_
      refine g_X7_2 C kf_X7_16 dX7_marks_33 ?_
      refine z_bipush C dX7_marks_36 rfl ?_
      refine z_iload_n C 1 dX7_marks_38 rfl rfl ?_
      refine z_imul C dX7_marks_39 ?_
      refine z_iload C 3 dX7_marks_40 rfl ?_
      refine z_iadd C dX7_marks_42 ?_
      obtain ⟨o5, h⟩ := h
      refine z_iald C ia_20 dX7_marks_43 o5.1 o5.2 ?_
      obtain ⟨o6, h⟩ := h
      refine z_i2l C dX7_marks_44 o6 ?_
      refine z_ladd C dX7_marks_45 ?_
      refine z_lstore_n C [(2, .long (zJ ((16 * v2) + (σ 20 ((12 * v1) + v4).toNat)))), (0, za x (17)), (1, .int (zI (v1))), (4, .int (zI (v4)))] dX7_marks_46 rfl (by rw [hN]; decide) rfl ?_
      refine z_iinc C 3 [(4, .int (zI (v4 + 1))), (2, .long (zJ ((16 * v2) + (σ 20 ((12 * v1) + v4).toNat)))), (0, za x (17)), (1, .int (zI (v1)))] dX7_marks_47 rfl (by rw [hN]; decide) rfl ?_
      refine z_goto C 16 dX7_marks_50 (by decide) ?_
      refine z_sub C [2, 3, 1, 0] [(0, za x (17)), (1, .int (zI (v1))), (2, .long (zJ ((16 * v2) + (σ 20 ((12 * v1) + v4).toNat)))), (4, .int (zI (v4 + 1)))] rfl ?_
      exact ih v1 ((16 * v2) + (σ 20 ((12 * v1) + v4).toNat)) (v4 + 1)  σ h
def wX7_marks (v1 : Int) (σ : Hp) (k : Int → Hp → Prop) : Prop :=
  wX7_isRow v1 σ (fun a2 σ1 => zrg a2 ∧ ((a2 ≠ 0 → (∃ N5, wX7_marks_16 k N5 v1 0 0 σ1)) ∧ (¬ (a2 ≠ 0) → k ((-1)) σ1)))
set_option maxRecDepth 100000 in
theorem mX7_marks (v1 : Int) (σ : Hp) (k : Int → Hp → Prop) (h : wX7_marks v1 σ k) (l : Launch) : zMt l yX7_marks cX7_marks 5 (some .long) { frames := 2, cells := 0, slots := 0, locals := 45 } (fun w => [.ref (w.2.1 (17)), .int (zI (v1))]) σ (zPl k) := by
  refine zMt_of (plainFor_of_name (by decide)) (fun w => Nat.le_of_ble_eq_true rfl) (fun x hl hN C E => ?_)
  change zV x σ 0 [(0, za x (17)), (1, .int (zI (v1)))] []
  change zOk x cX7_marks RX7 (some .long) (2) (45) at C
  unfold wX7_marks at h
  refine z_iload_n C 1 dX7_marks_0 rfl rfl ?_
  refine z_callS (av := fun w => [.int (zI (v1))]) C [] cs_X7_isRow (mX7_isRow v1  σ _ h) km_X7_50 dX7_marks_1 rfl rfl ⟨rfl, rfl⟩ ⟨by decide, by decide⟩ (Nat.le_of_ble_eq_true rfl) (fun rv σ1 hp => ?_)
  obtain ⟨a2, rfl, h⟩ := hp
  change zV x σ1 4 [(0, za x (17)), (1, .int (zI (v1)))] [.int (zI (a2))]
  obtain ⟨o3, h⟩ := h
  refine z_if_ne C 11 dX7_marks_4 (by decide) o3 (fun c4 => ?_) (fun c4 => ?_)
  · have h := h.1 c4
    refine z_lconst (z := 0) C dX7_marks_11 rfl ?_
    refine z_lstore_n C [(2, .long (zJ (0))), (0, za x (17)), (1, .int (zI (v1)))] dX7_marks_12 rfl (by rw [hN]; decide) rfl ?_
    refine z_iconst C dX7_marks_13 ?_
    refine z_istore C [(4, .int (zI (0))), (2, .long (zJ (0))), (0, za x (17)), (1, .int (zI (v1)))] dX7_marks_14 (by rw [hN]; decide) rfl ?_
    refine z_sub C [2, 3, 1, 0] [(0, za x (17)), (1, .int (zI (v1))), (2, .long (zJ (0))), (4, .int (zI (0)))] rfl ?_
    obtain ⟨n5, h⟩ := h
    exact sX7_marks_16 C hN E n5 v1 0 0  σ1 h
  · have h := h.2 c4
    refine z_ldc2 (z := -1) C kl_X7_83 rfl dX7_marks_7 ?_
    exact z_lret C E dX7_marks_10 ⟨_, rfl, h⟩
def wX7_most_110 (k : Int → Hp → Prop) (K56 : Int → Int → Int → Int → Int → Int → Int → Int → Int → Hp → Prop) (v1 : Int) (v2 : Int) (v3 : Int) (v4 : Int) (v5 : Int) (v6 : Int) (v8 : Int) (v9 : Int) (v10 : Int) (t0 : Int) (t1 : Int) (σ : Hp) : Prop :=
  zrg v10 ∧ zrg v4 ∧ ((v10 ≤ v4 → K56 v1 v2 v3 v4 v5 v6 (t1 + t0) v8 (v9 + 1) σ) ∧ (¬ (v10 ≤ v4) → K56 v1 v2 v3 v10 v8 v9 (t1 + t0) v8 (v9 + 1) σ))
set_option maxRecDepth 100000 in
theorem sX7_most_110 {x : Cx} (C : zOk x cX7_most RX7 (some .int) (3) (74)) (hN : x.2.2.2.2.1 = 11) {k : Int → Hp → Prop} (E : zEnd x (zPi k x.2.1)) {K56 : Int → Int → Int → Int → Int → Int → Int → Int → Int → Hp → Prop} (H56 : ∀ (v1 : Int) (v2 : Int) (v3 : Int) (v4 : Int) (v5 : Int) (v6 : Int) (v7 : Int) (v8 : Int) (v9 : Int) (σ : Hp), K56 v1 v2 v3 v4 v5 v6 v7 v8 v9 σ → zV x σ 56 [(0, za x (17)), (1, .int (zI (v1))), (2, .int (zI (v2))), (3, .int (zI (v3))), (4, .int (zI (v4))), (5, .int (zI (v5))), (6, .int (zI (v6))), (7, .int (zI (v7))), (8, .int (zI (v8))), (9, .int (zI (v9)))] []) (v1 : Int) (v2 : Int) (v3 : Int) (v4 : Int) (v5 : Int) (v6 : Int) (v8 : Int) (v9 : Int) (v10 : Int) (t0 : Int) (t1 : Int) (σ : Hp) (h : wX7_most_110 k K56 v1 v2 v3 v4 v5 v6 v8 v9 v10 t0 t1 σ) : zV x σ 110 [(0, za x (17)), (1, .int (zI (v1))), (2, .int (zI (v2))), (3, .int (zI (v3))), (4, .int (zI (v4))), (5, .int (zI (v5))), (6, .int (zI (v6))), (8, .int (zI (v8))), (9, .int (zI (v9))), (10, .int (zI (v10)))] [.int (zI (t0)), .int (zI (t1))] := by
  unfold wX7_most_110 at h
  refine z_iadd C dX7_most_110 ?_
  refine z_istore C [(7, .int (zI (t1 + t0))), (0, za x (17)), (1, .int (zI (v1))), (2, .int (zI (v2))), (3, .int (zI (v3))), (4, .int (zI (v4))), (5, .int (zI (v5))), (6, .int (zI (v6))), (8, .int (zI (v8))), (9, .int (zI (v9))), (10, .int (zI (v10)))] dX7_most_111 (by rw [hN]; decide) rfl ?_
  refine z_iload C 10 dX7_most_113 rfl ?_
  refine z_iload C 5 dX7_most_115 rfl ?_
  obtain ⟨o1, h⟩ := h
  obtain ⟨o2, h⟩ := h
  refine z_icmp_le C 132 dX7_most_117 (by decide) o1 o2 (fun c3 => ?_) (fun c3 => ?_)
  · have h := h.1 c3
    refine z_iinc C 9 [(9, .int (zI (v9 + 1))), (7, .int (zI (t1 + t0))), (0, za x (17)), (1, .int (zI (v1))), (2, .int (zI (v2))), (3, .int (zI (v3))), (4, .int (zI (v4))), (5, .int (zI (v5))), (6, .int (zI (v6))), (8, .int (zI (v8))), (10, .int (zI (v10)))] dX7_most_132 rfl (by rw [hN]; decide) rfl ?_
    refine z_goto C 56 dX7_most_135 (by decide) ?_
    refine z_sub C [2, 3, 4, 5, 6, 7, 8, 1, 9, 0] [(0, za x (17)), (1, .int (zI (v1))), (2, .int (zI (v2))), (3, .int (zI (v3))), (4, .int (zI (v4))), (5, .int (zI (v5))), (6, .int (zI (v6))), (7, .int (zI (t1 + t0))), (8, .int (zI (v8))), (9, .int (zI (v9 + 1)))] rfl ?_
    exact H56 v1 v2 v3 v4 v5 v6 (t1 + t0) v8 (v9 + 1)  σ h
  · have h := h.2 c3
    refine z_iload C 10 dX7_most_120 rfl ?_
    refine z_istore C [(4, .int (zI (v10))), (7, .int (zI (t1 + t0))), (0, za x (17)), (1, .int (zI (v1))), (2, .int (zI (v2))), (3, .int (zI (v3))), (5, .int (zI (v5))), (6, .int (zI (v6))), (8, .int (zI (v8))), (9, .int (zI (v9))), (10, .int (zI (v10)))] dX7_most_122 (by rw [hN]; decide) rfl ?_
    refine z_iload C 8 dX7_most_124 rfl ?_
    refine z_istore C [(5, .int (zI (v8))), (4, .int (zI (v10))), (7, .int (zI (t1 + t0))), (0, za x (17)), (1, .int (zI (v1))), (2, .int (zI (v2))), (3, .int (zI (v3))), (6, .int (zI (v6))), (8, .int (zI (v8))), (9, .int (zI (v9))), (10, .int (zI (v10)))] dX7_most_126 (by rw [hN]; decide) rfl ?_
    refine z_iload C 9 dX7_most_128 rfl ?_
    refine z_istore C [(6, .int (zI (v9))), (5, .int (zI (v8))), (4, .int (zI (v10))), (7, .int (zI (t1 + t0))), (0, za x (17)), (1, .int (zI (v1))), (2, .int (zI (v2))), (3, .int (zI (v3))), (8, .int (zI (v8))), (9, .int (zI (v9))), (10, .int (zI (v10)))] dX7_most_130 (by rw [hN]; decide) rfl ?_
    refine z_iinc C 9 [(9, .int (zI (v9 + 1))), (6, .int (zI (v9))), (5, .int (zI (v8))), (4, .int (zI (v10))), (7, .int (zI (t1 + t0))), (0, za x (17)), (1, .int (zI (v1))), (2, .int (zI (v2))), (3, .int (zI (v3))), (8, .int (zI (v8))), (10, .int (zI (v10)))] dX7_most_132 rfl (by rw [hN]; decide) rfl ?_
    refine z_goto C 56 dX7_most_135 (by decide) ?_
    refine z_sub C [5, 6, 7, 8, 3, 2, 1, 4, 9, 0] [(0, za x (17)), (1, .int (zI (v1))), (2, .int (zI (v2))), (3, .int (zI (v3))), (4, .int (zI (v10))), (5, .int (zI (v8))), (6, .int (zI (v9))), (7, .int (zI (t1 + t0))), (8, .int (zI (v8))), (9, .int (zI (v9 + 1)))] rfl ?_
    exact H56 v1 v2 v3 v10 v8 v9 (t1 + t0) v8 (v9 + 1)  σ h
def wX7_most_82 (k : Int → Hp → Prop) (K92 : Int → Int → Int → Int → Int → Int → Int → Int → Int → Int → Hp → Prop) (v1 : Int) (v2 : Int) (v3 : Int) (v4 : Int) (v5 : Int) (v6 : Int) (v7 : Int) (v8 : Int) (v9 : Int) (σ : Hp) : Prop :=
  wX7_hitsOf v1 v2 v8 v9 σ (fun a2 σ1 => K92 v1 v2 v3 v4 v5 v6 v7 v8 v9 a2 σ1)
set_option maxRecDepth 100000 in
theorem sX7_most_82 {x : Cx} (C : zOk x cX7_most RX7 (some .int) (3) (74)) (hN : x.2.2.2.2.1 = 11) {k : Int → Hp → Prop} (E : zEnd x (zPi k x.2.1)) {K92 : Int → Int → Int → Int → Int → Int → Int → Int → Int → Int → Hp → Prop} (H92 : ∀ (v1 : Int) (v2 : Int) (v3 : Int) (v4 : Int) (v5 : Int) (v6 : Int) (v7 : Int) (v8 : Int) (v9 : Int) (t0 : Int) (σ : Hp), K92 v1 v2 v3 v4 v5 v6 v7 v8 v9 t0 σ → zV x σ 92 [(0, za x (17)), (1, .int (zI (v1))), (2, .int (zI (v2))), (3, .int (zI (v3))), (4, .int (zI (v4))), (5, .int (zI (v5))), (6, .int (zI (v6))), (7, .int (zI (v7))), (8, .int (zI (v8))), (9, .int (zI (v9)))] [.int (zI (t0))]) (v1 : Int) (v2 : Int) (v3 : Int) (v4 : Int) (v5 : Int) (v6 : Int) (v7 : Int) (v8 : Int) (v9 : Int) (σ : Hp) (h : wX7_most_82 k K92 v1 v2 v3 v4 v5 v6 v7 v8 v9 σ) : zV x σ 82 [(0, za x (17)), (1, .int (zI (v1))), (2, .int (zI (v2))), (3, .int (zI (v3))), (4, .int (zI (v4))), (5, .int (zI (v5))), (6, .int (zI (v6))), (7, .int (zI (v7))), (8, .int (zI (v8))), (9, .int (zI (v9)))] [] := by
  unfold wX7_most_82 at h
  refine z_aload_n C 0 dX7_most_82 rfl rfl ?_
  refine z_iload_n C 1 dX7_most_83 rfl rfl ?_
  refine z_iload_n C 2 dX7_most_84 rfl rfl ?_
  refine z_iload C 8 dX7_most_85 rfl ?_
  refine z_iload C 9 dX7_most_87 rfl ?_
  refine z_callV (av := fun w => [.int (zI (v1)), .int (zI (v2)), .int (zI (v8)), .int (zI (v9))]) C [] cs_X7_hitsOf (by decide) (fun _ _ => rfl) rfl (mX7_hitsOf v1 v2 v8 v9  σ _ h) km_X7_104 dX7_most_89 rfl rfl ⟨rfl, rfl⟩ ⟨by decide, by decide⟩ (Nat.le_of_ble_eq_true rfl) (fun rv σ1 hp => ?_)
  obtain ⟨a2, rfl, h⟩ := hp
  change zV x σ1 92 [(0, za x (17)), (1, .int (zI (v1))), (2, .int (zI (v2))), (3, .int (zI (v3))), (4, .int (zI (v4))), (5, .int (zI (v5))), (6, .int (zI (v6))), (7, .int (zI (v7))), (8, .int (zI (v8))), (9, .int (zI (v9)))] [.int (zI (a2))]
  exact H92 v1 v2 v3 v4 v5 v6 v7 v8 v9 a2  σ1 h
def wX7_most_92 (k : Int → Hp → Prop) (K56 : Int → Int → Int → Int → Int → Int → Int → Int → Int → Hp → Prop) (v1 : Int) (v2 : Int) (v3 : Int) (v4 : Int) (v5 : Int) (v6 : Int) (v7 : Int) (v8 : Int) (v9 : Int) (t0 : Int) (σ : Hp) : Prop :=
  zrg t0 ∧ ((0 ≤ t0 → wX7_most_110 k K56 v1 v2 v3 v4 v5 v6 v8 v9 t0 (t0 * t0) v7 σ) ∧ (¬ (0 ≤ t0) → wX7_most_110 k K56 v1 v2 v3 v4 v5 v6 v8 v9 t0 0 v7 σ))
set_option maxRecDepth 100000 in
theorem sX7_most_92 {x : Cx} (C : zOk x cX7_most RX7 (some .int) (3) (74)) (hN : x.2.2.2.2.1 = 11) {k : Int → Hp → Prop} (E : zEnd x (zPi k x.2.1)) {K56 : Int → Int → Int → Int → Int → Int → Int → Int → Int → Hp → Prop} (H56 : ∀ (v1 : Int) (v2 : Int) (v3 : Int) (v4 : Int) (v5 : Int) (v6 : Int) (v7 : Int) (v8 : Int) (v9 : Int) (σ : Hp), K56 v1 v2 v3 v4 v5 v6 v7 v8 v9 σ → zV x σ 56 [(0, za x (17)), (1, .int (zI (v1))), (2, .int (zI (v2))), (3, .int (zI (v3))), (4, .int (zI (v4))), (5, .int (zI (v5))), (6, .int (zI (v6))), (7, .int (zI (v7))), (8, .int (zI (v8))), (9, .int (zI (v9)))] []) (v1 : Int) (v2 : Int) (v3 : Int) (v4 : Int) (v5 : Int) (v6 : Int) (v7 : Int) (v8 : Int) (v9 : Int) (t0 : Int) (σ : Hp) (h : wX7_most_92 k K56 v1 v2 v3 v4 v5 v6 v7 v8 v9 t0 σ) : zV x σ 92 [(0, za x (17)), (1, .int (zI (v1))), (2, .int (zI (v2))), (3, .int (zI (v3))), (4, .int (zI (v4))), (5, .int (zI (v5))), (6, .int (zI (v6))), (7, .int (zI (v7))), (8, .int (zI (v8))), (9, .int (zI (v9)))] [.int (zI (t0))] := by
  unfold wX7_most_92 at h
  refine z_istore C [(10, .int (zI (t0))), (0, za x (17)), (1, .int (zI (v1))), (2, .int (zI (v2))), (3, .int (zI (v3))), (4, .int (zI (v4))), (5, .int (zI (v5))), (6, .int (zI (v6))), (7, .int (zI (v7))), (8, .int (zI (v8))), (9, .int (zI (v9)))] dX7_most_92 (by rw [hN]; decide) rfl ?_
  refine z_iload C 8 dX7_most_94 rfl ?_
  refine z_iload C 0 dX7_most_96 rfl ?_
  obtain ⟨o1, h⟩ := h
  refine z_if_ge C 105 dX7_most_98 (by decide) o1 (fun c2 => ?_) (fun c2 => ?_)
  · have h := h.1 c2
    refine z_iload C 0 dX7_most_105 rfl ?_
    refine z_iload C 0 dX7_most_107 rfl ?_
    refine z_imul C dX7_most_109 ?_
    refine z_sub C [1, 2, 3, 4, 5, 6, 7, 9, 10, 0] [(0, za x (17)), (1, .int (zI (v1))), (2, .int (zI (v2))), (3, .int (zI (v3))), (4, .int (zI (v4))), (5, .int (zI (v5))), (6, .int (zI (v6))), (8, .int (zI (v8))), (9, .int (zI (v9))), (10, .int (zI (t0)))] rfl ?_
    exact sX7_most_110 C hN E H56 v1 v2 v3 v4 v5 v6 v8 v9 t0 (t0 * t0) v7  σ h
  · have h := h.2 c2
    refine z_iconst C dX7_most_101 ?_
    refine z_goto C 110 dX7_most_102 (by decide) ?_
    refine z_sub C [1, 2, 3, 4, 5, 6, 7, 9, 10, 0] [(0, za x (17)), (1, .int (zI (v1))), (2, .int (zI (v2))), (3, .int (zI (v3))), (4, .int (zI (v4))), (5, .int (zI (v5))), (6, .int (zI (v6))), (8, .int (zI (v8))), (9, .int (zI (v9))), (10, .int (zI (t0)))] rfl ?_
    exact sX7_most_110 C hN E H56 v1 v2 v3 v4 v5 v6 v8 v9 t0 0 v7  σ h
def wX7_most_56 (k : Int → Hp → Prop) (K45 : Int → Int → Int → Int → Int → Int → Int → Int → Hp → Prop) : Nat → Int → Int → Int → Int → Int → Int → Int → Int → Int → Hp → Prop
  | 0, _, _, _, _, _, _, _, _, _, _ => False
  | n + 1, v1, v2, v3, v4, v5, v6, v7, v8, v9, σ => zrg v9 ∧ ((12 < v9 → K45 v1 v2 v3 v4 v5 v6 v7 (v8 + 1) σ) ∧ (¬ (12 < v9) → zrg v1 ∧ zrg v2 ∧ ((v1 ≠ v2 → wX7_most_82 k (fun v1 v2 v3 v4 v5 v6 v7 v8 v9 t0 σ => wX7_most_92 k (fun v1 v2 v3 v4 v5 v6 v7 v8 v9 σ => wX7_most_56 k K45 n v1 v2 v3 v4 v5 v6 v7 v8 v9 σ) v1 v2 v3 v4 v5 v6 v7 v8 v9 t0 σ) v1 v2 v3 v4 v5 v6 v7 v8 v9 σ) ∧ (¬ (v1 ≠ v2) → zrg v8 ∧ ((v8 ≠ 0 → wX7_most_82 k (fun v1 v2 v3 v4 v5 v6 v7 v8 v9 t0 σ => wX7_most_92 k (fun v1 v2 v3 v4 v5 v6 v7 v8 v9 σ => wX7_most_56 k K45 n v1 v2 v3 v4 v5 v6 v7 v8 v9 σ) v1 v2 v3 v4 v5 v6 v7 v8 v9 t0 σ) v1 v2 v3 v4 v5 v6 v7 v8 v9 σ) ∧ (¬ (v8 ≠ 0) → ((v9 ≠ 0 → wX7_most_82 k (fun v1 v2 v3 v4 v5 v6 v7 v8 v9 t0 σ => wX7_most_92 k (fun v1 v2 v3 v4 v5 v6 v7 v8 v9 σ => wX7_most_56 k K45 n v1 v2 v3 v4 v5 v6 v7 v8 v9 σ) v1 v2 v3 v4 v5 v6 v7 v8 v9 t0 σ) v1 v2 v3 v4 v5 v6 v7 v8 v9 σ) ∧ (¬ (v9 ≠ 0) → wX7_most_92 k (fun v1 v2 v3 v4 v5 v6 v7 v8 v9 σ => wX7_most_56 k K45 n v1 v2 v3 v4 v5 v6 v7 v8 v9 σ) v1 v2 v3 v4 v5 v6 v7 v8 v9 ((-1)) σ))))))))
set_option maxRecDepth 100000 in
theorem sX7_most_56 {x : Cx} (C : zOk x cX7_most RX7 (some .int) (3) (74)) (hN : x.2.2.2.2.1 = 11) {k : Int → Hp → Prop} (E : zEnd x (zPi k x.2.1)) {K45 : Int → Int → Int → Int → Int → Int → Int → Int → Hp → Prop} (H45 : ∀ (v1 : Int) (v2 : Int) (v3 : Int) (v4 : Int) (v5 : Int) (v6 : Int) (v7 : Int) (v8 : Int) (σ : Hp), K45 v1 v2 v3 v4 v5 v6 v7 v8 σ → zV x σ 45 [(0, za x (17)), (1, .int (zI (v1))), (2, .int (zI (v2))), (3, .int (zI (v3))), (4, .int (zI (v4))), (5, .int (zI (v5))), (6, .int (zI (v6))), (7, .int (zI (v7))), (8, .int (zI (v8)))] []) : ∀ (n : Nat) (v1 : Int) (v2 : Int) (v3 : Int) (v4 : Int) (v5 : Int) (v6 : Int) (v7 : Int) (v8 : Int) (v9 : Int) (σ : Hp), wX7_most_56 k K45 n v1 v2 v3 v4 v5 v6 v7 v8 v9 σ → zV x σ 56 [(0, za x (17)), (1, .int (zI (v1))), (2, .int (zI (v2))), (3, .int (zI (v3))), (4, .int (zI (v4))), (5, .int (zI (v5))), (6, .int (zI (v6))), (7, .int (zI (v7))), (8, .int (zI (v8))), (9, .int (zI (v9)))] [] := by
  intro n
  induction n with
  | zero => intro _ _ _ _ _ _ _ _ _ _ h; exact h.elim
  | succ n ih =>
    intro v1 v2 v3 v4 v5 v6 v7 v8 v9 σ h
    unfold wX7_most_56 at h
    refine z_iload C 9 dX7_most_56 rfl ?_
    refine z_bipush C dX7_most_58 rfl ?_
    obtain ⟨o1, h⟩ := h
    refine z_icmp_gt C 138 dX7_most_60 (by decide) o1 (zrg_d rfl) (fun c2 => ?_) (fun c2 => ?_)
    · have h := h.1 c2
      refine z_iinc C 8 [(8, .int (zI (v8 + 1))), (0, za x (17)), (1, .int (zI (v1))), (2, .int (zI (v2))), (3, .int (zI (v3))), (4, .int (zI (v4))), (5, .int (zI (v5))), (6, .int (zI (v6))), (7, .int (zI (v7))), (9, .int (zI (v9)))] dX7_most_138 rfl (by rw [hN]; decide) rfl ?_
      refine z_goto C 45 dX7_most_141 (by decide) ?_
      refine z_sub C [1, 2, 3, 4, 5, 6, 7, 8, 0] [(0, za x (17)), (1, .int (zI (v1))), (2, .int (zI (v2))), (3, .int (zI (v3))), (4, .int (zI (v4))), (5, .int (zI (v5))), (6, .int (zI (v6))), (7, .int (zI (v7))), (8, .int (zI (v8 + 1)))] rfl ?_
      exact H45 v1 v2 v3 v4 v5 v6 v7 (v8 + 1)  σ h
    · have h := h.2 c2
      refine z_iload_n C 1 dX7_most_63 rfl rfl ?_
      refine z_iload_n C 2 dX7_most_64 rfl rfl ?_
      obtain ⟨o3, h⟩ := h
      obtain ⟨o4, h⟩ := h
      refine z_icmp_ne C 82 dX7_most_65 (by decide) o3 o4 (fun c5 => ?_) (fun c5 => ?_)
      · have h := h.1 c5
        exact sX7_most_82 C hN E (by intro v1 v2 v3 v4 v5 v6 v7 v8 v9 t0 σ h; exact sX7_most_92 C hN E (by intro v1 v2 v3 v4 v5 v6 v7 v8 v9 σ h; exact ih v1 v2 v3 v4 v5 v6 v7 v8 v9  σ h) v1 v2 v3 v4 v5 v6 v7 v8 v9 t0  σ h) v1 v2 v3 v4 v5 v6 v7 v8 v9  σ h
      · have h := h.2 c5
        refine z_iload C 8 dX7_most_68 rfl ?_
        obtain ⟨o6, h⟩ := h
        refine z_if_ne C 82 dX7_most_70 (by decide) o6 (fun c7 => ?_) (fun c7 => ?_)
        · have h := h.1 c7
          exact sX7_most_82 C hN E (by intro v1 v2 v3 v4 v5 v6 v7 v8 v9 t0 σ h; exact sX7_most_92 C hN E (by intro v1 v2 v3 v4 v5 v6 v7 v8 v9 σ h; exact ih v1 v2 v3 v4 v5 v6 v7 v8 v9  σ h) v1 v2 v3 v4 v5 v6 v7 v8 v9 t0  σ h) v1 v2 v3 v4 v5 v6 v7 v8 v9  σ h
        · have h := h.2 c7
          refine z_iload C 9 dX7_most_73 rfl ?_
          refine z_if_ne C 82 dX7_most_75 (by decide) o1 (fun c8 => ?_) (fun c8 => ?_)
          · have h := h.1 c8
            exact sX7_most_82 C hN E (by intro v1 v2 v3 v4 v5 v6 v7 v8 v9 t0 σ h; exact sX7_most_92 C hN E (by intro v1 v2 v3 v4 v5 v6 v7 v8 v9 σ h; exact ih v1 v2 v3 v4 v5 v6 v7 v8 v9  σ h) v1 v2 v3 v4 v5 v6 v7 v8 v9 t0  σ h) v1 v2 v3 v4 v5 v6 v7 v8 v9  σ h
          · have h := h.2 c8
            refine z_iconst C dX7_most_78 ?_
            refine z_goto C 92 dX7_most_79 (by decide) ?_
            exact sX7_most_92 C hN E (by intro v1 v2 v3 v4 v5 v6 v7 v8 v9 σ h; exact ih v1 v2 v3 v4 v5 v6 v7 v8 v9  σ h) v1 v2 v3 v4 v5 v6 v7 v8 v9 ((-1))  σ h
def wX7_most_45 (k : Int → Hp → Prop) : Nat → Int → Int → Int → Int → Int → Int → Int → Int → Hp → Prop
  | 0, _, _, _, _, _, _, _, _, _ => False
  | n + 1, v1, v2, v3, v4, v5, v6, v7, v8, σ => zrg v8 ∧ ((12 < v8 → zrg v3 ∧ ((v3 ≠ 0 → ((v3 ≠ 1 → ((v3 ≠ 2 → k v7 σ) ∧ (¬ (v3 ≠ 2) → k v6 σ))) ∧ (¬ (v3 ≠ 1) → k v5 σ))) ∧ (¬ (v3 ≠ 0) → k v4 σ))) ∧ (¬ (12 < v8) → (∃ N7, wX7_most_56 k (fun v1 v2 v3 v4 v5 v6 v7 v8 σ => wX7_most_45 k n v1 v2 v3 v4 v5 v6 v7 v8 σ) N7 v1 v2 v3 v4 v5 v6 v7 v8 ((-12)) σ)))
set_option maxRecDepth 100000 in
theorem sX7_most_45 {x : Cx} (C : zOk x cX7_most RX7 (some .int) (3) (74)) (hN : x.2.2.2.2.1 = 11) {k : Int → Hp → Prop} (E : zEnd x (zPi k x.2.1)) : ∀ (n : Nat) (v1 : Int) (v2 : Int) (v3 : Int) (v4 : Int) (v5 : Int) (v6 : Int) (v7 : Int) (v8 : Int) (σ : Hp), wX7_most_45 k n v1 v2 v3 v4 v5 v6 v7 v8 σ → zV x σ 45 [(0, za x (17)), (1, .int (zI (v1))), (2, .int (zI (v2))), (3, .int (zI (v3))), (4, .int (zI (v4))), (5, .int (zI (v5))), (6, .int (zI (v6))), (7, .int (zI (v7))), (8, .int (zI (v8)))] [] := by
  intro n
  induction n with
  | zero => intro _ _ _ _ _ _ _ _ _ h; exact h.elim
  | succ n ih =>
    intro v1 v2 v3 v4 v5 v6 v7 v8 σ h
    unfold wX7_most_45 at h
    refine z_iload C 8 dX7_most_45 rfl ?_
    refine z_bipush C dX7_most_47 rfl ?_
    obtain ⟨o1, h⟩ := h
    refine z_icmp_gt C 144 dX7_most_49 (by decide) o1 (zrg_d rfl) (fun c2 => ?_) (fun c2 => ?_)
    · have h := h.1 c2
      refine z_iload_n C 3 dX7_most_144 rfl rfl ?_
      obtain ⟨o3, h⟩ := h
      refine z_if_ne C 153 dX7_most_145 (by decide) o3 (fun c4 => ?_) (fun c4 => ?_)
      · have h := h.1 c4
        refine z_iload_n C 3 dX7_most_153 rfl rfl ?_
        refine z_iconst C dX7_most_154 ?_
        refine z_icmp_ne C 163 dX7_most_155 (by decide) o3 (zrg_d rfl) (fun c5 => ?_) (fun c5 => ?_)
        · have h := h.1 c5
          refine z_iload_n C 3 dX7_most_163 rfl rfl ?_
          refine z_iconst C dX7_most_164 ?_
          refine z_icmp_ne C 173 dX7_most_165 (by decide) o3 (zrg_d rfl) (fun c6 => ?_) (fun c6 => ?_)
          · have h := h.1 c6
            refine z_iload C 7 dX7_most_173 rfl ?_
            exact z_iret C E dX7_most_175 ⟨_, rfl, h⟩
          · have h := h.2 c6
            refine z_iload C 6 dX7_most_168 rfl ?_
            refine z_goto C 175 dX7_most_170 (by decide) ?_
            exact z_iret C E dX7_most_175 ⟨_, rfl, h⟩
        · have h := h.2 c5
          refine z_iload C 5 dX7_most_158 rfl ?_
          refine z_goto C 175 dX7_most_160 (by decide) ?_
          exact z_iret C E dX7_most_175 ⟨_, rfl, h⟩
      · have h := h.2 c4
        refine z_iload C 4 dX7_most_148 rfl ?_
        refine z_goto C 175 dX7_most_150 (by decide) ?_
        exact z_iret C E dX7_most_175 ⟨_, rfl, h⟩
    · have h := h.2 c2
      refine z_bipush C dX7_most_52 rfl ?_
      refine z_istore C [(9, .int (zI ((-12)))), (0, za x (17)), (1, .int (zI (v1))), (2, .int (zI (v2))), (3, .int (zI (v3))), (4, .int (zI (v4))), (5, .int (zI (v5))), (6, .int (zI (v6))), (7, .int (zI (v7))), (8, .int (zI (v8)))] dX7_most_54 (by rw [hN]; decide) rfl ?_
      refine z_sub C [1, 2, 3, 4, 5, 6, 7, 8, 9, 0] [(0, za x (17)), (1, .int (zI (v1))), (2, .int (zI (v2))), (3, .int (zI (v3))), (4, .int (zI (v4))), (5, .int (zI (v5))), (6, .int (zI (v6))), (7, .int (zI (v7))), (8, .int (zI (v8))), (9, .int (zI ((-12))))] rfl ?_
      obtain ⟨n7, h⟩ := h
      exact sX7_most_56 C hN E (by intro v1 v2 v3 v4 v5 v6 v7 v8 σ h; exact ih v1 v2 v3 v4 v5 v6 v7 v8  σ h) n7 v1 v2 v3 v4 v5 v6 v7 v8 ((-12))  σ h
def wX7_most (v1 : Int) (v2 : Int) (v3 : Int) (σ : Hp) (k : Int → Hp → Prop) : Prop :=
  wX7_isRow v1 σ (fun a2 σ1 => zrg a2 ∧ ((a2 = 0 → k ((-100)) σ1) ∧ (¬ (a2 = 0) → wX7_isRow v2 σ1 (fun a6 σ5 => zrg a6 ∧ ((a6 = 0 → k ((-100)) σ5) ∧ (¬ (a6 = 0) → zrg v3 ∧ wX7_in v3 0 3 σ5 (fun a11 σ10 => zrg a11 ∧ ((a11 ≠ 0 → (∃ N14, wX7_most_45 k N14 v1 v2 v3 ((-1)) 0 0 0 ((-12)) σ10)) ∧ (¬ (a11 ≠ 0) → k ((-100)) σ10)))))))))
set_option maxRecDepth 100000 in
theorem mX7_most (v1 : Int) (v2 : Int) (v3 : Int) (σ : Hp) (k : Int → Hp → Prop) (h : wX7_most v1 v2 v3 σ k) (l : Launch) : zMt l yX7_most cX7_most 11 (some .int) { frames := 3, cells := 0, slots := 0, locals := 74 } (fun w => [.ref (w.2.1 (17)), .int (zI (v1)), .int (zI (v2)), .int (zI (v3))]) σ (zPi k) := by
  refine zMt_of (plainFor_of_name (by decide)) (fun w => Nat.le_of_ble_eq_true rfl) (fun x hl hN C E => ?_)
  change zV x σ 0 [(0, za x (17)), (1, .int (zI (v1))), (2, .int (zI (v2))), (3, .int (zI (v3)))] []
  change zOk x cX7_most RX7 (some .int) (3) (74) at C
  unfold wX7_most at h
  refine z_iload_n C 1 dX7_most_0 rfl rfl ?_
  refine z_callS (av := fun w => [.int (zI (v1))]) C [] cs_X7_isRow (mX7_isRow v1  σ _ h) km_X7_50 dX7_most_1 rfl rfl ⟨rfl, rfl⟩ ⟨by decide, by decide⟩ (Nat.le_of_ble_eq_true rfl) (fun rv σ1 hp => ?_)
  obtain ⟨a2, rfl, h⟩ := hp
  change zV x σ1 4 [(0, za x (17)), (1, .int (zI (v1))), (2, .int (zI (v2))), (3, .int (zI (v3)))] [.int (zI (a2))]
  obtain ⟨o3, h⟩ := h
  refine z_if_eq C 26 dX7_most_4 (by decide) o3 (fun c4 => ?_) (fun c4 => ?_)
  · have h := h.1 c4
    refine z_bipush C dX7_most_26 rfl ?_
    exact z_iret C E dX7_most_28 ⟨_, rfl, h⟩
  · have h := h.2 c4
    refine z_iload_n C 2 dX7_most_7 rfl rfl ?_
    refine z_callS (av := fun w => [.int (zI (v2))]) C [] cs_X7_isRow (mX7_isRow v2  σ1 _ h) km_X7_50 dX7_most_8 rfl rfl ⟨rfl, rfl⟩ ⟨by decide, by decide⟩ (Nat.le_of_ble_eq_true rfl) (fun rv σ5 hp => ?_)
    obtain ⟨a6, rfl, h⟩ := hp
    change zV x σ5 11 [(0, za x (17)), (1, .int (zI (v1))), (2, .int (zI (v2))), (3, .int (zI (v3)))] [.int (zI (a6))]
    obtain ⟨o7, h⟩ := h
    refine z_if_eq C 26 dX7_most_11 (by decide) o7 (fun c8 => ?_) (fun c8 => ?_)
    · have h := h.1 c8
      refine z_bipush C dX7_most_26 rfl ?_
      exact z_iret C E dX7_most_28 ⟨_, rfl, h⟩
    · have h := h.2 c8
      refine z_iload_n C 3 dX7_most_14 rfl rfl ?_
      obtain ⟨o9, h⟩ := h
      refine z_i2l C dX7_most_15 o9 ?_
      refine z_lconst (z := 0) C dX7_most_16 rfl ?_
      refine z_ldc2 (z := 3) C kl_X7_107 rfl dX7_most_17 ?_
      refine z_callS (av := fun w => [.long (zJ (v3)), .long (zJ (0)), .long (zJ (3))]) C [] cs_X7_in (mX7_in v3 0 3  σ5 _ h) km_X7_46 dX7_most_20 rfl rfl ⟨rfl, rfl⟩ ⟨by decide, by decide⟩ (Nat.le_of_ble_eq_true rfl) (fun rv σ10 hp => ?_)
      obtain ⟨a11, rfl, h⟩ := hp
      change zV x σ10 23 [(0, za x (17)), (1, .int (zI (v1))), (2, .int (zI (v2))), (3, .int (zI (v3)))] [.int (zI (a11))]
      obtain ⟨o12, h⟩ := h
      refine z_if_ne C 29 dX7_most_23 (by decide) o12 (fun c13 => ?_) (fun c13 => ?_)
      · have h := h.1 c13
        refine z_iconst C dX7_most_29 ?_
        refine z_istore C [(4, .int (zI ((-1)))), (0, za x (17)), (1, .int (zI (v1))), (2, .int (zI (v2))), (3, .int (zI (v3)))] dX7_most_30 (by rw [hN]; decide) rfl ?_
        refine z_iconst C dX7_most_32 ?_
        refine z_istore C [(5, .int (zI (0))), (4, .int (zI ((-1)))), (0, za x (17)), (1, .int (zI (v1))), (2, .int (zI (v2))), (3, .int (zI (v3)))] dX7_most_33 (by rw [hN]; decide) rfl ?_
        refine z_iconst C dX7_most_35 ?_
        refine z_istore C [(6, .int (zI (0))), (5, .int (zI (0))), (4, .int (zI ((-1)))), (0, za x (17)), (1, .int (zI (v1))), (2, .int (zI (v2))), (3, .int (zI (v3)))] dX7_most_36 (by rw [hN]; decide) rfl ?_
        refine z_iconst C dX7_most_38 ?_
        refine z_istore C [(7, .int (zI (0))), (6, .int (zI (0))), (5, .int (zI (0))), (4, .int (zI ((-1)))), (0, za x (17)), (1, .int (zI (v1))), (2, .int (zI (v2))), (3, .int (zI (v3)))] dX7_most_39 (by rw [hN]; decide) rfl ?_
        refine z_bipush C dX7_most_41 rfl ?_
        refine z_istore C [(8, .int (zI ((-12)))), (7, .int (zI (0))), (6, .int (zI (0))), (5, .int (zI (0))), (4, .int (zI ((-1)))), (0, za x (17)), (1, .int (zI (v1))), (2, .int (zI (v2))), (3, .int (zI (v3)))] dX7_most_43 (by rw [hN]; decide) rfl ?_
        refine z_sub C [5, 6, 7, 8, 4, 3, 2, 1, 0] [(0, za x (17)), (1, .int (zI (v1))), (2, .int (zI (v2))), (3, .int (zI (v3))), (4, .int (zI ((-1)))), (5, .int (zI (0))), (6, .int (zI (0))), (7, .int (zI (0))), (8, .int (zI ((-12))))] rfl ?_
        obtain ⟨n14, h⟩ := h
        exact sX7_most_45 C hN E n14 v1 v2 v3 ((-1)) 0 0 0 ((-12))  σ10 h
      · have h := h.2 c13
        refine z_bipush C dX7_most_26 rfl ?_
        exact z_iret C E dX7_most_28 ⟨_, rfl, h⟩
def wX7_quarrelsLaid_26 (k : Int → Hp → Prop) (K12 : Int → Int → Int → Int → Hp → Prop) : Nat → Int → Int → Int → Int → Int → Hp → Prop
  | 0, _, _, _, _, _, _ => False
  | n + 1, v1, v2, v3, v4, v5, σ => zrg (v5 + v3) ∧ zrg v1 ∧ ((v1 ≤ v5 + v3 → K12 v1 v2 v3 (v4 + 1) σ) ∧ (¬ (v1 ≤ v5 + v3) → (0 ≤ v4 + v3 ∧ v4 + v3 < 12) ∧ (0 ≤ v4 ∧ v4 < 12) ∧ (0 ≤ v5 + v3 ∧ v5 + v3 < 12) ∧ (0 ≤ v5 ∧ v5 < 12) ∧ zrg ((σ 24 (v4 + v3).toNat) - (σ 24 v4.toNat)) ∧ zrg ((σ 24 (v5 + v3).toNat) - (σ 24 v5.toNat)) ∧ (((σ 24 (v4 + v3).toNat) - (σ 24 v4.toNat) ≠ (σ 24 (v5 + v3).toNat) - (σ 24 v5.toNat) → wX7_quarrelsLaid_26 k K12 n v1 (v2 + 0) v3 v4 (v5 + 1) σ) ∧ (¬ ((σ 24 (v4 + v3).toNat) - (σ 24 v4.toNat) ≠ (σ 24 (v5 + v3).toNat) - (σ 24 v5.toNat)) → wX7_quarrelsLaid_26 k K12 n v1 (v2 + 1) v3 v4 (v5 + 1) σ))))
set_option maxRecDepth 100000 in
theorem sX7_quarrelsLaid_26 {x : Cx} (C : zOk x cX7_quarrelsLaid RX7 (some .int) (0) (0)) (hN : x.2.2.2.2.1 = 6) {k : Int → Hp → Prop} (E : zEnd x (zPi k x.2.1)) {K12 : Int → Int → Int → Int → Hp → Prop} (H12 : ∀ (v1 : Int) (v2 : Int) (v3 : Int) (v4 : Int) (σ : Hp), K12 v1 v2 v3 v4 σ → zV x σ 12 [(0, za x (17)), (1, .int (zI (v1))), (2, .int (zI (v2))), (3, .int (zI (v3))), (4, .int (zI (v4)))] []) : ∀ (n : Nat) (v1 : Int) (v2 : Int) (v3 : Int) (v4 : Int) (v5 : Int) (σ : Hp), wX7_quarrelsLaid_26 k K12 n v1 v2 v3 v4 v5 σ → zV x σ 26 [(0, za x (17)), (1, .int (zI (v1))), (2, .int (zI (v2))), (3, .int (zI (v3))), (4, .int (zI (v4))), (5, .int (zI (v5)))] [] := by
  intro n
  induction n with
  | zero => intro _ _ _ _ _ _ h; exact h.elim
  | succ n ih =>
    intro v1 v2 v3 v4 v5 σ h
    unfold wX7_quarrelsLaid_26 at h
    refine z_iload C 5 dX7_quarrelsLaid_26 rfl ?_
    refine z_iload_n C 3 dX7_quarrelsLaid_28 rfl rfl ?_
    refine z_iadd C dX7_quarrelsLaid_29 ?_
    refine z_iload_n C 1 dX7_quarrelsLaid_30 rfl rfl ?_
    obtain ⟨o1, h⟩ := h
    obtain ⟨o2, h⟩ := h
    refine z_icmp_ge C 85 dX7_quarrelsLaid_31 (by decide) o1 o2 (fun c3 => ?_) (fun c3 => ?_)
    · have h := h.1 c3
      refine z_iinc C 4 [(4, .int (zI (v4 + 1))), (0, za x (17)), (1, .int (zI (v1))), (2, .int (zI (v2))), (3, .int (zI (v3))), (5, .int (zI (v5)))] dX7_quarrelsLaid_85 rfl (by rw [hN]; decide) rfl ?_
      refine z_goto C 12 dX7_quarrelsLaid_88 (by decide) ?_
      refine z_sub C [1, 2, 3, 4, 0] [(0, za x (17)), (1, .int (zI (v1))), (2, .int (zI (v2))), (3, .int (zI (v3))), (4, .int (zI (v4 + 1)))] rfl ?_
      exact H12 v1 v2 v3 (v4 + 1)  σ h
    · have h := h.2 c3
      refine z_iload_n C 2 dX7_quarrelsLaid_34 rfl rfl ?_
      refine z_aload_n C 0 dX7_quarrelsLaid_35 rfl rfl ?_
      refine g_X7_8 C kf_X7_29 dX7_quarrelsLaid_36 ?_
      refine z_iload C 4 dX7_quarrelsLaid_39 rfl ?_
      refine z_iload_n C 3 dX7_quarrelsLaid_41 rfl rfl ?_
      refine z_iadd C dX7_quarrelsLaid_42 ?_
      obtain ⟨o4, h⟩ := h
      refine z_iald C ia_24 dX7_quarrelsLaid_43 o4.1 o4.2 ?_
      refine z_aload_n C 0 dX7_quarrelsLaid_44 rfl rfl ?_
      refine g_X7_8 C kf_X7_29 dX7_quarrelsLaid_45 ?_
      refine z_iload C 4 dX7_quarrelsLaid_48 rfl ?_
      obtain ⟨o5, h⟩ := h
      refine z_iald C ia_24 dX7_quarrelsLaid_50 o5.1 o5.2 ?_
      refine z_isub C dX7_quarrelsLaid_51 ?_
      refine z_aload_n C 0 dX7_quarrelsLaid_52 rfl rfl ?_
      refine g_X7_8 C kf_X7_29 dX7_quarrelsLaid_53 ?_
      refine z_iload C 5 dX7_quarrelsLaid_56 rfl ?_
      refine z_iload_n C 3 dX7_quarrelsLaid_58 rfl rfl ?_
      refine z_iadd C dX7_quarrelsLaid_59 ?_
      obtain ⟨o6, h⟩ := h
      refine z_iald C ia_24 dX7_quarrelsLaid_60 o6.1 o6.2 ?_
      refine z_aload_n C 0 dX7_quarrelsLaid_61 rfl rfl ?_
      refine g_X7_8 C kf_X7_29 dX7_quarrelsLaid_62 ?_
      refine z_iload C 5 dX7_quarrelsLaid_65 rfl ?_
      obtain ⟨o7, h⟩ := h
      refine z_iald C ia_24 dX7_quarrelsLaid_67 o7.1 o7.2 ?_
      refine z_isub C dX7_quarrelsLaid_68 ?_
      obtain ⟨o8, h⟩ := h
      obtain ⟨o9, h⟩ := h
      refine z_icmp_ne C 76 dX7_quarrelsLaid_69 (by decide) o8 o9 (fun c10 => ?_) (fun c10 => ?_)
      · have h := h.1 c10
        refine z_iconst C dX7_quarrelsLaid_76 ?_
        refine z_iadd C dX7_quarrelsLaid_77 ?_
        refine z_istore_n C [(2, .int (zI (v2 + 0))), (0, za x (17)), (1, .int (zI (v1))), (3, .int (zI (v3))), (4, .int (zI (v4))), (5, .int (zI (v5)))] dX7_quarrelsLaid_78 rfl (by rw [hN]; decide) rfl ?_
        refine z_iinc C 5 [(5, .int (zI (v5 + 1))), (2, .int (zI (v2 + 0))), (0, za x (17)), (1, .int (zI (v1))), (3, .int (zI (v3))), (4, .int (zI (v4)))] dX7_quarrelsLaid_79 rfl (by rw [hN]; decide) rfl ?_
        refine z_goto C 26 dX7_quarrelsLaid_82 (by decide) ?_
        refine z_sub C [2, 3, 1, 4, 5, 0] [(0, za x (17)), (1, .int (zI (v1))), (2, .int (zI (v2 + 0))), (3, .int (zI (v3))), (4, .int (zI (v4))), (5, .int (zI (v5 + 1)))] rfl ?_
        exact ih v1 (v2 + 0) v3 v4 (v5 + 1)  σ h
      · have h := h.2 c10
        refine z_iconst C dX7_quarrelsLaid_72 ?_
        refine z_goto C 77 dX7_quarrelsLaid_73 (by decide) ?_
        refine z_iadd C dX7_quarrelsLaid_77 ?_
        refine z_istore_n C [(2, .int (zI (v2 + 1))), (0, za x (17)), (1, .int (zI (v1))), (3, .int (zI (v3))), (4, .int (zI (v4))), (5, .int (zI (v5)))] dX7_quarrelsLaid_78 rfl (by rw [hN]; decide) rfl ?_
        refine z_iinc C 5 [(5, .int (zI (v5 + 1))), (2, .int (zI (v2 + 1))), (0, za x (17)), (1, .int (zI (v1))), (3, .int (zI (v3))), (4, .int (zI (v4)))] dX7_quarrelsLaid_79 rfl (by rw [hN]; decide) rfl ?_
        refine z_goto C 26 dX7_quarrelsLaid_82 (by decide) ?_
        refine z_sub C [2, 3, 1, 4, 5, 0] [(0, za x (17)), (1, .int (zI (v1))), (2, .int (zI (v2 + 1))), (3, .int (zI (v3))), (4, .int (zI (v4))), (5, .int (zI (v5 + 1)))] rfl ?_
        exact ih v1 (v2 + 1) v3 v4 (v5 + 1)  σ h
def wX7_quarrelsLaid_12 (k : Int → Hp → Prop) (K4 : Int → Int → Int → Hp → Prop) : Nat → Int → Int → Int → Int → Hp → Prop
  | 0, _, _, _, _, _ => False
  | n + 1, v1, v2, v3, v4, σ => zrg (v4 + v3) ∧ zrg v1 ∧ ((v1 ≤ v4 + v3 → K4 v1 v2 (v3 + 1) σ) ∧ (¬ (v1 ≤ v4 + v3) → (∃ N4, wX7_quarrelsLaid_26 k (fun v1 v2 v3 v4 σ => wX7_quarrelsLaid_12 k K4 n v1 v2 v3 v4 σ) N4 v1 v2 v3 v4 (v4 + 1) σ)))
set_option maxRecDepth 100000 in
theorem sX7_quarrelsLaid_12 {x : Cx} (C : zOk x cX7_quarrelsLaid RX7 (some .int) (0) (0)) (hN : x.2.2.2.2.1 = 6) {k : Int → Hp → Prop} (E : zEnd x (zPi k x.2.1)) {K4 : Int → Int → Int → Hp → Prop} (H4 : ∀ (v1 : Int) (v2 : Int) (v3 : Int) (σ : Hp), K4 v1 v2 v3 σ → zV x σ 4 [(0, za x (17)), (1, .int (zI (v1))), (2, .int (zI (v2))), (3, .int (zI (v3)))] []) : ∀ (n : Nat) (v1 : Int) (v2 : Int) (v3 : Int) (v4 : Int) (σ : Hp), wX7_quarrelsLaid_12 k K4 n v1 v2 v3 v4 σ → zV x σ 12 [(0, za x (17)), (1, .int (zI (v1))), (2, .int (zI (v2))), (3, .int (zI (v3))), (4, .int (zI (v4)))] [] := by
  intro n
  induction n with
  | zero => intro _ _ _ _ _ h; exact h.elim
  | succ n ih =>
    intro v1 v2 v3 v4 σ h
    unfold wX7_quarrelsLaid_12 at h
    refine z_iload C 4 dX7_quarrelsLaid_12 rfl ?_
    refine z_iload_n C 3 dX7_quarrelsLaid_14 rfl rfl ?_
    refine z_iadd C dX7_quarrelsLaid_15 ?_
    refine z_iload_n C 1 dX7_quarrelsLaid_16 rfl rfl ?_
    obtain ⟨o1, h⟩ := h
    obtain ⟨o2, h⟩ := h
    refine z_icmp_ge C 91 dX7_quarrelsLaid_17 (by decide) o1 o2 (fun c3 => ?_) (fun c3 => ?_)
    · have h := h.1 c3
      refine z_iinc C 3 [(3, .int (zI (v3 + 1))), (0, za x (17)), (1, .int (zI (v1))), (2, .int (zI (v2))), (4, .int (zI (v4)))] dX7_quarrelsLaid_91 rfl (by rw [hN]; decide) rfl ?_
      refine z_goto C 4 dX7_quarrelsLaid_94 (by decide) ?_
      refine z_sub C [1, 2, 3, 0] [(0, za x (17)), (1, .int (zI (v1))), (2, .int (zI (v2))), (3, .int (zI (v3 + 1)))] rfl ?_
      exact H4 v1 v2 (v3 + 1)  σ h
    · have h := h.2 c3
      refine z_iload C 4 dX7_quarrelsLaid_20 rfl ?_
      refine z_iconst C dX7_quarrelsLaid_22 ?_
      refine z_iadd C dX7_quarrelsLaid_23 ?_
      refine z_istore C [(5, .int (zI (v4 + 1))), (0, za x (17)), (1, .int (zI (v1))), (2, .int (zI (v2))), (3, .int (zI (v3))), (4, .int (zI (v4)))] dX7_quarrelsLaid_24 (by rw [hN]; decide) rfl ?_
      refine z_sub C [1, 2, 3, 4, 5, 0] [(0, za x (17)), (1, .int (zI (v1))), (2, .int (zI (v2))), (3, .int (zI (v3))), (4, .int (zI (v4))), (5, .int (zI (v4 + 1)))] rfl ?_
      obtain ⟨n4, h⟩ := h
      exact sX7_quarrelsLaid_26 C hN E (by intro v1 v2 v3 v4 σ h; exact ih v1 v2 v3 v4  σ h) n4 v1 v2 v3 v4 (v4 + 1)  σ h
def wX7_quarrelsLaid_4 (k : Int → Hp → Prop) : Nat → Int → Int → Int → Hp → Prop
  | 0, _, _, _, _ => False
  | n + 1, v1, v2, v3, σ => zrg v3 ∧ zrg v1 ∧ ((v1 ≤ v3 → k v2 σ) ∧ (¬ (v1 ≤ v3) → (∃ N4, wX7_quarrelsLaid_12 k (fun v1 v2 v3 σ => wX7_quarrelsLaid_4 k n v1 v2 v3 σ) N4 v1 v2 v3 0 σ)))
set_option maxRecDepth 100000 in
theorem sX7_quarrelsLaid_4 {x : Cx} (C : zOk x cX7_quarrelsLaid RX7 (some .int) (0) (0)) (hN : x.2.2.2.2.1 = 6) {k : Int → Hp → Prop} (E : zEnd x (zPi k x.2.1)) : ∀ (n : Nat) (v1 : Int) (v2 : Int) (v3 : Int) (σ : Hp), wX7_quarrelsLaid_4 k n v1 v2 v3 σ → zV x σ 4 [(0, za x (17)), (1, .int (zI (v1))), (2, .int (zI (v2))), (3, .int (zI (v3)))] [] := by
  intro n
  induction n with
  | zero => intro _ _ _ _ h; exact h.elim
  | succ n ih =>
    intro v1 v2 v3 σ h
    unfold wX7_quarrelsLaid_4 at h
    refine z_iload_n C 3 dX7_quarrelsLaid_4 rfl rfl ?_
    refine z_iload_n C 1 dX7_quarrelsLaid_5 rfl rfl ?_
    obtain ⟨o1, h⟩ := h
    obtain ⟨o2, h⟩ := h
    refine z_icmp_ge C 97 dX7_quarrelsLaid_6 (by decide) o1 o2 (fun c3 => ?_) (fun c3 => ?_)
    · have h := h.1 c3
      refine z_iload_n C 2 dX7_quarrelsLaid_97 rfl rfl ?_
      exact z_iret C E dX7_quarrelsLaid_98 ⟨_, rfl, h⟩
    · have h := h.2 c3
      refine z_iconst C dX7_quarrelsLaid_9 ?_
      refine z_istore C [(4, .int (zI (0))), (0, za x (17)), (1, .int (zI (v1))), (2, .int (zI (v2))), (3, .int (zI (v3)))] dX7_quarrelsLaid_10 (by rw [hN]; decide) rfl ?_
      refine z_sub C [1, 2, 3, 4, 0] [(0, za x (17)), (1, .int (zI (v1))), (2, .int (zI (v2))), (3, .int (zI (v3))), (4, .int (zI (0)))] rfl ?_
      obtain ⟨n4, h⟩ := h
      exact sX7_quarrelsLaid_12 C hN E (by intro v1 v2 v3 σ h; exact ih v1 v2 v3  σ h) n4 v1 v2 v3 0  σ h
def wX7_quarrelsLaid (v1 : Int) (σ : Hp) (k : Int → Hp → Prop) : Prop :=
  (∃ N1, wX7_quarrelsLaid_4 k N1 v1 0 1 σ)
set_option maxRecDepth 100000 in
theorem mX7_quarrelsLaid (v1 : Int) (σ : Hp) (k : Int → Hp → Prop) (h : wX7_quarrelsLaid v1 σ k) (l : Launch) : zMt l yX7_quarrelsLaid cX7_quarrelsLaid 6 (some .int) { frames := 0, cells := 0, slots := 0, locals := 0 } (fun w => [.ref (w.2.1 (17)), .int (zI (v1))]) σ (zPi k) := by
  refine zMt_of (plainFor_of_name (by decide)) (fun w => Nat.le_of_ble_eq_true rfl) (fun x hl hN C E => ?_)
  change zV x σ 0 [(0, za x (17)), (1, .int (zI (v1)))] []
  change zOk x cX7_quarrelsLaid RX7 (some .int) (0) (0) at C
  unfold wX7_quarrelsLaid at h
  refine z_iconst C dX7_quarrelsLaid_0 ?_
  refine z_istore_n C [(2, .int (zI (0))), (0, za x (17)), (1, .int (zI (v1)))] dX7_quarrelsLaid_1 rfl (by rw [hN]; decide) rfl ?_
  refine z_iconst C dX7_quarrelsLaid_2 ?_
  refine z_istore_n C [(3, .int (zI (1))), (2, .int (zI (0))), (0, za x (17)), (1, .int (zI (v1)))] dX7_quarrelsLaid_3 rfl (by rw [hN]; decide) rfl ?_
  refine z_sub C [2, 3, 1, 0] [(0, za x (17)), (1, .int (zI (v1))), (2, .int (zI (0))), (3, .int (zI (1)))] rfl ?_
  obtain ⟨n1, h⟩ := h
  exact sX7_quarrelsLaid_4 C hN E n1 v1 0 1  σ h
def wX7_nearly_64 (k : Int → Hp → Prop) (K47 : Int → Int → Int → Int → Int → Hp → Prop) : Nat → Int → Int → Int → Int → Int → Int → Int → Int → Hp → Prop
  | 0, _, _, _, _, _, _, _, _, _ => False
  | n + 1, v1, v2, v3, v4, v5, v6, v7, v8, σ => zrg v8 ∧ zrg v1 ∧ ((v1 ≤ v8 → zrg v7 ∧ ((v7 = 0 → K47 v1 v2 (v3 + 0) v4 (v5 + 1) σ) ∧ (¬ (v7 = 0) → wX7_quarrelsLaid v1 σ (fun a7 σ6 => zrg a7 ∧ zrg v2 ∧ ((a7 ≠ v2 → K47 v1 v2 (v3 + 0) v4 (v5 + 1) σ6) ∧ (¬ (a7 ≠ v2) → K47 v1 v2 (v3 + 1) v4 (v5 + 1) σ6)))))) ∧ (¬ (v1 ≤ v8) → zrg v6 ∧ 0 < v1 ∧ (0 ≤ v8 ∧ v8 < 12) ∧ zrg v7 ∧ ((v7 = 0 → wX7_nearly_64 k K47 n v1 v2 v3 v4 v5 (Int.tdiv v6 v1) 0 (v8 + 1) (zst σ 24 v8.toNat (Int.tmod v6 v1))) ∧ (¬ (v7 = 0) → wX7_isUnlike v8 (zst σ 24 v8.toNat (Int.tmod v6 v1)) (fun a17 σ16 => zrg a17 ∧ ((a17 = 0 → wX7_nearly_64 k K47 n v1 v2 v3 v4 v5 (Int.tdiv v6 v1) 0 (v8 + 1) σ16) ∧ (¬ (a17 = 0) → wX7_nearly_64 k K47 n v1 v2 v3 v4 v5 (Int.tdiv v6 v1) 1 (v8 + 1) σ16)))))))
set_option maxRecDepth 100000 in
theorem sX7_nearly_64 {x : Cx} (C : zOk x cX7_nearly RX7 (some .int) (1) (25)) (hN : x.2.2.2.2.1 = 9) {k : Int → Hp → Prop} (E : zEnd x (zPi k x.2.1)) {K47 : Int → Int → Int → Int → Int → Hp → Prop} (H47 : ∀ (v1 : Int) (v2 : Int) (v3 : Int) (v4 : Int) (v5 : Int) (σ : Hp), K47 v1 v2 v3 v4 v5 σ → zV x σ 47 [(0, za x (17)), (1, .int (zI (v1))), (2, .int (zI (v2))), (3, .int (zI (v3))), (4, .int (zI (v4))), (5, .int (zI (v5)))] []) : ∀ (n : Nat) (v1 : Int) (v2 : Int) (v3 : Int) (v4 : Int) (v5 : Int) (v6 : Int) (v7 : Int) (v8 : Int) (σ : Hp), wX7_nearly_64 k K47 n v1 v2 v3 v4 v5 v6 v7 v8 σ → zV x σ 64 [(0, za x (17)), (1, .int (zI (v1))), (2, .int (zI (v2))), (3, .int (zI (v3))), (4, .int (zI (v4))), (5, .int (zI (v5))), (6, .int (zI (v6))), (7, .int (zI (v7))), (8, .int (zI (v8)))] [] := by
  intro n
  induction n with
  | zero => intro _ _ _ _ _ _ _ _ _ h; exact h.elim
  | succ n ih =>
    intro v1 v2 v3 v4 v5 v6 v7 v8 σ h
    unfold wX7_nearly_64 at h
    refine z_iload C 8 dX7_nearly_64 rfl ?_
    refine z_iload_n C 1 dX7_nearly_66 rfl rfl ?_
    obtain ⟨o1, h⟩ := h
    obtain ⟨o2, h⟩ := h
    refine z_icmp_ge C 114 dX7_nearly_67 (by decide) o1 o2 (fun c3 => ?_) (fun c3 => ?_)
    · have h := h.1 c3
      refine z_iload_n C 3 dX7_nearly_114 rfl rfl ?_
      refine z_iload C 7 dX7_nearly_115 rfl ?_
      obtain ⟨o4, h⟩ := h
      refine z_if_eq C 133 dX7_nearly_117 (by decide) o4 (fun c5 => ?_) (fun c5 => ?_)
      · have h := h.1 c5
        refine z_iconst C dX7_nearly_133 ?_
        refine z_iadd C dX7_nearly_134 ?_
        refine z_istore_n C [(3, .int (zI (v3 + 0))), (0, za x (17)), (1, .int (zI (v1))), (2, .int (zI (v2))), (4, .int (zI (v4))), (5, .int (zI (v5))), (6, .int (zI (v6))), (7, .int (zI (v7))), (8, .int (zI (v8)))] dX7_nearly_135 rfl (by rw [hN]; decide) rfl ?_
        refine z_iinc C 5 [(5, .int (zI (v5 + 1))), (3, .int (zI (v3 + 0))), (0, za x (17)), (1, .int (zI (v1))), (2, .int (zI (v2))), (4, .int (zI (v4))), (6, .int (zI (v6))), (7, .int (zI (v7))), (8, .int (zI (v8)))] dX7_nearly_136 rfl (by rw [hN]; decide) rfl ?_
        refine z_goto C 47 dX7_nearly_139 (by decide) ?_
        refine z_sub C [2, 3, 4, 1, 5, 0] [(0, za x (17)), (1, .int (zI (v1))), (2, .int (zI (v2))), (3, .int (zI (v3 + 0))), (4, .int (zI (v4))), (5, .int (zI (v5 + 1)))] rfl ?_
        exact H47 v1 v2 (v3 + 0) v4 (v5 + 1)  σ h
      · have h := h.2 c5
        refine z_aload_n C 0 dX7_nearly_120 rfl rfl ?_
        refine z_iload_n C 1 dX7_nearly_121 rfl rfl ?_
        refine z_callV (av := fun w => [.int (zI (v1))]) C [.int (zI (v3))] cs_X7_quarrelsLaid (by decide) (fun _ _ => rfl) rfl (mX7_quarrelsLaid v1  σ _ h) km_X7_132 dX7_nearly_122 rfl rfl ⟨rfl, rfl⟩ ⟨by decide, by decide⟩ (Nat.le_of_ble_eq_true rfl) (fun rv σ6 hp => ?_)
        obtain ⟨a7, rfl, h⟩ := hp
        change zV x σ6 125 [(0, za x (17)), (1, .int (zI (v1))), (2, .int (zI (v2))), (3, .int (zI (v3))), (4, .int (zI (v4))), (5, .int (zI (v5))), (6, .int (zI (v6))), (7, .int (zI (v7))), (8, .int (zI (v8)))] [.int (zI (a7)), .int (zI (v3))]
        refine z_iload_n C 2 dX7_nearly_125 rfl rfl ?_
        obtain ⟨o8, h⟩ := h
        obtain ⟨o9, h⟩ := h
        refine z_icmp_ne C 133 dX7_nearly_126 (by decide) o8 o9 (fun c10 => ?_) (fun c10 => ?_)
        · have h := h.1 c10
          refine z_iconst C dX7_nearly_133 ?_
          refine z_iadd C dX7_nearly_134 ?_
          refine z_istore_n C [(3, .int (zI (v3 + 0))), (0, za x (17)), (1, .int (zI (v1))), (2, .int (zI (v2))), (4, .int (zI (v4))), (5, .int (zI (v5))), (6, .int (zI (v6))), (7, .int (zI (v7))), (8, .int (zI (v8)))] dX7_nearly_135 rfl (by rw [hN]; decide) rfl ?_
          refine z_iinc C 5 [(5, .int (zI (v5 + 1))), (3, .int (zI (v3 + 0))), (0, za x (17)), (1, .int (zI (v1))), (2, .int (zI (v2))), (4, .int (zI (v4))), (6, .int (zI (v6))), (7, .int (zI (v7))), (8, .int (zI (v8)))] dX7_nearly_136 rfl (by rw [hN]; decide) rfl ?_
          refine z_goto C 47 dX7_nearly_139 (by decide) ?_
          refine z_sub C [2, 3, 4, 1, 5, 0] [(0, za x (17)), (1, .int (zI (v1))), (2, .int (zI (v2))), (3, .int (zI (v3 + 0))), (4, .int (zI (v4))), (5, .int (zI (v5 + 1)))] rfl ?_
          exact H47 v1 v2 (v3 + 0) v4 (v5 + 1)  σ6 h
        · have h := h.2 c10
          refine z_iconst C dX7_nearly_129 ?_
          refine z_goto C 134 dX7_nearly_130 (by decide) ?_
          refine z_iadd C dX7_nearly_134 ?_
          refine z_istore_n C [(3, .int (zI (v3 + 1))), (0, za x (17)), (1, .int (zI (v1))), (2, .int (zI (v2))), (4, .int (zI (v4))), (5, .int (zI (v5))), (6, .int (zI (v6))), (7, .int (zI (v7))), (8, .int (zI (v8)))] dX7_nearly_135 rfl (by rw [hN]; decide) rfl ?_
          refine z_iinc C 5 [(5, .int (zI (v5 + 1))), (3, .int (zI (v3 + 1))), (0, za x (17)), (1, .int (zI (v1))), (2, .int (zI (v2))), (4, .int (zI (v4))), (6, .int (zI (v6))), (7, .int (zI (v7))), (8, .int (zI (v8)))] dX7_nearly_136 rfl (by rw [hN]; decide) rfl ?_
          refine z_goto C 47 dX7_nearly_139 (by decide) ?_
          refine z_sub C [2, 3, 4, 1, 5, 0] [(0, za x (17)), (1, .int (zI (v1))), (2, .int (zI (v2))), (3, .int (zI (v3 + 1))), (4, .int (zI (v4))), (5, .int (zI (v5 + 1)))] rfl ?_
          exact H47 v1 v2 (v3 + 1) v4 (v5 + 1)  σ6 h
    · have h := h.2 c3
      refine z_aload_n C 0 dX7_nearly_70 rfl rfl ?_
      refine g_X7_8 C kf_X7_29 dX7_nearly_71 ?_
      refine z_iload C 8 dX7_nearly_74 rfl ?_
      refine z_iload C 6 dX7_nearly_76 rfl ?_
      refine z_iload_n C 1 dX7_nearly_78 rfl rfl ?_
      obtain ⟨o11, h⟩ := h
      obtain ⟨o12, h⟩ := h
      refine z_irem C dX7_nearly_79 o11 o2 o12 ?_
      obtain ⟨o13, h⟩ := h
      refine z_iast C ia_24 dX7_nearly_80 o13.1 o13.2 ?_
      refine z_iload C 6 dX7_nearly_81 rfl ?_
      refine z_iload_n C 1 dX7_nearly_83 rfl rfl ?_
      refine z_idiv C dX7_nearly_84 o11 o2 o12 ?_
      refine z_istore C [(6, .int (zI (Int.tdiv v6 v1))), (0, za x (17)), (1, .int (zI (v1))), (2, .int (zI (v2))), (3, .int (zI (v3))), (4, .int (zI (v4))), (5, .int (zI (v5))), (7, .int (zI (v7))), (8, .int (zI (v8)))] dX7_nearly_85 (by rw [hN]; decide) rfl ?_
      refine z_iload C 7 dX7_nearly_87 rfl ?_
      obtain ⟨o14, h⟩ := h
      refine z_if_eq C 105 dX7_nearly_89 (by decide) o14 (fun c15 => ?_) (fun c15 => ?_)
      · have h := h.1 c15
        refine z_iconst C dX7_nearly_105 ?_
        refine z_istore C [(7, .int (zI (0))), (6, .int (zI (Int.tdiv v6 v1))), (0, za x (17)), (1, .int (zI (v1))), (2, .int (zI (v2))), (3, .int (zI (v3))), (4, .int (zI (v4))), (5, .int (zI (v5))), (8, .int (zI (v8)))] dX7_nearly_106 (by rw [hN]; decide) rfl ?_
        refine z_iinc C 8 [(8, .int (zI (v8 + 1))), (7, .int (zI (0))), (6, .int (zI (Int.tdiv v6 v1))), (0, za x (17)), (1, .int (zI (v1))), (2, .int (zI (v2))), (3, .int (zI (v3))), (4, .int (zI (v4))), (5, .int (zI (v5)))] dX7_nearly_108 rfl (by rw [hN]; decide) rfl ?_
        refine z_goto C 64 dX7_nearly_111 (by decide) ?_
        refine z_sub C [3, 4, 5, 6, 7, 8, 2, 1, 0] [(0, za x (17)), (1, .int (zI (v1))), (2, .int (zI (v2))), (3, .int (zI (v3))), (4, .int (zI (v4))), (5, .int (zI (v5))), (6, .int (zI (Int.tdiv v6 v1))), (7, .int (zI (0))), (8, .int (zI (v8 + 1)))] rfl ?_
        exact ih v1 v2 v3 v4 v5 (Int.tdiv v6 v1) 0 (v8 + 1)  (zst σ 24 v8.toNat (Int.tmod v6 v1)) h
      · have h := h.2 c15
        refine z_aload_n C 1 dX7_nearly_92 rfl rfl ?_
        refine z_iload C 8 dX7_nearly_93 rfl ?_
        refine z_callV (av := fun w => [.int (zI (v8))]) C [] cs_X7_isUnlike (by decide) (fun _ _ => rfl) rfl (mX7_isUnlike v8  (zst σ 24 v8.toNat (Int.tmod v6 v1)) _ h) km_X7_109 dX7_nearly_95 rfl rfl ⟨rfl, rfl⟩ ⟨by decide, by decide⟩ (Nat.le_of_ble_eq_true rfl) (fun rv σ16 hp => ?_)
        obtain ⟨a17, rfl, h⟩ := hp
        change zV x σ16 98 [(6, .int (zI (Int.tdiv v6 v1))), (0, za x (17)), (1, .int (zI (v1))), (2, .int (zI (v2))), (3, .int (zI (v3))), (4, .int (zI (v4))), (5, .int (zI (v5))), (7, .int (zI (v7))), (8, .int (zI (v8)))] [.int (zI (a17))]
        obtain ⟨o18, h⟩ := h
        refine z_if_eq C 105 dX7_nearly_98 (by decide) o18 (fun c19 => ?_) (fun c19 => ?_)
        · have h := h.1 c19
          refine z_iconst C dX7_nearly_105 ?_
          refine z_istore C [(7, .int (zI (0))), (6, .int (zI (Int.tdiv v6 v1))), (0, za x (17)), (1, .int (zI (v1))), (2, .int (zI (v2))), (3, .int (zI (v3))), (4, .int (zI (v4))), (5, .int (zI (v5))), (8, .int (zI (v8)))] dX7_nearly_106 (by rw [hN]; decide) rfl ?_
          refine z_iinc C 8 [(8, .int (zI (v8 + 1))), (7, .int (zI (0))), (6, .int (zI (Int.tdiv v6 v1))), (0, za x (17)), (1, .int (zI (v1))), (2, .int (zI (v2))), (3, .int (zI (v3))), (4, .int (zI (v4))), (5, .int (zI (v5)))] dX7_nearly_108 rfl (by rw [hN]; decide) rfl ?_
          refine z_goto C 64 dX7_nearly_111 (by decide) ?_
          refine z_sub C [3, 4, 5, 6, 7, 8, 2, 1, 0] [(0, za x (17)), (1, .int (zI (v1))), (2, .int (zI (v2))), (3, .int (zI (v3))), (4, .int (zI (v4))), (5, .int (zI (v5))), (6, .int (zI (Int.tdiv v6 v1))), (7, .int (zI (0))), (8, .int (zI (v8 + 1)))] rfl ?_
          exact ih v1 v2 v3 v4 v5 (Int.tdiv v6 v1) 0 (v8 + 1)  σ16 h
        · have h := h.2 c19
          refine z_iconst C dX7_nearly_101 ?_
          refine z_goto C 106 dX7_nearly_102 (by decide) ?_
          refine z_istore C [(7, .int (zI (1))), (6, .int (zI (Int.tdiv v6 v1))), (0, za x (17)), (1, .int (zI (v1))), (2, .int (zI (v2))), (3, .int (zI (v3))), (4, .int (zI (v4))), (5, .int (zI (v5))), (8, .int (zI (v8)))] dX7_nearly_106 (by rw [hN]; decide) rfl ?_
          refine z_iinc C 8 [(8, .int (zI (v8 + 1))), (7, .int (zI (1))), (6, .int (zI (Int.tdiv v6 v1))), (0, za x (17)), (1, .int (zI (v1))), (2, .int (zI (v2))), (3, .int (zI (v3))), (4, .int (zI (v4))), (5, .int (zI (v5)))] dX7_nearly_108 rfl (by rw [hN]; decide) rfl ?_
          refine z_goto C 64 dX7_nearly_111 (by decide) ?_
          refine z_sub C [3, 4, 5, 6, 7, 8, 2, 1, 0] [(0, za x (17)), (1, .int (zI (v1))), (2, .int (zI (v2))), (3, .int (zI (v3))), (4, .int (zI (v4))), (5, .int (zI (v5))), (6, .int (zI (Int.tdiv v6 v1))), (7, .int (zI (1))), (8, .int (zI (v8 + 1)))] rfl ?_
          exact ih v1 v2 v3 v4 v5 (Int.tdiv v6 v1) 1 (v8 + 1)  σ16 h
def wX7_nearly_47 (k : Int → Hp → Prop) : Nat → Int → Int → Int → Int → Int → Hp → Prop
  | 0, _, _, _, _, _, _ => False
  | n + 1, v1, v2, v3, v4, v5, σ => zrg v5 ∧ zrg v4 ∧ ((v4 ≤ v5 → k v3 σ) ∧ (¬ (v4 ≤ v5) → (∃ N4, wX7_nearly_64 k (fun v1 v2 v3 v4 v5 σ => wX7_nearly_47 k n v1 v2 v3 v4 v5 σ) N4 v1 v2 v3 v4 v5 v5 1 0 σ)))
set_option maxRecDepth 100000 in
theorem sX7_nearly_47 {x : Cx} (C : zOk x cX7_nearly RX7 (some .int) (1) (25)) (hN : x.2.2.2.2.1 = 9) {k : Int → Hp → Prop} (E : zEnd x (zPi k x.2.1)) : ∀ (n : Nat) (v1 : Int) (v2 : Int) (v3 : Int) (v4 : Int) (v5 : Int) (σ : Hp), wX7_nearly_47 k n v1 v2 v3 v4 v5 σ → zV x σ 47 [(0, za x (17)), (1, .int (zI (v1))), (2, .int (zI (v2))), (3, .int (zI (v3))), (4, .int (zI (v4))), (5, .int (zI (v5)))] [] := by
  intro n
  induction n with
  | zero => intro _ _ _ _ _ _ h; exact h.elim
  | succ n ih =>
    intro v1 v2 v3 v4 v5 σ h
    unfold wX7_nearly_47 at h
    refine z_iload C 5 dX7_nearly_47 rfl ?_
    refine z_iload C 4 dX7_nearly_49 rfl ?_
    obtain ⟨o1, h⟩ := h
    obtain ⟨o2, h⟩ := h
    refine z_icmp_ge C 142 dX7_nearly_51 (by decide) o1 o2 (fun c3 => ?_) (fun c3 => ?_)
    · have h := h.1 c3
      refine z_iload_n C 3 dX7_nearly_142 rfl rfl ?_
      exact z_iret C E dX7_nearly_143 ⟨_, rfl, h⟩
    · have h := h.2 c3
      refine z_iload C 5 dX7_nearly_54 rfl ?_
      refine z_istore C [(6, .int (zI (v5))), (0, za x (17)), (1, .int (zI (v1))), (2, .int (zI (v2))), (3, .int (zI (v3))), (4, .int (zI (v4))), (5, .int (zI (v5)))] dX7_nearly_56 (by rw [hN]; decide) rfl ?_
      refine z_iconst C dX7_nearly_58 ?_
      refine z_istore C [(7, .int (zI (1))), (6, .int (zI (v5))), (0, za x (17)), (1, .int (zI (v1))), (2, .int (zI (v2))), (3, .int (zI (v3))), (4, .int (zI (v4))), (5, .int (zI (v5)))] dX7_nearly_59 (by rw [hN]; decide) rfl ?_
      refine z_iconst C dX7_nearly_61 ?_
      refine z_istore C [(8, .int (zI (0))), (7, .int (zI (1))), (6, .int (zI (v5))), (0, za x (17)), (1, .int (zI (v1))), (2, .int (zI (v2))), (3, .int (zI (v3))), (4, .int (zI (v4))), (5, .int (zI (v5)))] dX7_nearly_62 (by rw [hN]; decide) rfl ?_
      refine z_sub C [3, 4, 5, 6, 7, 8, 2, 1, 0] [(0, za x (17)), (1, .int (zI (v1))), (2, .int (zI (v2))), (3, .int (zI (v3))), (4, .int (zI (v4))), (5, .int (zI (v5))), (6, .int (zI (v5))), (7, .int (zI (1))), (8, .int (zI (0)))] rfl ?_
      obtain ⟨n4, h⟩ := h
      exact sX7_nearly_64 C hN E (by intro v1 v2 v3 v4 v5 σ h; exact ih v1 v2 v3 v4 v5  σ h) n4 v1 v2 v3 v4 v5 v5 1 0  σ h
def wX7_nearly_26 (k : Int → Hp → Prop) : Nat → Int → Int → Int → Int → Int → Hp → Prop
  | 0, _, _, _, _, _, _ => False
  | n + 1, v1, v2, v3, v4, v5, σ => zrg v5 ∧ zrg v1 ∧ ((v1 ≤ v5 → (∃ N4, wX7_nearly_47 k N4 v1 v2 v3 v4 0 σ)) ∧ (¬ (v1 ≤ v5) → wX7_nearly_26 k n v1 v2 v3 (v4 * v1) (v5 + 1) σ))
set_option maxRecDepth 100000 in
theorem sX7_nearly_26 {x : Cx} (C : zOk x cX7_nearly RX7 (some .int) (1) (25)) (hN : x.2.2.2.2.1 = 9) {k : Int → Hp → Prop} (E : zEnd x (zPi k x.2.1)) : ∀ (n : Nat) (v1 : Int) (v2 : Int) (v3 : Int) (v4 : Int) (v5 : Int) (σ : Hp), wX7_nearly_26 k n v1 v2 v3 v4 v5 σ → zV x σ 26 [(0, za x (17)), (1, .int (zI (v1))), (2, .int (zI (v2))), (3, .int (zI (v3))), (4, .int (zI (v4))), (5, .int (zI (v5)))] [] := by
  intro n
  induction n with
  | zero => intro _ _ _ _ _ _ h; exact h.elim
  | succ n ih =>
    intro v1 v2 v3 v4 v5 σ h
    unfold wX7_nearly_26 at h
    refine z_iload C 5 dX7_nearly_26 rfl ?_
    refine z_iload_n C 1 dX7_nearly_28 rfl rfl ?_
    obtain ⟨o1, h⟩ := h
    obtain ⟨o2, h⟩ := h
    refine z_icmp_ge C 44 dX7_nearly_29 (by decide) o1 o2 (fun c3 => ?_) (fun c3 => ?_)
    · have h := h.1 c3
      refine z_iconst C dX7_nearly_44 ?_
      refine z_istore C [(5, .int (zI (0))), (0, za x (17)), (1, .int (zI (v1))), (2, .int (zI (v2))), (3, .int (zI (v3))), (4, .int (zI (v4)))] dX7_nearly_45 (by rw [hN]; decide) rfl ?_
      refine z_sub C [1, 2, 3, 4, 5, 0] [(0, za x (17)), (1, .int (zI (v1))), (2, .int (zI (v2))), (3, .int (zI (v3))), (4, .int (zI (v4))), (5, .int (zI (0)))] rfl ?_
      obtain ⟨n4, h⟩ := h
      exact sX7_nearly_47 C hN E n4 v1 v2 v3 v4 0  σ h
    · have h := h.2 c3
      refine z_iload C 4 dX7_nearly_32 rfl ?_
      refine z_iload_n C 1 dX7_nearly_34 rfl rfl ?_
      refine z_imul C dX7_nearly_35 ?_
      refine z_istore C [(4, .int (zI (v4 * v1))), (0, za x (17)), (1, .int (zI (v1))), (2, .int (zI (v2))), (3, .int (zI (v3))), (5, .int (zI (v5)))] dX7_nearly_36 (by rw [hN]; decide) rfl ?_
      refine z_iinc C 5 [(5, .int (zI (v5 + 1))), (4, .int (zI (v4 * v1))), (0, za x (17)), (1, .int (zI (v1))), (2, .int (zI (v2))), (3, .int (zI (v3)))] dX7_nearly_38 rfl (by rw [hN]; decide) rfl ?_
      refine z_goto C 26 dX7_nearly_41 (by decide) ?_
      refine z_sub C [2, 3, 4, 5, 1, 0] [(0, za x (17)), (1, .int (zI (v1))), (2, .int (zI (v2))), (3, .int (zI (v3))), (4, .int (zI (v4 * v1))), (5, .int (zI (v5 + 1)))] rfl ?_
      exact ih v1 v2 v3 (v4 * v1) (v5 + 1)  σ h
def wX7_nearly (v1 : Int) (v2 : Int) (σ : Hp) (k : Int → Hp → Prop) : Prop :=
  zrg v1 ∧ wX7_in v1 1 6 σ (fun a3 σ2 => zrg a3 ∧ ((a3 = 0 → k ((-1)) σ2) ∧ (¬ (a3 = 0) → zrg v2 ∧ ((0 ≤ v2 → (∃ N8, wX7_nearly_26 k N8 v1 v2 0 1 0 σ2)) ∧ (¬ (0 ≤ v2) → k ((-1)) σ2)))))
set_option maxRecDepth 100000 in
theorem mX7_nearly (v1 : Int) (v2 : Int) (σ : Hp) (k : Int → Hp → Prop) (h : wX7_nearly v1 v2 σ k) (l : Launch) : zMt l yX7_nearly cX7_nearly 9 (some .int) { frames := 1, cells := 0, slots := 0, locals := 25 } (fun w => [.ref (w.2.1 (17)), .int (zI (v1)), .int (zI (v2))]) σ (zPi k) := by
  refine zMt_of (plainFor_of_name (by decide)) (fun w => Nat.le_of_ble_eq_true rfl) (fun x hl hN C E => ?_)
  change zV x σ 0 [(0, za x (17)), (1, .int (zI (v1))), (2, .int (zI (v2)))] []
  change zOk x cX7_nearly RX7 (some .int) (1) (25) at C
  unfold wX7_nearly at h
  refine z_iload_n C 1 dX7_nearly_0 rfl rfl ?_
  obtain ⟨o1, h⟩ := h
  refine z_i2l C dX7_nearly_1 o1 ?_
  refine z_lconst (z := 1) C dX7_nearly_2 rfl ?_
  refine z_ldc2 (z := 6) C kl_X7_130 rfl dX7_nearly_3 ?_
  refine z_callS (av := fun w => [.long (zJ (v1)), .long (zJ (1)), .long (zJ (6))]) C [] cs_X7_in (mX7_in v1 1 6  σ _ h) km_X7_46 dX7_nearly_6 rfl rfl ⟨rfl, rfl⟩ ⟨by decide, by decide⟩ (Nat.le_of_ble_eq_true rfl) (fun rv σ2 hp => ?_)
  obtain ⟨a3, rfl, h⟩ := hp
  change zV x σ2 9 [(0, za x (17)), (1, .int (zI (v1))), (2, .int (zI (v2)))] [.int (zI (a3))]
  obtain ⟨o4, h⟩ := h
  refine z_if_eq C 16 dX7_nearly_9 (by decide) o4 (fun c5 => ?_) (fun c5 => ?_)
  · have h := h.1 c5
    refine z_iconst C dX7_nearly_16 ?_
    exact z_iret C E dX7_nearly_17 ⟨_, rfl, h⟩
  · have h := h.2 c5
    refine z_iload_n C 2 dX7_nearly_12 rfl rfl ?_
    obtain ⟨o6, h⟩ := h
    refine z_if_ge C 18 dX7_nearly_13 (by decide) o6 (fun c7 => ?_) (fun c7 => ?_)
    · have h := h.1 c7
      refine z_iconst C dX7_nearly_18 ?_
      refine z_istore_n C [(3, .int (zI (0))), (0, za x (17)), (1, .int (zI (v1))), (2, .int (zI (v2)))] dX7_nearly_19 rfl (by rw [hN]; decide) rfl ?_
      refine z_iconst C dX7_nearly_20 ?_
      refine z_istore C [(4, .int (zI (1))), (3, .int (zI (0))), (0, za x (17)), (1, .int (zI (v1))), (2, .int (zI (v2)))] dX7_nearly_21 (by rw [hN]; decide) rfl ?_
      refine z_iconst C dX7_nearly_23 ?_
      refine z_istore C [(5, .int (zI (0))), (4, .int (zI (1))), (3, .int (zI (0))), (0, za x (17)), (1, .int (zI (v1))), (2, .int (zI (v2)))] dX7_nearly_24 (by rw [hN]; decide) rfl ?_
      refine z_sub C [3, 4, 5, 2, 1, 0] [(0, za x (17)), (1, .int (zI (v1))), (2, .int (zI (v2))), (3, .int (zI (0))), (4, .int (zI (1))), (5, .int (zI (0)))] rfl ?_
      obtain ⟨n8, h⟩ := h
      exact sX7_nearly_26 C hN E n8 v1 v2 0 1 0  σ2 h
    · have h := h.2 c7
      refine z_iconst C dX7_nearly_16 ?_
      exact z_iret C E dX7_nearly_17 ⟨_, rfl, h⟩
def wX7_power_5 (k : Int → Hp → Prop) : Nat → Int → Int → Int → Int → Int → Hp → Prop
  | 0, _, _, _, _, _, _ => False
  | n + 1, v0, v1, v2, v3, v4, σ => zrg v4 ∧ zrg v2 ∧ ((v2 ≤ v4 → k v3 σ) ∧ (¬ (v2 ≤ v4) → zrg (v3 * v1) ∧ zrg v0 ∧ 0 < v0 ∧ wX7_power_5 k n v0 v1 v2 (Int.tmod (v3 * v1) v0) (v4 + 1) σ))
set_option maxRecDepth 100000 in
theorem sX7_power_5 {x : Cx} (C : zOk x cX7_power RX7 (some .int) (0) (0)) (hN : x.2.2.2.2.1 = 5) {k : Int → Hp → Prop} (E : zEnd x (zPi k x.2.1)) : ∀ (n : Nat) (v0 : Int) (v1 : Int) (v2 : Int) (v3 : Int) (v4 : Int) (σ : Hp), wX7_power_5 k n v0 v1 v2 v3 v4 σ → zV x σ 5 [(0, .int (zI (v0))), (1, .int (zI (v1))), (2, .int (zI (v2))), (3, .int (zI (v3))), (4, .int (zI (v4)))] [] := by
  intro n
  induction n with
  | zero => intro _ _ _ _ _ _ h; exact h.elim
  | succ n ih =>
    intro v0 v1 v2 v3 v4 σ h
    unfold wX7_power_5 at h
    refine z_iload C 4 dX7_power_5 rfl ?_
    refine z_iload_n C 2 dX7_power_7 rfl rfl ?_
    obtain ⟨o1, h⟩ := h
    obtain ⟨o2, h⟩ := h
    refine z_icmp_ge C 23 dX7_power_8 (by decide) o1 o2 (fun c3 => ?_) (fun c3 => ?_)
    · have h := h.1 c3
      refine z_iload_n C 3 dX7_power_23 rfl rfl ?_
      exact z_iret C E dX7_power_24 ⟨_, rfl, h⟩
    · have h := h.2 c3
      refine z_iload_n C 3 dX7_power_11 rfl rfl ?_
      refine z_iload_n C 1 dX7_power_12 rfl rfl ?_
      refine z_imul C dX7_power_13 ?_
      refine z_iload_n C 0 dX7_power_14 rfl rfl ?_
      obtain ⟨o4, h⟩ := h
      obtain ⟨o5, h⟩ := h
      obtain ⟨o6, h⟩ := h
      refine z_irem C dX7_power_15 o4 o5 o6 ?_
      refine z_istore_n C [(3, .int (zI (Int.tmod (v3 * v1) v0))), (0, .int (zI (v0))), (1, .int (zI (v1))), (2, .int (zI (v2))), (4, .int (zI (v4)))] dX7_power_16 rfl (by rw [hN]; decide) rfl ?_
      refine z_iinc C 4 [(4, .int (zI (v4 + 1))), (3, .int (zI (Int.tmod (v3 * v1) v0))), (0, .int (zI (v0))), (1, .int (zI (v1))), (2, .int (zI (v2)))] dX7_power_17 rfl (by rw [hN]; decide) rfl ?_
      refine z_goto C 5 dX7_power_20 (by decide) ?_
      refine z_sub C [2, 3, 4, 1, 0] [(0, .int (zI (v0))), (1, .int (zI (v1))), (2, .int (zI (v2))), (3, .int (zI (Int.tmod (v3 * v1) v0))), (4, .int (zI (v4 + 1)))] rfl ?_
      exact ih v0 v1 v2 (Int.tmod (v3 * v1) v0) (v4 + 1)  σ h
def wX7_power (v0 : Int) (v1 : Int) (v2 : Int) (σ : Hp) (k : Int → Hp → Prop) : Prop :=
  (∃ N1, wX7_power_5 k N1 v0 v1 v2 1 0 σ)
set_option maxRecDepth 100000 in
theorem mX7_power (v0 : Int) (v1 : Int) (v2 : Int) (σ : Hp) (k : Int → Hp → Prop) (h : wX7_power v0 v1 v2 σ k) (l : Launch) : zMt l yX7_power cX7_power 5 (some .int) { frames := 0, cells := 0, slots := 0, locals := 0 } (fun w => [.int (zI (v0)), .int (zI (v1)), .int (zI (v2))]) σ (zPi k) := by
  refine zMt_of (plainFor_of_name (by decide)) (fun w => Nat.le_of_ble_eq_true rfl) (fun x hl hN C E => ?_)
  change zV x σ 0 [(0, .int (zI (v0))), (1, .int (zI (v1))), (2, .int (zI (v2)))] []
  change zOk x cX7_power RX7 (some .int) (0) (0) at C
  unfold wX7_power at h
  refine z_iconst C dX7_power_0 ?_
  refine z_istore_n C [(3, .int (zI (1))), (0, .int (zI (v0))), (1, .int (zI (v1))), (2, .int (zI (v2)))] dX7_power_1 rfl (by rw [hN]; decide) rfl ?_
  refine z_iconst C dX7_power_2 ?_
  refine z_istore C [(4, .int (zI (0))), (3, .int (zI (1))), (0, .int (zI (v0))), (1, .int (zI (v1))), (2, .int (zI (v2)))] dX7_power_3 (by rw [hN]; decide) rfl ?_
  refine z_sub C [2, 3, 4, 1, 0] [(0, .int (zI (v0))), (1, .int (zI (v1))), (2, .int (zI (v2))), (3, .int (zI (1))), (4, .int (zI (0)))] rfl ?_
  obtain ⟨n1, h⟩ := h
  exact sX7_power_5 C hN E n1 v0 v1 v2 1 0  σ h
def wX7_powers_48 (k : Int → Hp → Prop) : Nat → Int → Int → Int → Int → Int → Hp → Prop
  | 0, _, _, _, _, _, _ => False
  | n + 1, v1, v2, v3, v4, v5, σ => zrg v5 ∧ zrg (v1 - 1) ∧ ((v1 - 1 ≤ v5 → wX7_made v4 (v1 - 1) σ (fun a5 σ4 => k a5 σ4)) ∧ (¬ (v1 - 1 ≤ v5) → wX7_power v1 v2 (v5 + v3) σ (fun a7 σ6 => (0 ≤ v5 ∧ v5 < 12) ∧ wX7_powers_48 k n v1 v2 v3 v4 (v5 + 1) (zst σ6 24 v5.toNat (a7 - 1)))))
set_option maxRecDepth 100000 in
theorem sX7_powers_48 {x : Cx} (C : zOk x cX7_powers RX7 (some .int) (2) (48)) (hN : x.2.2.2.2.1 = 6) {k : Int → Hp → Prop} (E : zEnd x (zPi k x.2.1)) : ∀ (n : Nat) (v1 : Int) (v2 : Int) (v3 : Int) (v4 : Int) (v5 : Int) (σ : Hp), wX7_powers_48 k n v1 v2 v3 v4 v5 σ → zV x σ 48 [(0, za x (17)), (1, .int (zI (v1))), (2, .int (zI (v2))), (3, .int (zI (v3))), (4, .int (zI (v4))), (5, .int (zI (v5)))] [] := by
  intro n
  induction n with
  | zero => intro _ _ _ _ _ _ h; exact h.elim
  | succ n ih =>
    intro v1 v2 v3 v4 v5 σ h
    unfold wX7_powers_48 at h
    refine z_iload C 5 dX7_powers_48 rfl ?_
    refine z_iload_n C 1 dX7_powers_50 rfl rfl ?_
    refine z_iconst C dX7_powers_51 ?_
    refine z_isub C dX7_powers_52 ?_
    obtain ⟨o1, h⟩ := h
    obtain ⟨o2, h⟩ := h
    refine z_icmp_ge C 80 dX7_powers_53 (by decide) o1 o2 (fun c3 => ?_) (fun c3 => ?_)
    · have h := h.1 c3
      refine z_aload_n C 0 dX7_powers_80 rfl rfl ?_
      refine z_iload C 4 dX7_powers_81 rfl ?_
      refine z_iload_n C 1 dX7_powers_83 rfl rfl ?_
      refine z_iconst C dX7_powers_84 ?_
      refine z_isub C dX7_powers_85 ?_
      refine z_callV (av := fun w => [.int (zI (v4)), .int (zI (v1 - 1))]) C [] cs_X7_made (by decide) (fun _ _ => rfl) rfl (mX7_made v4 (v1 - 1)  σ _ h) km_X7_148 dX7_powers_86 rfl rfl ⟨rfl, rfl⟩ ⟨by decide, by decide⟩ (Nat.le_of_ble_eq_true rfl) (fun rv σ4 hp => ?_)
      obtain ⟨a5, rfl, h⟩ := hp
      change zV x σ4 89 [(0, za x (17)), (1, .int (zI (v1))), (2, .int (zI (v2))), (3, .int (zI (v3))), (4, .int (zI (v4))), (5, .int (zI (v5)))] [.int (zI (a5))]
      exact z_iret C E dX7_powers_89 ⟨_, rfl, h⟩
    · have h := h.2 c3
      refine z_aload_n C 0 dX7_powers_56 rfl rfl ?_
      refine g_X7_8 C kf_X7_29 dX7_powers_57 ?_
      refine z_iload C 5 dX7_powers_60 rfl ?_
      refine z_iload_n C 1 dX7_powers_62 rfl rfl ?_
      refine z_iload_n C 2 dX7_powers_63 rfl rfl ?_
      refine z_iload C 5 dX7_powers_64 rfl ?_
      refine z_iload_n C 3 dX7_powers_66 rfl rfl ?_
      refine z_iadd C dX7_powers_67 ?_
      refine z_callS (av := fun w => [.int (zI (v1)), .int (zI (v2)), .int (zI (v5 + v3))]) C [.int (zI (v5)), za x (24)] cs_X7_power (mX7_power v1 v2 (v5 + v3)  σ _ h) km_X7_144 dX7_powers_68 rfl rfl ⟨rfl, rfl⟩ ⟨by decide, by decide⟩ (Nat.le_of_ble_eq_true rfl) (fun rv σ6 hp => ?_)
      obtain ⟨a7, rfl, h⟩ := hp
      change zV x σ6 71 [(0, za x (17)), (1, .int (zI (v1))), (2, .int (zI (v2))), (3, .int (zI (v3))), (4, .int (zI (v4))), (5, .int (zI (v5)))] [.int (zI (a7)), .int (zI (v5)), za x (24)]
      refine z_iconst C dX7_powers_71 ?_
      refine z_isub C dX7_powers_72 ?_
      obtain ⟨o8, h⟩ := h
      refine z_iast C ia_24 dX7_powers_73 o8.1 o8.2 ?_
      refine z_iinc C 5 [(5, .int (zI (v5 + 1))), (0, za x (17)), (1, .int (zI (v1))), (2, .int (zI (v2))), (3, .int (zI (v3))), (4, .int (zI (v4)))] dX7_powers_74 rfl (by rw [hN]; decide) rfl ?_
      refine z_goto C 48 dX7_powers_77 (by decide) ?_
      refine z_sub C [1, 2, 3, 4, 5, 0] [(0, za x (17)), (1, .int (zI (v1))), (2, .int (zI (v2))), (3, .int (zI (v3))), (4, .int (zI (v4))), (5, .int (zI (v5 + 1)))] rfl ?_
      exact ih v1 v2 v3 v4 (v5 + 1)  (zst σ6 24 v5.toNat (a7 - 1)) h
def wX7_powers (v1 : Int) (v2 : Int) (v3 : Int) (v4 : Int) (σ : Hp) (k : Int → Hp → Prop) : Prop :=
  wX7_isPrime v1 σ (fun a2 σ1 => zrg a2 ∧ ((a2 = 0 → k ((-1)) σ1) ∧ (¬ (a2 = 0) → zrg v2 ∧ zrg (v1 - 1) ∧ wX7_in v2 2 (v1 - 1) σ1 (fun a8 σ7 => zrg a8 ∧ ((a8 = 0 → k ((-1)) σ7) ∧ (¬ (a8 = 0) → zrg v3 ∧ zrg (v1 - 2) ∧ wX7_in v3 0 (v1 - 2) σ7 (fun a14 σ13 => zrg a14 ∧ ((a14 = 0 → k ((-1)) σ13) ∧ (¬ (a14 = 0) → wX7_isRow v4 σ13 (fun a18 σ17 => zrg a18 ∧ ((a18 ≠ 0 → (∃ N21, wX7_powers_48 k N21 v1 v2 v3 v4 0 σ17)) ∧ (¬ (a18 ≠ 0) → k ((-1)) σ17))))))))))))
set_option maxRecDepth 100000 in
theorem mX7_powers (v1 : Int) (v2 : Int) (v3 : Int) (v4 : Int) (σ : Hp) (k : Int → Hp → Prop) (h : wX7_powers v1 v2 v3 v4 σ k) (l : Launch) : zMt l yX7_powers cX7_powers 6 (some .int) { frames := 2, cells := 0, slots := 0, locals := 48 } (fun w => [.ref (w.2.1 (17)), .int (zI (v1)), .int (zI (v2)), .int (zI (v3)), .int (zI (v4))]) σ (zPi k) := by
  refine zMt_of (plainFor_of_name (by decide)) (fun w => Nat.le_of_ble_eq_true rfl) (fun x hl hN C E => ?_)
  change zV x σ 0 [(0, za x (17)), (1, .int (zI (v1))), (2, .int (zI (v2))), (3, .int (zI (v3))), (4, .int (zI (v4)))] []
  change zOk x cX7_powers RX7 (some .int) (2) (48) at C
  unfold wX7_powers at h
  refine z_iload_n C 1 dX7_powers_0 rfl rfl ?_
  refine z_callS (av := fun w => [.int (zI (v1))]) C [] cs_X7_isPrime (mX7_isPrime v1  σ _ h) km_X7_141 dX7_powers_1 rfl rfl ⟨rfl, rfl⟩ ⟨by decide, by decide⟩ (Nat.le_of_ble_eq_true rfl) (fun rv σ1 hp => ?_)
  obtain ⟨a2, rfl, h⟩ := hp
  change zV x σ1 4 [(0, za x (17)), (1, .int (zI (v1))), (2, .int (zI (v2))), (3, .int (zI (v3))), (4, .int (zI (v4)))] [.int (zI (a2))]
  obtain ⟨o3, h⟩ := h
  refine z_if_eq C 43 dX7_powers_4 (by decide) o3 (fun c4 => ?_) (fun c4 => ?_)
  · have h := h.1 c4
    refine z_iconst C dX7_powers_43 ?_
    exact z_iret C E dX7_powers_44 ⟨_, rfl, h⟩
  · have h := h.2 c4
    refine z_iload_n C 2 dX7_powers_7 rfl rfl ?_
    obtain ⟨o5, h⟩ := h
    refine z_i2l C dX7_powers_8 o5 ?_
    refine z_ldc2 (z := 2) C kl_X7_97 rfl dX7_powers_9 ?_
    refine z_iload_n C 1 dX7_powers_12 rfl rfl ?_
    refine z_iconst C dX7_powers_13 ?_
    refine z_isub C dX7_powers_14 ?_
    obtain ⟨o6, h⟩ := h
    refine z_i2l C dX7_powers_15 o6 ?_
    refine z_callS (av := fun w => [.long (zJ (v2)), .long (zJ (2)), .long (zJ (v1 - 1))]) C [] cs_X7_in (mX7_in v2 2 (v1 - 1)  σ1 _ h) km_X7_46 dX7_powers_16 rfl rfl ⟨rfl, rfl⟩ ⟨by decide, by decide⟩ (Nat.le_of_ble_eq_true rfl) (fun rv σ7 hp => ?_)
    obtain ⟨a8, rfl, h⟩ := hp
    change zV x σ7 19 [(0, za x (17)), (1, .int (zI (v1))), (2, .int (zI (v2))), (3, .int (zI (v3))), (4, .int (zI (v4)))] [.int (zI (a8))]
    obtain ⟨o9, h⟩ := h
    refine z_if_eq C 43 dX7_powers_19 (by decide) o9 (fun c10 => ?_) (fun c10 => ?_)
    · have h := h.1 c10
      refine z_iconst C dX7_powers_43 ?_
      exact z_iret C E dX7_powers_44 ⟨_, rfl, h⟩
    · have h := h.2 c10
      refine z_iload_n C 3 dX7_powers_22 rfl rfl ?_
      obtain ⟨o11, h⟩ := h
      refine z_i2l C dX7_powers_23 o11 ?_
      refine z_lconst (z := 0) C dX7_powers_24 rfl ?_
      refine z_iload_n C 1 dX7_powers_25 rfl rfl ?_
      refine z_iconst C dX7_powers_26 ?_
      refine z_isub C dX7_powers_27 ?_
      obtain ⟨o12, h⟩ := h
      refine z_i2l C dX7_powers_28 o12 ?_
      refine z_callS (av := fun w => [.long (zJ (v3)), .long (zJ (0)), .long (zJ (v1 - 2))]) C [] cs_X7_in (mX7_in v3 0 (v1 - 2)  σ7 _ h) km_X7_46 dX7_powers_29 rfl rfl ⟨rfl, rfl⟩ ⟨by decide, by decide⟩ (Nat.le_of_ble_eq_true rfl) (fun rv σ13 hp => ?_)
      obtain ⟨a14, rfl, h⟩ := hp
      change zV x σ13 32 [(0, za x (17)), (1, .int (zI (v1))), (2, .int (zI (v2))), (3, .int (zI (v3))), (4, .int (zI (v4)))] [.int (zI (a14))]
      obtain ⟨o15, h⟩ := h
      refine z_if_eq C 43 dX7_powers_32 (by decide) o15 (fun c16 => ?_) (fun c16 => ?_)
      · have h := h.1 c16
        refine z_iconst C dX7_powers_43 ?_
        exact z_iret C E dX7_powers_44 ⟨_, rfl, h⟩
      · have h := h.2 c16
        refine z_iload C 4 dX7_powers_35 rfl ?_
        refine z_callS (av := fun w => [.int (zI (v4))]) C [] cs_X7_isRow (mX7_isRow v4  σ13 _ h) km_X7_50 dX7_powers_37 rfl rfl ⟨rfl, rfl⟩ ⟨by decide, by decide⟩ (Nat.le_of_ble_eq_true rfl) (fun rv σ17 hp => ?_)
        obtain ⟨a18, rfl, h⟩ := hp
        change zV x σ17 40 [(0, za x (17)), (1, .int (zI (v1))), (2, .int (zI (v2))), (3, .int (zI (v3))), (4, .int (zI (v4)))] [.int (zI (a18))]
        obtain ⟨o19, h⟩ := h
        refine z_if_ne C 45 dX7_powers_40 (by decide) o19 (fun c20 => ?_) (fun c20 => ?_)
        · have h := h.1 c20
          refine z_iconst C dX7_powers_45 ?_
          refine z_istore C [(5, .int (zI (0))), (0, za x (17)), (1, .int (zI (v1))), (2, .int (zI (v2))), (3, .int (zI (v3))), (4, .int (zI (v4)))] dX7_powers_46 (by rw [hN]; decide) rfl ?_
          refine z_sub C [1, 2, 3, 4, 5, 0] [(0, za x (17)), (1, .int (zI (v1))), (2, .int (zI (v2))), (3, .int (zI (v3))), (4, .int (zI (v4))), (5, .int (zI (0)))] rfl ?_
          obtain ⟨n21, h⟩ := h
          exact sX7_powers_48 C hN E n21 v1 v2 v3 v4 0  σ17 h
        · have h := h.2 c20
          refine z_iconst C dX7_powers_43 ?_
          exact z_iret C E dX7_powers_44 ⟨_, rfl, h⟩
def wX7_quarrels_75 (k : Int → Hp → Prop) (K58 : Int → Int → Int → Int → Int → Int → Int → Hp → Prop) : Nat → Int → Int → Int → Int → Int → Int → Int → Int → Hp → Prop
  | 0, _, _, _, _, _, _, _, _, _ => False
  | n + 1, v1, v2, v3, v4, v5, v6, v7, v8, σ => (0 ≤ v1 ∧ v1 < 6) ∧ zrg ((v8 + v7) - v6) ∧ zrg (σ 18 v1.toNat) ∧ ((σ 18 v1.toNat ≤ (v8 + v7) - v6 → K58 v1 v2 v3 v4 v5 v6 (v7 + 1) σ) ∧ (¬ (σ 18 v1.toNat ≤ (v8 + v7) - v6) → wX7_are v1 v6 v7 σ (fun a6 σ5 => zrg a6 ∧ ((a6 = 0 → wX7_quarrels_75 k K58 n v1 v2 v3 v4 v5 v6 v7 (v8 + 1) σ5) ∧ (¬ (a6 = 0) → wX7_are v1 v8 ((v8 + v7) - v6) σ5 (fun a10 σ9 => zrg a10 ∧ ((a10 = 0 → wX7_quarrels_75 k K58 n v1 v2 v3 v4 v5 v6 v7 (v8 + 1) σ9) ∧ (¬ (a10 = 0) → wX7_off v1 v6 v7 v2 σ9 (fun a14 σ13 => wX7_off v1 v8 ((v8 + v7) - v6) v2 σ13 (fun a16 σ15 => zrg a14 ∧ zrg a16 ∧ ((a14 ≠ a16 → wX7_quarrels_75 k K58 n v1 v2 v3 v4 v5 v6 v7 (v8 + 1) σ15) ∧ (¬ (a14 ≠ a16) → zrg v4 ∧ ((v4 ≠ 0 → wX7_quarrels_75 k K58 n v1 v2 v3 (v4 + 1) v5 v6 v7 (v8 + 1) σ15) ∧ (¬ (v4 ≠ 0) → wX7_quarrels_75 k K58 n v1 v2 v3 (v4 + 1) ((((4096 * v6) + (256 * v7)) + (16 * v8)) + ((v8 + v7) - v6)) v6 v7 (v8 + 1) σ15))))))))))))))
set_option maxRecDepth 100000 in
theorem sX7_quarrels_75 {x : Cx} (C : zOk x cX7_quarrels RX7 (some .int) (3) (72)) (hN : x.2.2.2.2.1 = 10) {k : Int → Hp → Prop} (E : zEnd x (zPi k x.2.1)) {K58 : Int → Int → Int → Int → Int → Int → Int → Hp → Prop} (H58 : ∀ (v1 : Int) (v2 : Int) (v3 : Int) (v4 : Int) (v5 : Int) (v6 : Int) (v7 : Int) (σ : Hp), K58 v1 v2 v3 v4 v5 v6 v7 σ → zV x σ 58 [(0, za x (17)), (1, .int (zI (v1))), (2, .int (zI (v2))), (3, .int (zI (v3))), (4, .int (zI (v4))), (5, .int (zI (v5))), (6, .int (zI (v6))), (7, .int (zI (v7)))] []) : ∀ (n : Nat) (v1 : Int) (v2 : Int) (v3 : Int) (v4 : Int) (v5 : Int) (v6 : Int) (v7 : Int) (v8 : Int) (σ : Hp), wX7_quarrels_75 k K58 n v1 v2 v3 v4 v5 v6 v7 v8 σ → zV x σ 75 [(0, za x (17)), (1, .int (zI (v1))), (2, .int (zI (v2))), (3, .int (zI (v3))), (4, .int (zI (v4))), (5, .int (zI (v5))), (6, .int (zI (v6))), (7, .int (zI (v7))), (8, .int (zI (v8)))] [] := by
  intro n
  induction n with
  | zero => intro _ _ _ _ _ _ _ _ _ h; exact h.elim
  | succ n ih =>
    intro v1 v2 v3 v4 v5 v6 v7 v8 σ h
    unfold wX7_quarrels_75 at h
    refine z_iload C 8 dX7_quarrels_75 rfl ?_
    refine z_iload C 7 dX7_quarrels_77 rfl ?_
    refine z_iadd C dX7_quarrels_79 ?_
    refine z_iload C 6 dX7_quarrels_80 rfl ?_
    refine z_isub C dX7_quarrels_82 ?_
    refine z_aload_n C 0 dX7_quarrels_83 rfl rfl ?_
    refine g_X7_0 C kf_X7_7 dX7_quarrels_84 ?_
    refine z_iload_n C 1 dX7_quarrels_87 rfl rfl ?_
    obtain ⟨o1, h⟩ := h
    refine z_iald C ia_18 dX7_quarrels_88 o1.1 o1.2 ?_
    obtain ⟨o2, h⟩ := h
    obtain ⟨o3, h⟩ := h
    refine z_icmp_ge C 192 dX7_quarrels_89 (by decide) o2 o3 (fun c4 => ?_) (fun c4 => ?_)
    · have h := h.1 c4
      refine z_iinc C 7 [(7, .int (zI (v7 + 1))), (0, za x (17)), (1, .int (zI (v1))), (2, .int (zI (v2))), (3, .int (zI (v3))), (4, .int (zI (v4))), (5, .int (zI (v5))), (6, .int (zI (v6))), (8, .int (zI (v8)))] dX7_quarrels_192 rfl (by rw [hN]; decide) rfl ?_
      refine z_goto C 58 dX7_quarrels_195 (by decide) ?_
      refine z_sub C [1, 2, 3, 4, 5, 6, 7, 0] [(0, za x (17)), (1, .int (zI (v1))), (2, .int (zI (v2))), (3, .int (zI (v3))), (4, .int (zI (v4))), (5, .int (zI (v5))), (6, .int (zI (v6))), (7, .int (zI (v7 + 1)))] rfl ?_
      exact H58 v1 v2 v3 v4 v5 v6 (v7 + 1)  σ h
    · have h := h.2 c4
      refine z_iload C 8 dX7_quarrels_92 rfl ?_
      refine z_iload C 7 dX7_quarrels_94 rfl ?_
      refine z_iadd C dX7_quarrels_96 ?_
      refine z_iload C 6 dX7_quarrels_97 rfl ?_
      refine z_isub C dX7_quarrels_99 ?_
      refine z_istore C [(9, .int (zI ((v8 + v7) - v6))), (0, za x (17)), (1, .int (zI (v1))), (2, .int (zI (v2))), (3, .int (zI (v3))), (4, .int (zI (v4))), (5, .int (zI (v5))), (6, .int (zI (v6))), (7, .int (zI (v7))), (8, .int (zI (v8)))] dX7_quarrels_100 (by rw [hN]; decide) rfl ?_
      refine z_aload_n C 1 dX7_quarrels_102 rfl rfl ?_
      refine z_iload_n C 2 dX7_quarrels_103 rfl rfl ?_
      refine z_iload C 7 dX7_quarrels_104 rfl ?_
      refine z_iload C 8 dX7_quarrels_106 rfl ?_
      refine z_callV (av := fun w => [.int (zI (v1)), .int (zI (v6)), .int (zI (v7))]) C [] cs_X7_are (by decide) (fun _ _ => rfl) rfl (mX7_are v1 v6 v7  σ _ h) km_X7_89 dX7_quarrels_108 rfl rfl ⟨rfl, rfl⟩ ⟨by decide, by decide⟩ (Nat.le_of_ble_eq_true rfl) (fun rv σ5 hp => ?_)
      obtain ⟨a6, rfl, h⟩ := hp
      change zV x σ5 111 [(9, .int (zI ((v8 + v7) - v6))), (0, za x (17)), (1, .int (zI (v1))), (2, .int (zI (v2))), (3, .int (zI (v3))), (4, .int (zI (v4))), (5, .int (zI (v5))), (6, .int (zI (v6))), (7, .int (zI (v7))), (8, .int (zI (v8)))] [.int (zI (a6))]
      obtain ⟨o7, h⟩ := h
      refine z_if_eq C 186 dX7_quarrels_111 (by decide) o7 (fun c8 => ?_) (fun c8 => ?_)
      · have h := h.1 c8
        refine z_iinc C 9 [(8, .int (zI (v8 + 1))), (9, .int (zI ((v8 + v7) - v6))), (0, za x (17)), (1, .int (zI (v1))), (2, .int (zI (v2))), (3, .int (zI (v3))), (4, .int (zI (v4))), (5, .int (zI (v5))), (6, .int (zI (v6))), (7, .int (zI (v7)))] dX7_quarrels_186 rfl (by rw [hN]; decide) rfl ?_
        refine z_goto C 75 dX7_quarrels_189 (by decide) ?_
        refine z_sub C [2, 3, 4, 5, 6, 7, 8, 9, 0] [(0, za x (17)), (1, .int (zI (v1))), (2, .int (zI (v2))), (3, .int (zI (v3))), (4, .int (zI (v4))), (5, .int (zI (v5))), (6, .int (zI (v6))), (7, .int (zI (v7))), (8, .int (zI (v8 + 1)))] rfl ?_
        exact ih v1 v2 v3 v4 v5 v6 v7 (v8 + 1)  σ5 h
      · have h := h.2 c8
        refine z_aload_n C 1 dX7_quarrels_114 rfl rfl ?_
        refine z_iload_n C 2 dX7_quarrels_115 rfl rfl ?_
        refine z_iload C 9 dX7_quarrels_116 rfl ?_
        refine z_iload C 0 dX7_quarrels_118 rfl ?_
        refine z_callV (av := fun w => [.int (zI (v1)), .int (zI (v8)), .int (zI ((v8 + v7) - v6))]) C [] cs_X7_are (by decide) (fun _ _ => rfl) rfl (mX7_are v1 v8 ((v8 + v7) - v6)  σ5 _ h) km_X7_89 dX7_quarrels_120 rfl rfl ⟨rfl, rfl⟩ ⟨by decide, by decide⟩ (Nat.le_of_ble_eq_true rfl) (fun rv σ9 hp => ?_)
        obtain ⟨a10, rfl, h⟩ := hp
        change zV x σ9 123 [(9, .int (zI ((v8 + v7) - v6))), (0, za x (17)), (1, .int (zI (v1))), (2, .int (zI (v2))), (3, .int (zI (v3))), (4, .int (zI (v4))), (5, .int (zI (v5))), (6, .int (zI (v6))), (7, .int (zI (v7))), (8, .int (zI (v8)))] [.int (zI (a10))]
        obtain ⟨o11, h⟩ := h
        refine z_if_eq C 186 dX7_quarrels_123 (by decide) o11 (fun c12 => ?_) (fun c12 => ?_)
        · have h := h.1 c12
          refine z_iinc C 9 [(8, .int (zI (v8 + 1))), (9, .int (zI ((v8 + v7) - v6))), (0, za x (17)), (1, .int (zI (v1))), (2, .int (zI (v2))), (3, .int (zI (v3))), (4, .int (zI (v4))), (5, .int (zI (v5))), (6, .int (zI (v6))), (7, .int (zI (v7)))] dX7_quarrels_186 rfl (by rw [hN]; decide) rfl ?_
          refine z_goto C 75 dX7_quarrels_189 (by decide) ?_
          refine z_sub C [2, 3, 4, 5, 6, 7, 8, 9, 0] [(0, za x (17)), (1, .int (zI (v1))), (2, .int (zI (v2))), (3, .int (zI (v3))), (4, .int (zI (v4))), (5, .int (zI (v5))), (6, .int (zI (v6))), (7, .int (zI (v7))), (8, .int (zI (v8 + 1)))] rfl ?_
          exact ih v1 v2 v3 v4 v5 v6 v7 (v8 + 1)  σ9 h
        · have h := h.2 c12
          refine z_aload_n C 1 dX7_quarrels_126 rfl rfl ?_
          refine z_iload_n C 2 dX7_quarrels_127 rfl rfl ?_
          refine z_iload C 7 dX7_quarrels_128 rfl ?_
          refine z_iload C 8 dX7_quarrels_130 rfl ?_
          refine z_iload_n C 3 dX7_quarrels_132 rfl rfl ?_
          refine z_callV (av := fun w => [.int (zI (v1)), .int (zI (v6)), .int (zI (v7)), .int (zI (v2))]) C [] cs_X7_off (by decide) (fun _ _ => rfl) rfl (mX7_off v1 v6 v7 v2  σ9 _ h) km_X7_93 dX7_quarrels_133 rfl rfl ⟨rfl, rfl⟩ ⟨by decide, by decide⟩ (Nat.le_of_ble_eq_true rfl) (fun rv σ13 hp => ?_)
          obtain ⟨a14, rfl, h⟩ := hp
          change zV x σ13 136 [(9, .int (zI ((v8 + v7) - v6))), (0, za x (17)), (1, .int (zI (v1))), (2, .int (zI (v2))), (3, .int (zI (v3))), (4, .int (zI (v4))), (5, .int (zI (v5))), (6, .int (zI (v6))), (7, .int (zI (v7))), (8, .int (zI (v8)))] [.int (zI (a14))]
          refine z_aload_n C 1 dX7_quarrels_136 rfl rfl ?_
          refine z_iload_n C 2 dX7_quarrels_137 rfl rfl ?_
          refine z_iload C 9 dX7_quarrels_138 rfl ?_
          refine z_iload C 0 dX7_quarrels_140 rfl ?_
          refine z_iload_n C 3 dX7_quarrels_142 rfl rfl ?_
          refine z_callV (av := fun w => [.int (zI (v1)), .int (zI (v8)), .int (zI ((v8 + v7) - v6)), .int (zI (v2))]) C [.int (zI (a14))] cs_X7_off (by decide) (fun _ _ => rfl) rfl (mX7_off v1 v8 ((v8 + v7) - v6) v2  σ13 _ h) km_X7_93 dX7_quarrels_143 rfl rfl ⟨rfl, rfl⟩ ⟨by decide, by decide⟩ (Nat.le_of_ble_eq_true rfl) (fun rv σ15 hp => ?_)
          obtain ⟨a16, rfl, h⟩ := hp
          change zV x σ15 146 [(9, .int (zI ((v8 + v7) - v6))), (0, za x (17)), (1, .int (zI (v1))), (2, .int (zI (v2))), (3, .int (zI (v3))), (4, .int (zI (v4))), (5, .int (zI (v5))), (6, .int (zI (v6))), (7, .int (zI (v7))), (8, .int (zI (v8)))] [.int (zI (a16)), .int (zI (a14))]
          obtain ⟨o17, h⟩ := h
          obtain ⟨o18, h⟩ := h
          refine z_icmp_ne C 186 dX7_quarrels_146 (by decide) o17 o18 (fun c19 => ?_) (fun c19 => ?_)
          · have h := h.1 c19
            refine z_iinc C 9 [(8, .int (zI (v8 + 1))), (9, .int (zI ((v8 + v7) - v6))), (0, za x (17)), (1, .int (zI (v1))), (2, .int (zI (v2))), (3, .int (zI (v3))), (4, .int (zI (v4))), (5, .int (zI (v5))), (6, .int (zI (v6))), (7, .int (zI (v7)))] dX7_quarrels_186 rfl (by rw [hN]; decide) rfl ?_
            refine z_goto C 75 dX7_quarrels_189 (by decide) ?_
            refine z_sub C [2, 3, 4, 5, 6, 7, 8, 9, 0] [(0, za x (17)), (1, .int (zI (v1))), (2, .int (zI (v2))), (3, .int (zI (v3))), (4, .int (zI (v4))), (5, .int (zI (v5))), (6, .int (zI (v6))), (7, .int (zI (v7))), (8, .int (zI (v8 + 1)))] rfl ?_
            exact ih v1 v2 v3 v4 v5 v6 v7 (v8 + 1)  σ15 h
          · have h := h.2 c19
            refine z_iload C 5 dX7_quarrels_149 rfl ?_
            obtain ⟨o20, h⟩ := h
            refine z_if_ne C 179 dX7_quarrels_151 (by decide) o20 (fun c21 => ?_) (fun c21 => ?_)
            · have h := h.1 c21
              refine z_iload C 6 dX7_quarrels_179 rfl ?_
              refine z_istore C [(5, .int (zI (v5))), (9, .int (zI ((v8 + v7) - v6))), (0, za x (17)), (1, .int (zI (v1))), (2, .int (zI (v2))), (3, .int (zI (v3))), (4, .int (zI (v4))), (6, .int (zI (v6))), (7, .int (zI (v7))), (8, .int (zI (v8)))] dX7_quarrels_181 (by rw [hN]; decide) rfl ?_
              refine z_iinc C 6 [(4, .int (zI (v4 + 1))), (5, .int (zI (v5))), (9, .int (zI ((v8 + v7) - v6))), (0, za x (17)), (1, .int (zI (v1))), (2, .int (zI (v2))), (3, .int (zI (v3))), (6, .int (zI (v6))), (7, .int (zI (v7))), (8, .int (zI (v8)))] dX7_quarrels_183 rfl (by rw [hN]; decide) rfl ?_
              refine z_iinc C 9 [(8, .int (zI (v8 + 1))), (4, .int (zI (v4 + 1))), (5, .int (zI (v5))), (9, .int (zI ((v8 + v7) - v6))), (0, za x (17)), (1, .int (zI (v1))), (2, .int (zI (v2))), (3, .int (zI (v3))), (6, .int (zI (v6))), (7, .int (zI (v7)))] dX7_quarrels_186 rfl (by rw [hN]; decide) rfl ?_
              refine z_goto C 75 dX7_quarrels_189 (by decide) ?_
              refine z_sub C [4, 5, 6, 7, 1, 2, 8, 9, 0] [(0, za x (17)), (1, .int (zI (v1))), (2, .int (zI (v2))), (3, .int (zI (v3))), (4, .int (zI (v4 + 1))), (5, .int (zI (v5))), (6, .int (zI (v6))), (7, .int (zI (v7))), (8, .int (zI (v8 + 1)))] rfl ?_
              exact ih v1 v2 v3 (v4 + 1) v5 v6 v7 (v8 + 1)  σ15 h
            · have h := h.2 c21
              refine z_sipush C dX7_quarrels_154 rfl ?_
              refine z_iload C 7 dX7_quarrels_157 rfl ?_
              refine z_imul C dX7_quarrels_159 ?_
              refine z_sipush C dX7_quarrels_160 rfl ?_
              refine z_iload C 8 dX7_quarrels_163 rfl ?_
              refine z_imul C dX7_quarrels_165 ?_
              refine z_iadd C dX7_quarrels_166 ?_
              refine z_bipush C dX7_quarrels_167 rfl ?_
              refine z_iload C 9 dX7_quarrels_169 rfl ?_
              refine z_imul C dX7_quarrels_171 ?_
              refine z_iadd C dX7_quarrels_172 ?_
              refine z_iload C 0 dX7_quarrels_173 rfl ?_
              refine z_iadd C dX7_quarrels_175 ?_
              refine z_goto C 181 dX7_quarrels_176 (by decide) ?_
              refine z_istore C [(5, .int (zI ((((4096 * v6) + (256 * v7)) + (16 * v8)) + ((v8 + v7) - v6)))), (9, .int (zI ((v8 + v7) - v6))), (0, za x (17)), (1, .int (zI (v1))), (2, .int (zI (v2))), (3, .int (zI (v3))), (4, .int (zI (v4))), (6, .int (zI (v6))), (7, .int (zI (v7))), (8, .int (zI (v8)))] dX7_quarrels_181 (by rw [hN]; decide) rfl ?_
              refine z_iinc C 6 [(4, .int (zI (v4 + 1))), (5, .int (zI ((((4096 * v6) + (256 * v7)) + (16 * v8)) + ((v8 + v7) - v6)))), (9, .int (zI ((v8 + v7) - v6))), (0, za x (17)), (1, .int (zI (v1))), (2, .int (zI (v2))), (3, .int (zI (v3))), (6, .int (zI (v6))), (7, .int (zI (v7))), (8, .int (zI (v8)))] dX7_quarrels_183 rfl (by rw [hN]; decide) rfl ?_
              refine z_iinc C 9 [(8, .int (zI (v8 + 1))), (4, .int (zI (v4 + 1))), (5, .int (zI ((((4096 * v6) + (256 * v7)) + (16 * v8)) + ((v8 + v7) - v6)))), (9, .int (zI ((v8 + v7) - v6))), (0, za x (17)), (1, .int (zI (v1))), (2, .int (zI (v2))), (3, .int (zI (v3))), (6, .int (zI (v6))), (7, .int (zI (v7)))] dX7_quarrels_186 rfl (by rw [hN]; decide) rfl ?_
              refine z_goto C 75 dX7_quarrels_189 (by decide) ?_
              refine z_sub C [4, 5, 6, 7, 1, 2, 8, 9, 0] [(0, za x (17)), (1, .int (zI (v1))), (2, .int (zI (v2))), (3, .int (zI (v3))), (4, .int (zI (v4 + 1))), (5, .int (zI ((((4096 * v6) + (256 * v7)) + (16 * v8)) + ((v8 + v7) - v6)))), (6, .int (zI (v6))), (7, .int (zI (v7))), (8, .int (zI (v8 + 1)))] rfl ?_
              exact ih v1 v2 v3 (v4 + 1) ((((4096 * v6) + (256 * v7)) + (16 * v8)) + ((v8 + v7) - v6)) v6 v7 (v8 + 1)  σ15 h
def wX7_quarrels_58 (k : Int → Hp → Prop) (K41 : Int → Int → Int → Int → Int → Int → Hp → Prop) : Nat → Int → Int → Int → Int → Int → Int → Int → Hp → Prop
  | 0, _, _, _, _, _, _, _, _ => False
  | n + 1, v1, v2, v3, v4, v5, v6, v7, σ => (0 ≤ v1 ∧ v1 < 6) ∧ zrg v7 ∧ zrg (σ 18 v1.toNat) ∧ ((σ 18 v1.toNat ≤ v7 → K41 v1 v2 v3 v4 v5 (v6 + 1) σ) ∧ (¬ (σ 18 v1.toNat ≤ v7) → (∃ N5, wX7_quarrels_75 k (fun v1 v2 v3 v4 v5 v6 v7 σ => wX7_quarrels_58 k K41 n v1 v2 v3 v4 v5 v6 v7 σ) N5 v1 v2 v3 v4 v5 v6 v7 (v6 + 1) σ)))
set_option maxRecDepth 100000 in
theorem sX7_quarrels_58 {x : Cx} (C : zOk x cX7_quarrels RX7 (some .int) (3) (72)) (hN : x.2.2.2.2.1 = 10) {k : Int → Hp → Prop} (E : zEnd x (zPi k x.2.1)) {K41 : Int → Int → Int → Int → Int → Int → Hp → Prop} (H41 : ∀ (v1 : Int) (v2 : Int) (v3 : Int) (v4 : Int) (v5 : Int) (v6 : Int) (σ : Hp), K41 v1 v2 v3 v4 v5 v6 σ → zV x σ 41 [(0, za x (17)), (1, .int (zI (v1))), (2, .int (zI (v2))), (3, .int (zI (v3))), (4, .int (zI (v4))), (5, .int (zI (v5))), (6, .int (zI (v6)))] []) : ∀ (n : Nat) (v1 : Int) (v2 : Int) (v3 : Int) (v4 : Int) (v5 : Int) (v6 : Int) (v7 : Int) (σ : Hp), wX7_quarrels_58 k K41 n v1 v2 v3 v4 v5 v6 v7 σ → zV x σ 58 [(0, za x (17)), (1, .int (zI (v1))), (2, .int (zI (v2))), (3, .int (zI (v3))), (4, .int (zI (v4))), (5, .int (zI (v5))), (6, .int (zI (v6))), (7, .int (zI (v7)))] [] := by
  intro n
  induction n with
  | zero => intro _ _ _ _ _ _ _ _ h; exact h.elim
  | succ n ih =>
    intro v1 v2 v3 v4 v5 v6 v7 σ h
    unfold wX7_quarrels_58 at h
    refine z_iload C 7 dX7_quarrels_58 rfl ?_
    refine z_aload_n C 0 dX7_quarrels_60 rfl rfl ?_
    refine g_X7_0 C kf_X7_7 dX7_quarrels_61 ?_
    refine z_iload_n C 1 dX7_quarrels_64 rfl rfl ?_
    obtain ⟨o1, h⟩ := h
    refine z_iald C ia_18 dX7_quarrels_65 o1.1 o1.2 ?_
    obtain ⟨o2, h⟩ := h
    obtain ⟨o3, h⟩ := h
    refine z_icmp_ge C 198 dX7_quarrels_66 (by decide) o2 o3 (fun c4 => ?_) (fun c4 => ?_)
    · have h := h.1 c4
      refine z_iinc C 6 [(6, .int (zI (v6 + 1))), (0, za x (17)), (1, .int (zI (v1))), (2, .int (zI (v2))), (3, .int (zI (v3))), (4, .int (zI (v4))), (5, .int (zI (v5))), (7, .int (zI (v7)))] dX7_quarrels_198 rfl (by rw [hN]; decide) rfl ?_
      refine z_goto C 41 dX7_quarrels_201 (by decide) ?_
      refine z_sub C [1, 2, 3, 4, 5, 6, 0] [(0, za x (17)), (1, .int (zI (v1))), (2, .int (zI (v2))), (3, .int (zI (v3))), (4, .int (zI (v4))), (5, .int (zI (v5))), (6, .int (zI (v6 + 1)))] rfl ?_
      exact H41 v1 v2 v3 v4 v5 (v6 + 1)  σ h
    · have h := h.2 c4
      refine z_iload C 6 dX7_quarrels_69 rfl ?_
      refine z_iconst C dX7_quarrels_71 ?_
      refine z_iadd C dX7_quarrels_72 ?_
      refine z_istore C [(8, .int (zI (v6 + 1))), (0, za x (17)), (1, .int (zI (v1))), (2, .int (zI (v2))), (3, .int (zI (v3))), (4, .int (zI (v4))), (5, .int (zI (v5))), (6, .int (zI (v6))), (7, .int (zI (v7)))] dX7_quarrels_73 (by rw [hN]; decide) rfl ?_
      refine z_sub C [1, 2, 3, 4, 5, 6, 7, 8, 0] [(0, za x (17)), (1, .int (zI (v1))), (2, .int (zI (v2))), (3, .int (zI (v3))), (4, .int (zI (v4))), (5, .int (zI (v5))), (6, .int (zI (v6))), (7, .int (zI (v7))), (8, .int (zI (v6 + 1)))] rfl ?_
      obtain ⟨n5, h⟩ := h
      exact sX7_quarrels_75 C hN E (by intro v1 v2 v3 v4 v5 v6 v7 σ h; exact ih v1 v2 v3 v4 v5 v6 v7  σ h) n5 v1 v2 v3 v4 v5 v6 v7 (v6 + 1)  σ h
def wX7_quarrels_41 (k : Int → Hp → Prop) : Nat → Int → Int → Int → Int → Int → Int → Hp → Prop
  | 0, _, _, _, _, _, _, _ => False
  | n + 1, v1, v2, v3, v4, v5, v6, σ => (0 ≤ v1 ∧ v1 < 6) ∧ zrg v6 ∧ zrg (σ 18 v1.toNat) ∧ ((σ 18 v1.toNat ≤ v6 → zrg v3 ∧ ((v3 ≠ 0 → ((v3 ≠ 1 → zrg v4 ∧ ((v4 ≠ 0 → k 0 σ) ∧ (¬ (v4 ≠ 0) → k 1 σ))) ∧ (¬ (v3 ≠ 1) → k v4 σ))) ∧ (¬ (v3 ≠ 0) → k v5 σ))) ∧ (¬ (σ 18 v1.toNat ≤ v6) → (∃ N10, wX7_quarrels_58 k (fun v1 v2 v3 v4 v5 v6 σ => wX7_quarrels_41 k n v1 v2 v3 v4 v5 v6 σ) N10 v1 v2 v3 v4 v5 v6 (v6 + 1) σ)))
set_option maxRecDepth 100000 in
theorem sX7_quarrels_41 {x : Cx} (C : zOk x cX7_quarrels RX7 (some .int) (3) (72)) (hN : x.2.2.2.2.1 = 10) {k : Int → Hp → Prop} (E : zEnd x (zPi k x.2.1)) : ∀ (n : Nat) (v1 : Int) (v2 : Int) (v3 : Int) (v4 : Int) (v5 : Int) (v6 : Int) (σ : Hp), wX7_quarrels_41 k n v1 v2 v3 v4 v5 v6 σ → zV x σ 41 [(0, za x (17)), (1, .int (zI (v1))), (2, .int (zI (v2))), (3, .int (zI (v3))), (4, .int (zI (v4))), (5, .int (zI (v5))), (6, .int (zI (v6)))] [] := by
  intro n
  induction n with
  | zero => intro _ _ _ _ _ _ _ h; exact h.elim
  | succ n ih =>
    intro v1 v2 v3 v4 v5 v6 σ h
    unfold wX7_quarrels_41 at h
    refine z_iload C 6 dX7_quarrels_41 rfl ?_
    refine z_aload_n C 0 dX7_quarrels_43 rfl rfl ?_
    refine g_X7_0 C kf_X7_7 dX7_quarrels_44 ?_
    refine z_iload_n C 1 dX7_quarrels_47 rfl rfl ?_
    obtain ⟨o1, h⟩ := h
    refine z_iald C ia_18 dX7_quarrels_48 o1.1 o1.2 ?_
    obtain ⟨o2, h⟩ := h
    obtain ⟨o3, h⟩ := h
    refine z_icmp_ge C 204 dX7_quarrels_49 (by decide) o2 o3 (fun c4 => ?_) (fun c4 => ?_)
    · have h := h.1 c4
      refine z_iload_n C 3 dX7_quarrels_204 rfl rfl ?_
      obtain ⟨o5, h⟩ := h
      refine z_if_ne C 213 dX7_quarrels_205 (by decide) o5 (fun c6 => ?_) (fun c6 => ?_)
      · have h := h.1 c6
        refine z_iload_n C 3 dX7_quarrels_213 rfl rfl ?_
        refine z_iconst C dX7_quarrels_214 ?_
        refine z_icmp_ne C 223 dX7_quarrels_215 (by decide) o5 (zrg_d rfl) (fun c7 => ?_) (fun c7 => ?_)
        · have h := h.1 c7
          refine z_iload C 4 dX7_quarrels_223 rfl ?_
          obtain ⟨o8, h⟩ := h
          refine z_if_ne C 232 dX7_quarrels_225 (by decide) o8 (fun c9 => ?_) (fun c9 => ?_)
          · have h := h.1 c9
            refine z_iconst C dX7_quarrels_232 ?_
            exact z_iret C E dX7_quarrels_233 ⟨_, rfl, h⟩
          · have h := h.2 c9
            refine z_iconst C dX7_quarrels_228 ?_
            refine z_goto C 233 dX7_quarrels_229 (by decide) ?_
            exact z_iret C E dX7_quarrels_233 ⟨_, rfl, h⟩
        · have h := h.2 c7
          refine z_iload C 4 dX7_quarrels_218 rfl ?_
          refine z_goto C 233 dX7_quarrels_220 (by decide) ?_
          exact z_iret C E dX7_quarrels_233 ⟨_, rfl, h⟩
      · have h := h.2 c6
        refine z_iload C 5 dX7_quarrels_208 rfl ?_
        refine z_goto C 233 dX7_quarrels_210 (by decide) ?_
        exact z_iret C E dX7_quarrels_233 ⟨_, rfl, h⟩
    · have h := h.2 c4
      refine z_iload C 6 dX7_quarrels_52 rfl ?_
      refine z_iconst C dX7_quarrels_54 ?_
      refine z_iadd C dX7_quarrels_55 ?_
      refine z_istore C [(7, .int (zI (v6 + 1))), (0, za x (17)), (1, .int (zI (v1))), (2, .int (zI (v2))), (3, .int (zI (v3))), (4, .int (zI (v4))), (5, .int (zI (v5))), (6, .int (zI (v6)))] dX7_quarrels_56 (by rw [hN]; decide) rfl ?_
      refine z_sub C [1, 2, 3, 4, 5, 6, 7, 0] [(0, za x (17)), (1, .int (zI (v1))), (2, .int (zI (v2))), (3, .int (zI (v3))), (4, .int (zI (v4))), (5, .int (zI (v5))), (6, .int (zI (v6))), (7, .int (zI (v6 + 1)))] rfl ?_
      obtain ⟨n10, h⟩ := h
      exact sX7_quarrels_58 C hN E (by intro v1 v2 v3 v4 v5 v6 σ h; exact ih v1 v2 v3 v4 v5 v6  σ h) n10 v1 v2 v3 v4 v5 v6 (v6 + 1)  σ h
def wX7_quarrels (v1 : Int) (v2 : Int) (v3 : Int) (σ : Hp) (k : Int → Hp → Prop) : Prop :=
  wX7_isRow v1 σ (fun a2 σ1 => zrg a2 ∧ ((a2 = 0 → k ((-1)) σ1) ∧ (¬ (a2 = 0) → zrg v2 ∧ wX7_in v2 0 1 σ1 (fun a7 σ6 => zrg a7 ∧ ((a7 = 0 → k ((-1)) σ6) ∧ (¬ (a7 = 0) → zrg v3 ∧ wX7_in v3 0 2 σ6 (fun a12 σ11 => zrg a12 ∧ ((a12 ≠ 0 → (∃ N15, wX7_quarrels_41 k N15 v1 v2 v3 0 ((-4)) 0 σ11)) ∧ (¬ (a12 ≠ 0) → k ((-1)) σ11)))))))))
set_option maxRecDepth 100000 in
theorem mX7_quarrels (v1 : Int) (v2 : Int) (v3 : Int) (σ : Hp) (k : Int → Hp → Prop) (h : wX7_quarrels v1 v2 v3 σ k) (l : Launch) : zMt l yX7_quarrels cX7_quarrels 10 (some .int) { frames := 3, cells := 0, slots := 0, locals := 72 } (fun w => [.ref (w.2.1 (17)), .int (zI (v1)), .int (zI (v2)), .int (zI (v3))]) σ (zPi k) := by
  refine zMt_of (plainFor_of_name (by decide)) (fun w => Nat.le_of_ble_eq_true rfl) (fun x hl hN C E => ?_)
  change zV x σ 0 [(0, za x (17)), (1, .int (zI (v1))), (2, .int (zI (v2))), (3, .int (zI (v3)))] []
  change zOk x cX7_quarrels RX7 (some .int) (3) (72) at C
  unfold wX7_quarrels at h
  refine z_iload_n C 1 dX7_quarrels_0 rfl rfl ?_
  refine z_callS (av := fun w => [.int (zI (v1))]) C [] cs_X7_isRow (mX7_isRow v1  σ _ h) km_X7_50 dX7_quarrels_1 rfl rfl ⟨rfl, rfl⟩ ⟨by decide, by decide⟩ (Nat.le_of_ble_eq_true rfl) (fun rv σ1 hp => ?_)
  obtain ⟨a2, rfl, h⟩ := hp
  change zV x σ1 4 [(0, za x (17)), (1, .int (zI (v1))), (2, .int (zI (v2))), (3, .int (zI (v3)))] [.int (zI (a2))]
  obtain ⟨o3, h⟩ := h
  refine z_if_eq C 29 dX7_quarrels_4 (by decide) o3 (fun c4 => ?_) (fun c4 => ?_)
  · have h := h.1 c4
    refine z_iconst C dX7_quarrels_29 ?_
    exact z_iret C E dX7_quarrels_30 ⟨_, rfl, h⟩
  · have h := h.2 c4
    refine z_iload_n C 2 dX7_quarrels_7 rfl rfl ?_
    obtain ⟨o5, h⟩ := h
    refine z_i2l C dX7_quarrels_8 o5 ?_
    refine z_lconst (z := 0) C dX7_quarrels_9 rfl ?_
    refine z_lconst (z := 1) C dX7_quarrels_10 rfl ?_
    refine z_callS (av := fun w => [.long (zJ (v2)), .long (zJ (0)), .long (zJ (1))]) C [] cs_X7_in (mX7_in v2 0 1  σ1 _ h) km_X7_46 dX7_quarrels_11 rfl rfl ⟨rfl, rfl⟩ ⟨by decide, by decide⟩ (Nat.le_of_ble_eq_true rfl) (fun rv σ6 hp => ?_)
    obtain ⟨a7, rfl, h⟩ := hp
    change zV x σ6 14 [(0, za x (17)), (1, .int (zI (v1))), (2, .int (zI (v2))), (3, .int (zI (v3)))] [.int (zI (a7))]
    obtain ⟨o8, h⟩ := h
    refine z_if_eq C 29 dX7_quarrels_14 (by decide) o8 (fun c9 => ?_) (fun c9 => ?_)
    · have h := h.1 c9
      refine z_iconst C dX7_quarrels_29 ?_
      exact z_iret C E dX7_quarrels_30 ⟨_, rfl, h⟩
    · have h := h.2 c9
      refine z_iload_n C 3 dX7_quarrels_17 rfl rfl ?_
      obtain ⟨o10, h⟩ := h
      refine z_i2l C dX7_quarrels_18 o10 ?_
      refine z_lconst (z := 0) C dX7_quarrels_19 rfl ?_
      refine z_ldc2 (z := 2) C kl_X7_97 rfl dX7_quarrels_20 ?_
      refine z_callS (av := fun w => [.long (zJ (v3)), .long (zJ (0)), .long (zJ (2))]) C [] cs_X7_in (mX7_in v3 0 2  σ6 _ h) km_X7_46 dX7_quarrels_23 rfl rfl ⟨rfl, rfl⟩ ⟨by decide, by decide⟩ (Nat.le_of_ble_eq_true rfl) (fun rv σ11 hp => ?_)
      obtain ⟨a12, rfl, h⟩ := hp
      change zV x σ11 26 [(0, za x (17)), (1, .int (zI (v1))), (2, .int (zI (v2))), (3, .int (zI (v3)))] [.int (zI (a12))]
      obtain ⟨o13, h⟩ := h
      refine z_if_ne C 31 dX7_quarrels_26 (by decide) o13 (fun c14 => ?_) (fun c14 => ?_)
      · have h := h.1 c14
        refine z_iconst C dX7_quarrels_31 ?_
        refine z_istore C [(4, .int (zI (0))), (0, za x (17)), (1, .int (zI (v1))), (2, .int (zI (v2))), (3, .int (zI (v3)))] dX7_quarrels_32 (by rw [hN]; decide) rfl ?_
        refine z_bipush C dX7_quarrels_34 rfl ?_
        refine z_istore C [(5, .int (zI ((-4)))), (4, .int (zI (0))), (0, za x (17)), (1, .int (zI (v1))), (2, .int (zI (v2))), (3, .int (zI (v3)))] dX7_quarrels_36 (by rw [hN]; decide) rfl ?_
        refine z_iconst C dX7_quarrels_38 ?_
        refine z_istore C [(6, .int (zI (0))), (5, .int (zI ((-4)))), (4, .int (zI (0))), (0, za x (17)), (1, .int (zI (v1))), (2, .int (zI (v2))), (3, .int (zI (v3)))] dX7_quarrels_39 (by rw [hN]; decide) rfl ?_
        refine z_sub C [3, 4, 5, 6, 2, 1, 0] [(0, za x (17)), (1, .int (zI (v1))), (2, .int (zI (v2))), (3, .int (zI (v3))), (4, .int (zI (0))), (5, .int (zI ((-4)))), (6, .int (zI (0)))] rfl ?_
        obtain ⟨n15, h⟩ := h
        exact sX7_quarrels_41 C hN E n15 v1 v2 v3 0 ((-4)) 0  σ11 h
      · have h := h.2 c14
        refine z_iconst C dX7_quarrels_29 ?_
        exact z_iret C E dX7_quarrels_30 ⟨_, rfl, h⟩
