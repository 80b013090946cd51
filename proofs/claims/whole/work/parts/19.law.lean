/-! the law's loop -/
def zScr (x : Cx) (b L : Nat) (xs : Nat → Int32) : Prop := match x with
  | ((p, l, e, R, s, m, args, below, meth, c), w, A, Q, nL, ce, sl) => va_X b L xs s s.heap ∧ b < s.heap.size ∧ ¬ A b ∧ L < 2147483648
def zLaw (x : Cx) (b : Nat) : Prop := match x with
  | ((p, l, e, R, s, m, args, below, meth, c), w, A, Q, nL, ce, sl) => R = room_1 ∧ args = #[Value.ref b] ∧ Q = lw_Z below args s ∧ ce = 600000 ∧ sl = 7302250 ∧ ∀ q, A q → s.heap.size ≤ q
theorem z_sld {x : Cx} {cc : ByteArray} {own : String} {rt : Option FieldType} {f L0 : Nat} {σ : Hp} {pc : Nat} {lv : List (Nat × Value)} {st : List Value} (C : zOk x cc own rt f L0) {b L : Nat} {xs : Nat → Int32} {i : Int} (HS : zScr x b L xs) (d : decode cc pc = .ok (.iaload, 1)) (h0 : 0 ≤ i) (h1 : i < (L : Int)) (k : zV x σ (pc + 1) lv (.int (zI (xs i.toNat).toInt) :: st)) : zV x σ pc lv (.int (zI i) :: .ref b :: st) := by
  obtain ⟨⟨p, l, e, R, s, m, args, below, meth, c⟩, w, A, Q, nL, ce, sl⟩ := x
  intro H locs ls hl hP hS
  obtain ⟨a1, a2, a3, a4⟩ := HS
  refine va_sld C.1 C.2.1 a1 a2 a3 hS (zI_in h0 h1 a4) d ?_
  rw [zI_cl h0 h1 a4, ← zI_of (xs i.toNat)]
  exact k H locs ls hl hP hS
theorem z_slen {x : Cx} {cc : ByteArray} {own : String} {rt : Option FieldType} {f L0 : Nat} {σ : Hp} {pc : Nat} {lv : List (Nat × Value)} {st : List Value} (C : zOk x cc own rt f L0) {b L : Nat} {xs : Nat → Int32} (HS : zScr x b L xs) (d : decode cc pc = .ok (.arraylength, 1)) (k : zV x σ (pc + 1) lv (.int (zI (L : Int)) :: st)) : zV x σ pc lv (.ref b :: st) := by
  obtain ⟨⟨p, l, e, R, s, m, args, below, meth, c⟩, w, A, Q, nL, ce, sl⟩ := x
  intro H locs ls hl hP hS
  obtain ⟨a1, a2, a3, a4⟩ := HS
  refine va_slen C.1 C.2.1 a1 a2 a3 hS d ?_
  rw [← Int32.ofInt_eq_ofNat]
  exact k H locs ls hl hP hS
theorem z_aload_nS {x : Cx} {cc : ByteArray} {own : String} {rt : Option FieldType} {f L0 : Nat} {σ : Hp} {pc : Nat} {lv : List (Nat × Value)} {st : List Value} (C : zOk x cc own rt f L0) {k4 : Fin 4} {i b : Nat} (j : Nat) (d : decode cc pc = .ok (.aload_n k4, 1)) (hi : (k4 : Nat) = i) (hj : lv[j]? = some (i, .ref b)) (k : zV x σ (pc + 1) lv (.ref b :: st)) : zV x σ pc lv st := by
  obtain ⟨⟨p, l, e, R, s, m, args, below, meth, c⟩, w, A, Q, nL, ce, sl⟩ := x
  intro H locs ls hl hP hS
  exact lv_aload_n C.1 C.2.1 d hi (lv_at hl j hj) (k H locs ls hl hP hS)
theorem z_lawret {x : Cx} {own : String} {f L0 : Nat} {σ : Hp} {pc b : Nat} {lv : List (Nat × Value)} (C : zOk x code own ret f L0) (E : zLaw x b) (d : decode code pc = .ok (.ireturn, 1)) : zV x σ pc lv [.int (zI 1)] := by
  obtain ⟨⟨p, l, e, R, s, m, args, below, meth, c⟩, w, A, Q, nL, ce, sl⟩ := x
  intro H locs ls hl hP hS
  obtain ⟨rfl, rfl, rfl, rfl, rfl, hA⟩ := E
  exact va_forget (fun q hq => hA _ (hS.2.2 q hq)) (lw_ret C.1 C.2.1 C.2.2.2.2.2.2.2.2.1 C.2.2.2.2.2.2.2.2.2.1 d)

def wL_law_571 (L : Nat) (xs : Nat → Int32) (K18 : Int → Hp → Prop) (v3 : Int) (t0 : Int) (t1 : Int) (t2 : Int) (t3 : Int) (t4 : Int) (t6 : Int) (σ : Hp) : Prop :=
  wX7_hits t4 t3 t2 t1 t0 σ (fun a2 σ1 => zrg t6 ∧ zrg a2 ∧ ((t6 = a2 → K18 (v3 + 6) σ1) ∧ (¬ (t6 = a2) → False)))
set_option maxRecDepth 100000 in
theorem sL_law_571 {x : Cx} {b L : Nat} {xs : Nat → Int32} (C : zOk x cL_law RL ret 21 492) (hN : x.2.2.2.2.1 = 4) (E : zLaw x b) (HS : zScr x b L xs) {K18 : Int → Hp → Prop} (H18 : ∀ (v3 : Int) (σ : Hp), K18 v3 σ → zV x σ 18 [(0, .ref b), (1, za x (0)), (2, za x (17)), (3, .int (zI (v3)))] []) (v3 : Int) (t0 : Int) (t1 : Int) (t2 : Int) (t3 : Int) (t4 : Int) (t6 : Int) (σ : Hp) (h : wL_law_571 L xs K18 v3 t0 t1 t2 t3 t4 t6 σ) : zV x σ 571 [(0, .ref b), (1, za x (0)), (2, za x (17)), (3, .int (zI (v3)))] [.int (zI (t0)), .int (zI (t1)), .int (zI (t2)), .int (zI (t3)), .int (zI (t4)), za x (17), .int (zI (t6))] := by
  unfold wL_law_571 at h
  refine z_callV (av := fun w => [.int (zI (t4)), .int (zI (t3)), .int (zI (t2)), .int (zI (t1)), .int (zI (t0))]) C [.int (zI (t6))] cs_X7_hits (by decide) (fun _ _ => rfl) rfl (mX7_hits t4 t3 t2 t1 t0  σ _ h) km_L_63 dL_law_571 rfl rfl ⟨rfl, rfl⟩ ⟨by decide, by decide⟩ (Nat.le_of_ble_eq_true rfl) (fun rv σ1 hp => ?_)
  obtain ⟨a2, rfl, h⟩ := hp
  change zV x σ1 574 [(0, .ref b), (1, za x (0)), (2, za x (17)), (3, .int (zI (v3)))] [.int (zI (a2)), .int (zI (t6))]
  obtain ⟨o3, h⟩ := h
  obtain ⟨o4, h⟩ := h
  refine z_icmp_eq C 1183 dL_law_574 (by decide) o3 o4 (fun c5 => ?_) (fun c5 => ?_)
  · have h := h.1 c5
    refine z_iinc C 3 [(3, .int (zI (v3 + 6))), (0, .ref b), (1, za x (0)), (2, za x (17))] dL_law_1183 rfl (by rw [hN]; decide) rfl ?_
    refine z_goto C 18 dL_law_1186 (by decide) ?_
    refine z_sub C [1, 2, 3, 0] [(0, .ref b), (1, za x (0)), (2, za x (17)), (3, .int (zI (v3 + 6)))] rfl ?_
    exact H18 (v3 + 6)  σ1 h
  · have h := h.2 c5
    refine z_iconst C dL_law_577 ?_
    exact h.elim
def wL_law_1050 (L : Nat) (xs : Nat → Int32) (K18 : Int → Hp → Prop) (v3 : Int) (t0 : Int) (t1 : Int) (t2 : Int) (t4 : Int) (σ : Hp) : Prop :=
  wX7_corner t2 t1 t0 σ (fun a2 σ1 => zrg t4 ∧ zrg a2 ∧ ((t4 = a2 → K18 (v3 + 6) σ1) ∧ (¬ (t4 = a2) → False)))
set_option maxRecDepth 100000 in
theorem sL_law_1050 {x : Cx} {b L : Nat} {xs : Nat → Int32} (C : zOk x cL_law RL ret 21 492) (hN : x.2.2.2.2.1 = 4) (E : zLaw x b) (HS : zScr x b L xs) {K18 : Int → Hp → Prop} (H18 : ∀ (v3 : Int) (σ : Hp), K18 v3 σ → zV x σ 18 [(0, .ref b), (1, za x (0)), (2, za x (17)), (3, .int (zI (v3)))] []) (v3 : Int) (t0 : Int) (t1 : Int) (t2 : Int) (t4 : Int) (σ : Hp) (h : wL_law_1050 L xs K18 v3 t0 t1 t2 t4 σ) : zV x σ 1050 [(0, .ref b), (1, za x (0)), (2, za x (17)), (3, .int (zI (v3)))] [.int (zI (t0)), .int (zI (t1)), .int (zI (t2)), za x (17), .int (zI (t4))] := by
  unfold wL_law_1050 at h
  refine z_callV (av := fun w => [.int (zI (t2)), .int (zI (t1)), .int (zI (t0))]) C [.int (zI (t4))] cs_X7_corner (by decide) (fun _ _ => rfl) rfl (mX7_corner t2 t1 t0  σ _ h) km_L_109 dL_law_1050 rfl rfl ⟨rfl, rfl⟩ ⟨by decide, by decide⟩ (Nat.le_of_ble_eq_true rfl) (fun rv σ1 hp => ?_)
  obtain ⟨a2, rfl, h⟩ := hp
  change zV x σ1 1053 [(0, .ref b), (1, za x (0)), (2, za x (17)), (3, .int (zI (v3)))] [.int (zI (a2)), .int (zI (t4))]
  obtain ⟨o3, h⟩ := h
  obtain ⟨o4, h⟩ := h
  refine z_icmp_eq C 1183 dL_law_1053 (by decide) o3 o4 (fun c5 => ?_) (fun c5 => ?_)
  · have h := h.1 c5
    refine z_iinc C 3 [(3, .int (zI (v3 + 6))), (0, .ref b), (1, za x (0)), (2, za x (17))] dL_law_1183 rfl (by rw [hN]; decide) rfl ?_
    refine z_goto C 18 dL_law_1186 (by decide) ?_
    refine z_sub C [1, 2, 3, 0] [(0, .ref b), (1, za x (0)), (2, za x (17)), (3, .int (zI (v3 + 6)))] rfl ?_
    exact H18 (v3 + 6)  σ1 h
  · have h := h.2 c5
    refine z_iconst C dL_law_1056 ?_
    exact h.elim
def wL_law_534 (L : Nat) (xs : Nat → Int32) (K18 : Int → Hp → Prop) (v3 : Int) (t0 : Int) (t1 : Int) (t2 : Int) (t3 : Int) (t4 : Int) (σ : Hp) : Prop :=
  wX6_hits t4 t3 t2 t1 t0 σ (fun a2 σ1 => (0 ≤ v3 + 1 ∧ v3 + 1 < (L : Int)) ∧ (0 ≤ v3 + 2 ∧ v3 + 2 < (L : Int)) ∧ (0 ≤ v3 + 3 ∧ v3 + 3 < (L : Int)) ∧ (0 ≤ v3 + 4 ∧ v3 + 4 < (L : Int)) ∧ (0 ≤ v3 + 5 ∧ v3 + 5 < (L : Int)) ∧ zrg ((xs (v3 + 5).toNat).toInt) ∧ (((xs (v3 + 5).toNat).toInt = 0 → wL_law_571 L xs K18 v3 0 ((xs (v3 + 4).toNat).toInt) ((xs (v3 + 3).toNat).toInt) ((xs (v3 + 2).toNat).toInt) ((xs (v3 + 1).toNat).toInt) a2 σ1) ∧ (¬ ((xs (v3 + 5).toNat).toInt = 0) → wL_law_571 L xs K18 v3 1 ((xs (v3 + 4).toNat).toInt) ((xs (v3 + 3).toNat).toInt) ((xs (v3 + 2).toNat).toInt) ((xs (v3 + 1).toNat).toInt) a2 σ1)))
set_option maxRecDepth 100000 in
theorem sL_law_534 {x : Cx} {b L : Nat} {xs : Nat → Int32} (C : zOk x cL_law RL ret 21 492) (hN : x.2.2.2.2.1 = 4) (E : zLaw x b) (HS : zScr x b L xs) {K18 : Int → Hp → Prop} (H18 : ∀ (v3 : Int) (σ : Hp), K18 v3 σ → zV x σ 18 [(0, .ref b), (1, za x (0)), (2, za x (17)), (3, .int (zI (v3)))] []) (v3 : Int) (t0 : Int) (t1 : Int) (t2 : Int) (t3 : Int) (t4 : Int) (σ : Hp) (h : wL_law_534 L xs K18 v3 t0 t1 t2 t3 t4 σ) : zV x σ 534 [(0, .ref b), (1, za x (0)), (2, za x (17)), (3, .int (zI (v3)))] [.int (zI (t0)), .int (zI (t1)), .int (zI (t2)), .int (zI (t3)), .int (zI (t4)), za x (0)] := by
  unfold wL_law_534 at h
  refine z_callV (av := fun w => [.int (zI (t4)), .int (zI (t3)), .int (zI (t2)), .int (zI (t1)), .int (zI (t0))]) C [] cs_X6_hits (by decide) (fun _ _ => rfl) rfl (mX6_hits t4 t3 t2 t1 t0  σ _ h) km_L_59 dL_law_534 rfl rfl ⟨rfl, rfl⟩ ⟨by decide, by decide⟩ (Nat.le_of_ble_eq_true rfl) (fun rv σ1 hp => ?_)
  obtain ⟨a2, rfl, h⟩ := hp
  change zV x σ1 537 [(0, .ref b), (1, za x (0)), (2, za x (17)), (3, .int (zI (v3)))] [.int (zI (a2))]
  refine z_aload_n C 2 dL_law_537 rfl rfl ?_
  refine z_aload_nS C 0 dL_law_538 rfl rfl ?_
  refine z_iload_n C 3 dL_law_539 rfl rfl ?_
  refine z_iconst C dL_law_540 ?_
  refine z_iadd C dL_law_541 ?_
  obtain ⟨o3, h⟩ := h
  refine z_sld C HS dL_law_542 o3.1 o3.2 ?_
  refine z_aload_nS C 0 dL_law_543 rfl rfl ?_
  refine z_iload_n C 3 dL_law_544 rfl rfl ?_
  refine z_iconst C dL_law_545 ?_
  refine z_iadd C dL_law_546 ?_
  obtain ⟨o4, h⟩ := h
  refine z_sld C HS dL_law_547 o4.1 o4.2 ?_
  refine z_aload_nS C 0 dL_law_548 rfl rfl ?_
  refine z_iload_n C 3 dL_law_549 rfl rfl ?_
  refine z_iconst C dL_law_550 ?_
  refine z_iadd C dL_law_551 ?_
  obtain ⟨o5, h⟩ := h
  refine z_sld C HS dL_law_552 o5.1 o5.2 ?_
  refine z_aload_nS C 0 dL_law_553 rfl rfl ?_
  refine z_iload_n C 3 dL_law_554 rfl rfl ?_
  refine z_iconst C dL_law_555 ?_
  refine z_iadd C dL_law_556 ?_
  obtain ⟨o6, h⟩ := h
  refine z_sld C HS dL_law_557 o6.1 o6.2 ?_
  refine z_aload_nS C 0 dL_law_558 rfl rfl ?_
  refine z_iload_n C 3 dL_law_559 rfl rfl ?_
  refine z_iconst C dL_law_560 ?_
  refine z_iadd C dL_law_561 ?_
  obtain ⟨o7, h⟩ := h
  refine z_sld C HS dL_law_562 o7.1 o7.2 ?_
  obtain ⟨o8, h⟩ := h
  refine z_if_eq C 570 dL_law_563 (by decide) o8 (fun c9 => ?_) (fun c9 => ?_)
  · have h := h.1 c9
    refine z_iconst C dL_law_570 ?_
    exact sL_law_571 C hN E HS H18 v3 0 ((xs (v3 + 4).toNat).toInt) ((xs (v3 + 3).toNat).toInt) ((xs (v3 + 2).toNat).toInt) ((xs (v3 + 1).toNat).toInt) a2  σ1 h
  · have h := h.2 c9
    refine z_iconst C dL_law_566 ?_
    refine z_goto C 571 dL_law_567 (by decide) ?_
    exact sL_law_571 C hN E HS H18 v3 1 ((xs (v3 + 4).toNat).toInt) ((xs (v3 + 3).toNat).toInt) ((xs (v3 + 2).toNat).toInt) ((xs (v3 + 1).toNat).toInt) a2  σ1 h
def wL_law_1023 (L : Nat) (xs : Nat → Int32) (K18 : Int → Hp → Prop) (v3 : Int) (t0 : Int) (t1 : Int) (t2 : Int) (σ : Hp) : Prop :=
  wX6_corner t2 t1 t0 σ (fun a2 σ1 => (0 ≤ v3 + 1 ∧ v3 + 1 < (L : Int)) ∧ (0 ≤ v3 + 2 ∧ v3 + 2 < (L : Int)) ∧ (0 ≤ v3 + 3 ∧ v3 + 3 < (L : Int)) ∧ zrg ((xs (v3 + 3).toNat).toInt) ∧ (((xs (v3 + 3).toNat).toInt = 0 → wL_law_1050 L xs K18 v3 0 ((xs (v3 + 2).toNat).toInt) ((xs (v3 + 1).toNat).toInt) a2 σ1) ∧ (¬ ((xs (v3 + 3).toNat).toInt = 0) → wL_law_1050 L xs K18 v3 1 ((xs (v3 + 2).toNat).toInt) ((xs (v3 + 1).toNat).toInt) a2 σ1)))
set_option maxRecDepth 100000 in
theorem sL_law_1023 {x : Cx} {b L : Nat} {xs : Nat → Int32} (C : zOk x cL_law RL ret 21 492) (hN : x.2.2.2.2.1 = 4) (E : zLaw x b) (HS : zScr x b L xs) {K18 : Int → Hp → Prop} (H18 : ∀ (v3 : Int) (σ : Hp), K18 v3 σ → zV x σ 18 [(0, .ref b), (1, za x (0)), (2, za x (17)), (3, .int (zI (v3)))] []) (v3 : Int) (t0 : Int) (t1 : Int) (t2 : Int) (σ : Hp) (h : wL_law_1023 L xs K18 v3 t0 t1 t2 σ) : zV x σ 1023 [(0, .ref b), (1, za x (0)), (2, za x (17)), (3, .int (zI (v3)))] [.int (zI (t0)), .int (zI (t1)), .int (zI (t2)), za x (0)] := by
  unfold wL_law_1023 at h
  refine z_callV (av := fun w => [.int (zI (t2)), .int (zI (t1)), .int (zI (t0))]) C [] cs_X6_corner (by decide) (fun _ _ => rfl) rfl (mX6_corner t2 t1 t0  σ _ h) km_L_105 dL_law_1023 rfl rfl ⟨rfl, rfl⟩ ⟨by decide, by decide⟩ (Nat.le_of_ble_eq_true rfl) (fun rv σ1 hp => ?_)
  obtain ⟨a2, rfl, h⟩ := hp
  change zV x σ1 1026 [(0, .ref b), (1, za x (0)), (2, za x (17)), (3, .int (zI (v3)))] [.int (zI (a2))]
  refine z_aload_n C 2 dL_law_1026 rfl rfl ?_
  refine z_aload_nS C 0 dL_law_1027 rfl rfl ?_
  refine z_iload_n C 3 dL_law_1028 rfl rfl ?_
  refine z_iconst C dL_law_1029 ?_
  refine z_iadd C dL_law_1030 ?_
  obtain ⟨o3, h⟩ := h
  refine z_sld C HS dL_law_1031 o3.1 o3.2 ?_
  refine z_aload_nS C 0 dL_law_1032 rfl rfl ?_
  refine z_iload_n C 3 dL_law_1033 rfl rfl ?_
  refine z_iconst C dL_law_1034 ?_
  refine z_iadd C dL_law_1035 ?_
  obtain ⟨o4, h⟩ := h
  refine z_sld C HS dL_law_1036 o4.1 o4.2 ?_
  refine z_aload_nS C 0 dL_law_1037 rfl rfl ?_
  refine z_iload_n C 3 dL_law_1038 rfl rfl ?_
  refine z_iconst C dL_law_1039 ?_
  refine z_iadd C dL_law_1040 ?_
  obtain ⟨o5, h⟩ := h
  refine z_sld C HS dL_law_1041 o5.1 o5.2 ?_
  obtain ⟨o6, h⟩ := h
  refine z_if_eq C 1049 dL_law_1042 (by decide) o6 (fun c7 => ?_) (fun c7 => ?_)
  · have h := h.1 c7
    refine z_iconst C dL_law_1049 ?_
    exact sL_law_1050 C hN E HS H18 v3 0 ((xs (v3 + 2).toNat).toInt) ((xs (v3 + 1).toNat).toInt) a2  σ1 h
  · have h := h.2 c7
    refine z_iconst C dL_law_1045 ?_
    refine z_goto C 1050 dL_law_1046 (by decide) ?_
    exact sL_law_1050 C hN E HS H18 v3 1 ((xs (v3 + 2).toNat).toInt) ((xs (v3 + 1).toNat).toInt) a2  σ1 h
def wL_law_18 (L : Nat) (xs : Nat → Int32) : Nat → Int → Hp → Prop
  | 0, _, _ => False
  | n + 1, v3, σ => zrg v3 ∧ zrg (((L : Int)) - 6) ∧ ((((L : Int)) - 6 < v3 → True) ∧ (¬ (((L : Int)) - 6 < v3) → (0 ≤ v3 ∧ v3 < (L : Int)) ∧ zrg (zand ((xs v3.toNat).toInt) 31) ∧ (zand ((xs v3.toNat).toInt) 31 < 0 ∨ 25 < zand ((xs v3.toNat).toInt) 31 → wL_law_18 L xs n (v3 + 6) σ) ∧ (zand ((xs v3.toNat).toInt) 31 = 0 → (0 ≤ v3 + 1 ∧ v3 + 1 < (L : Int)) ∧ (0 ≤ v3 + 2 ∧ v3 + 2 < (L : Int)) ∧ (0 ≤ v3 + 3 ∧ v3 + 3 < (L : Int)) ∧ (0 ≤ v3 + 4 ∧ v3 + 4 < (L : Int)) ∧ zrg ((xs (v3 + 4).toNat).toInt) ∧ (0 ≤ v3 + 5 ∧ v3 + 5 < (L : Int)) ∧ zrg ((xs (v3 + 5).toNat).toInt) ∧ wX6_row ((xs (v3 + 1).toNat).toInt) ((xs (v3 + 2).toNat).toInt) ((xs (v3 + 3).toNat).toInt) (zLor (zLshl ((xs (v3 + 4).toNat).toInt) 32) (zLand ((xs (v3 + 5).toNat).toInt) 4294967295)) σ (fun a15 σ14 => wX7_row ((xs (v3 + 1).toNat).toInt) ((xs (v3 + 2).toNat).toInt) ((xs (v3 + 3).toNat).toInt) (zLor (zLshl ((xs (v3 + 4).toNat).toInt) 32) (zLand ((xs (v3 + 5).toNat).toInt) 4294967295)) σ14 (fun a17 σ16 => zrg a15 ∧ zrg a17 ∧ ((a15 = a17 → wL_law_18 L xs n (v3 + 6) σ16) ∧ (¬ (a15 = a17) → False))))) ∧ (zand ((xs v3.toNat).toInt) 31 = 1 → (0 ≤ v3 + 1 ∧ v3 + 1 < (L : Int)) ∧ (0 ≤ v3 + 2 ∧ v3 + 2 < (L : Int)) ∧ zrg ((xs (v3 + 2).toNat).toInt) ∧ (0 ≤ v3 + 3 ∧ v3 + 3 < (L : Int)) ∧ zrg ((xs (v3 + 3).toNat).toInt) ∧ wX6_write ((xs (v3 + 1).toNat).toInt) (zLor (zLshl ((xs (v3 + 2).toNat).toInt) 32) (zLand ((xs (v3 + 3).toNat).toInt) 4294967295)) σ (fun a27 σ26 => wX7_write ((xs (v3 + 1).toNat).toInt) (zLor (zLshl ((xs (v3 + 2).toNat).toInt) 32) (zLand ((xs (v3 + 3).toNat).toInt) 4294967295)) σ26 (fun a29 σ28 => zrg a27 ∧ zrg a29 ∧ ((a27 = a29 → wL_law_18 L xs n (v3 + 6) σ28) ∧ (¬ (a27 = a29) → False))))) ∧ (zand ((xs v3.toNat).toInt) 31 = 2 → wX6_wipe  σ (fun a34 σ33 => wX7_wipe  σ33 (fun a36 σ35 => zrg a34 ∧ zrg a36 ∧ ((a34 = a36 → wL_law_18 L xs n (v3 + 6) σ35) ∧ (¬ (a34 = a36) → False))))) ∧ (zand ((xs v3.toNat).toInt) 31 = 3 → wX6_fault  σ (fun a41 σ40 => wX7_fault  σ40 (fun a43 σ42 => zrg a41 ∧ zrg a43 ∧ ((a41 = a43 → wL_law_18 L xs n (v3 + 6) σ42) ∧ (¬ (a41 = a43) → False))))) ∧ (zand ((xs v3.toNat).toInt) 31 = 4 → (0 ≤ v3 + 1 ∧ v3 + 1 < (L : Int)) ∧ wX6_lay ((xs (v3 + 1).toNat).toInt) σ (fun a49 σ48 => wX7_lay ((xs (v3 + 1).toNat).toInt) σ48 (fun a51 σ50 => zrg a49 ∧ zrg a51 ∧ ((a49 = a51 → wL_law_18 L xs n (v3 + 6) σ50) ∧ (¬ (a49 = a51) → False))))) ∧ (zand ((xs v3.toNat).toInt) 31 = 5 → (0 ≤ v3 + 1 ∧ v3 + 1 < (L : Int)) ∧ (0 ≤ v3 + 2 ∧ v3 + 2 < (L : Int)) ∧ wX6_told ((xs (v3 + 1).toNat).toInt) ((xs (v3 + 2).toNat).toInt) σ (fun a58 σ57 => wX7_told ((xs (v3 + 1).toNat).toInt) ((xs (v3 + 2).toNat).toInt) σ57 (fun a60 σ59 => zrg a58 ∧ zrg a60 ∧ ((a58 = a60 → wL_law_18 L xs n (v3 + 6) σ59) ∧ (¬ (a58 = a60) → False))))) ∧ (zand ((xs v3.toNat).toInt) 31 = 6 → (0 ≤ v3 + 1 ∧ v3 + 1 < (L : Int)) ∧ wX6_marks ((xs (v3 + 1).toNat).toInt) σ (fun a66 σ65 => wX7_marks ((xs (v3 + 1).toNat).toInt) σ65 (fun a68 σ67 => zrl a66 ∧ zrl a68 ∧ ((a66 = a68 → wL_law_18 L xs n (v3 + 6) σ67) ∧ (¬ (a66 = a68) → False))))) ∧ (zand ((xs v3.toNat).toInt) 31 = 7 → (0 ≤ v3 + 1 ∧ v3 + 1 < (L : Int)) ∧ (0 ≤ v3 + 2 ∧ v3 + 2 < (L : Int)) ∧ (0 ≤ v3 + 3 ∧ v3 + 3 < (L : Int)) ∧ (0 ≤ v3 + 4 ∧ v3 + 4 < (L : Int)) ∧ wX6_difference ((xs (v3 + 1).toNat).toInt) ((xs (v3 + 2).toNat).toInt) ((xs (v3 + 3).toNat).toInt) ((xs (v3 + 4).toNat).toInt) σ (fun a77 σ76 => wX7_difference ((xs (v3 + 1).toNat).toInt) ((xs (v3 + 2).toNat).toInt) ((xs (v3 + 3).toNat).toInt) ((xs (v3 + 4).toNat).toInt) σ76 (fun a79 σ78 => zrg a77 ∧ zrg a79 ∧ ((a77 = a79 → wL_law_18 L xs n (v3 + 6) σ78) ∧ (¬ (a77 = a79) → False))))) ∧ (zand ((xs v3.toNat).toInt) 31 = 8 → (0 ≤ v3 + 1 ∧ v3 + 1 < (L : Int)) ∧ (0 ≤ v3 + 2 ∧ v3 + 2 < (L : Int)) ∧ (0 ≤ v3 + 3 ∧ v3 + 3 < (L : Int)) ∧ wX6_quarrels ((xs (v3 + 1).toNat).toInt) ((xs (v3 + 2).toNat).toInt) ((xs (v3 + 3).toNat).toInt) σ (fun a87 σ86 => wX7_quarrels ((xs (v3 + 1).toNat).toInt) ((xs (v3 + 2).toNat).toInt) ((xs (v3 + 3).toNat).toInt) σ86 (fun a89 σ88 => zrg a87 ∧ zrg a89 ∧ ((a87 = a89 → wL_law_18 L xs n (v3 + 6) σ88) ∧ (¬ (a87 = a89) → False))))) ∧ (zand ((xs v3.toNat).toInt) 31 = 9 → (0 ≤ v3 + 1 ∧ v3 + 1 < (L : Int)) ∧ (0 ≤ v3 + 2 ∧ v3 + 2 < (L : Int)) ∧ (0 ≤ v3 + 3 ∧ v3 + 3 < (L : Int)) ∧ (0 ≤ v3 + 4 ∧ v3 + 4 < (L : Int)) ∧ (0 ≤ v3 + 5 ∧ v3 + 5 < (L : Int)) ∧ zrg ((xs (v3 + 5).toNat).toInt) ∧ (((xs (v3 + 5).toNat).toInt = 0 → wL_law_534 L xs (fun v3 σ => wL_law_18 L xs n v3 σ) v3 0 ((xs (v3 + 4).toNat).toInt) ((xs (v3 + 3).toNat).toInt) ((xs (v3 + 2).toNat).toInt) ((xs (v3 + 1).toNat).toInt) σ) ∧ (¬ ((xs (v3 + 5).toNat).toInt = 0) → wL_law_534 L xs (fun v3 σ => wL_law_18 L xs n v3 σ) v3 1 ((xs (v3 + 4).toNat).toInt) ((xs (v3 + 3).toNat).toInt) ((xs (v3 + 2).toNat).toInt) ((xs (v3 + 1).toNat).toInt) σ))) ∧ (zand ((xs v3.toNat).toInt) 31 = 10 → (0 ≤ v3 + 1 ∧ v3 + 1 < (L : Int)) ∧ (0 ≤ v3 + 2 ∧ v3 + 2 < (L : Int)) ∧ (0 ≤ v3 + 3 ∧ v3 + 3 < (L : Int)) ∧ wX6_most ((xs (v3 + 1).toNat).toInt) ((xs (v3 + 2).toNat).toInt) ((xs (v3 + 3).toNat).toInt) σ (fun a104 σ103 => wX7_most ((xs (v3 + 1).toNat).toInt) ((xs (v3 + 2).toNat).toInt) ((xs (v3 + 3).toNat).toInt) σ103 (fun a106 σ105 => zrg a104 ∧ zrg a106 ∧ ((a104 = a106 → wL_law_18 L xs n (v3 + 6) σ105) ∧ (¬ (a104 = a106) → False))))) ∧ (zand ((xs v3.toNat).toInt) 31 = 11 → (0 ≤ v3 + 1 ∧ v3 + 1 < (L : Int)) ∧ (0 ≤ v3 + 2 ∧ v3 + 2 < (L : Int)) ∧ (0 ≤ v3 + 3 ∧ v3 + 3 < (L : Int)) ∧ wX6_squares ((xs (v3 + 1).toNat).toInt) ((xs (v3 + 2).toNat).toInt) ((xs (v3 + 3).toNat).toInt) σ (fun a114 σ113 => wX7_squares ((xs (v3 + 1).toNat).toInt) ((xs (v3 + 2).toNat).toInt) ((xs (v3 + 3).toNat).toInt) σ113 (fun a116 σ115 => zrg a114 ∧ zrg a116 ∧ ((a114 = a116 → wL_law_18 L xs n (v3 + 6) σ115) ∧ (¬ (a114 = a116) → False))))) ∧ (zand ((xs v3.toNat).toInt) 31 = 12 → (0 ≤ v3 + 1 ∧ v3 + 1 < (L : Int)) ∧ (0 ≤ v3 + 2 ∧ v3 + 2 < (L : Int)) ∧ (0 ≤ v3 + 3 ∧ v3 + 3 < (L : Int)) ∧ wX6_holding ((xs (v3 + 1).toNat).toInt) ((xs (v3 + 2).toNat).toInt) ((xs (v3 + 3).toNat).toInt) σ (fun a124 σ123 => wX7_holding ((xs (v3 + 1).toNat).toInt) ((xs (v3 + 2).toNat).toInt) ((xs (v3 + 3).toNat).toInt) σ123 (fun a126 σ125 => zrg a124 ∧ zrg a126 ∧ ((a124 = a126 → wL_law_18 L xs n (v3 + 6) σ125) ∧ (¬ (a124 = a126) → False))))) ∧ (zand ((xs v3.toNat).toInt) 31 = 13 → (0 ≤ v3 + 1 ∧ v3 + 1 < (L : Int)) ∧ (0 ≤ v3 + 2 ∧ v3 + 2 < (L : Int)) ∧ wX6_nearly ((xs (v3 + 1).toNat).toInt) ((xs (v3 + 2).toNat).toInt) σ (fun a133 σ132 => wX7_nearly ((xs (v3 + 1).toNat).toInt) ((xs (v3 + 2).toNat).toInt) σ132 (fun a135 σ134 => zrg a133 ∧ zrg a135 ∧ ((a133 = a135 → wL_law_18 L xs n (v3 + 6) σ134) ∧ (¬ (a133 = a135) → False))))) ∧ (zand ((xs v3.toNat).toInt) 31 = 14 → (0 ≤ v3 + 1 ∧ v3 + 1 < (L : Int)) ∧ (0 ≤ v3 + 2 ∧ v3 + 2 < (L : Int)) ∧ (0 ≤ v3 + 3 ∧ v3 + 3 < (L : Int)) ∧ (0 ≤ v3 + 4 ∧ v3 + 4 < (L : Int)) ∧ (0 ≤ v3 + 5 ∧ v3 + 5 < (L : Int)) ∧ wX6_rows ((xs (v3 + 1).toNat).toInt) ((xs (v3 + 2).toNat).toInt) ((xs (v3 + 3).toNat).toInt) ((xs (v3 + 4).toNat).toInt) ((xs (v3 + 5).toNat).toInt) σ (fun a145 σ144 => wX7_rows ((xs (v3 + 1).toNat).toInt) ((xs (v3 + 2).toNat).toInt) ((xs (v3 + 3).toNat).toInt) ((xs (v3 + 4).toNat).toInt) ((xs (v3 + 5).toNat).toInt) σ144 (fun a147 σ146 => zrg a145 ∧ zrg a147 ∧ ((a145 = a147 → wL_law_18 L xs n (v3 + 6) σ146) ∧ (¬ (a145 = a147) → False))))) ∧ (zand ((xs v3.toNat).toInt) 31 = 15 → (0 ≤ v3 + 1 ∧ v3 + 1 < (L : Int)) ∧ (0 ≤ v3 + 2 ∧ v3 + 2 < (L : Int)) ∧ wX6_longest ((xs (v3 + 1).toNat).toInt) ((xs (v3 + 2).toNat).toInt) σ (fun a154 σ153 => wX7_longest ((xs (v3 + 1).toNat).toInt) ((xs (v3 + 2).toNat).toInt) σ153 (fun a156 σ155 => zrg a154 ∧ zrg a156 ∧ ((a154 = a156 → wL_law_18 L xs n (v3 + 6) σ155) ∧ (¬ (a154 = a156) → False))))) ∧ (zand ((xs v3.toNat).toInt) 31 = 16 → (0 ≤ v3 + 1 ∧ v3 + 1 < (L : Int)) ∧ (0 ≤ v3 + 2 ∧ v3 + 2 < (L : Int)) ∧ (0 ≤ v3 + 3 ∧ v3 + 3 < (L : Int)) ∧ (0 ≤ v3 + 4 ∧ v3 + 4 < (L : Int)) ∧ wX6_powers ((xs (v3 + 1).toNat).toInt) ((xs (v3 + 2).toNat).toInt) ((xs (v3 + 3).toNat).toInt) ((xs (v3 + 4).toNat).toInt) σ (fun a165 σ164 => wX7_powers ((xs (v3 + 1).toNat).toInt) ((xs (v3 + 2).toNat).toInt) ((xs (v3 + 3).toNat).toInt) ((xs (v3 + 4).toNat).toInt) σ164 (fun a167 σ166 => zrg a165 ∧ zrg a167 ∧ ((a165 = a167 → wL_law_18 L xs n (v3 + 6) σ166) ∧ (¬ (a165 = a167) → False))))) ∧ (zand ((xs v3.toNat).toInt) 31 = 17 → (0 ≤ v3 + 1 ∧ v3 + 1 < (L : Int)) ∧ (0 ≤ v3 + 2 ∧ v3 + 2 < (L : Int)) ∧ (0 ≤ v3 + 3 ∧ v3 + 3 < (L : Int)) ∧ (0 ≤ v3 + 4 ∧ v3 + 4 < (L : Int)) ∧ wX6_sums ((xs (v3 + 1).toNat).toInt) ((xs (v3 + 2).toNat).toInt) ((xs (v3 + 3).toNat).toInt) ((xs (v3 + 4).toNat).toInt) σ (fun a176 σ175 => wX7_sums ((xs (v3 + 1).toNat).toInt) ((xs (v3 + 2).toNat).toInt) ((xs (v3 + 3).toNat).toInt) ((xs (v3 + 4).toNat).toInt) σ175 (fun a178 σ177 => zrg a176 ∧ zrg a178 ∧ ((a176 = a178 → wL_law_18 L xs n (v3 + 6) σ177) ∧ (¬ (a176 = a178) → False))))) ∧ (zand ((xs v3.toNat).toInt) 31 = 18 → (0 ≤ v3 + 1 ∧ v3 + 1 < (L : Int)) ∧ (0 ≤ v3 + 2 ∧ v3 + 2 < (L : Int)) ∧ wX6_turn ((xs (v3 + 1).toNat).toInt) ((xs (v3 + 2).toNat).toInt) σ (fun a185 σ184 => wX7_turn ((xs (v3 + 1).toNat).toInt) ((xs (v3 + 2).toNat).toInt) σ184 (fun a187 σ186 => zrg a185 ∧ zrg a187 ∧ ((a185 = a187 → wL_law_18 L xs n (v3 + 6) σ186) ∧ (¬ (a185 = a187) → False))))) ∧ (zand ((xs v3.toNat).toInt) 31 = 19 → (0 ≤ v3 + 1 ∧ v3 + 1 < (L : Int)) ∧ wX6_like ((xs (v3 + 1).toNat).toInt) σ (fun a193 σ192 => wX7_like ((xs (v3 + 1).toNat).toInt) σ192 (fun a195 σ194 => zrg a193 ∧ zrg a195 ∧ ((a193 = a195 → wL_law_18 L xs n (v3 + 6) σ194) ∧ (¬ (a193 = a195) → False))))) ∧ (zand ((xs v3.toNat).toInt) 31 = 20 → (0 ≤ v3 + 1 ∧ v3 + 1 < (L : Int)) ∧ (0 ≤ v3 + 2 ∧ v3 + 2 < (L : Int)) ∧ (0 ≤ v3 + 3 ∧ v3 + 3 < (L : Int)) ∧ zrg ((xs (v3 + 3).toNat).toInt) ∧ (((xs (v3 + 3).toNat).toInt = 0 → wL_law_1023 L xs (fun v3 σ => wL_law_18 L xs n v3 σ) v3 0 ((xs (v3 + 2).toNat).toInt) ((xs (v3 + 1).toNat).toInt) σ) ∧ (¬ ((xs (v3 + 3).toNat).toInt = 0) → wL_law_1023 L xs (fun v3 σ => wL_law_18 L xs n v3 σ) v3 1 ((xs (v3 + 2).toNat).toInt) ((xs (v3 + 1).toNat).toInt) σ))) ∧ (zand ((xs v3.toNat).toInt) 31 = 21 → (0 ≤ v3 + 1 ∧ v3 + 1 < (L : Int)) ∧ (0 ≤ v3 + 2 ∧ v3 + 2 < (L : Int)) ∧ wX6_hear ((xs (v3 + 1).toNat).toInt) ((xs (v3 + 2).toNat).toInt) σ (fun a207 σ206 => wX7_hear ((xs (v3 + 1).toNat).toInt) ((xs (v3 + 2).toNat).toInt) σ206 (fun a209 σ208 => zrg a207 ∧ zrg a209 ∧ ((a207 = a209 → wL_law_18 L xs n (v3 + 6) σ208) ∧ (¬ (a207 = a209) → False))))) ∧ (zand ((xs v3.toNat).toInt) 31 = 22 → wX6_still  σ (fun a214 σ213 => wX7_still  σ213 (fun a216 σ215 => zrg a214 ∧ zrg a216 ∧ ((a214 = a216 → wL_law_18 L xs n (v3 + 6) σ215) ∧ (¬ (a214 = a216) → False))))) ∧ (zand ((xs v3.toNat).toInt) 31 = 23 → (0 ≤ v3 + 1 ∧ v3 + 1 < (L : Int)) ∧ (0 ≤ v3 + 2 ∧ v3 + 2 < (L : Int)) ∧ wX6_found ((xs (v3 + 1).toNat).toInt) ((xs (v3 + 2).toNat).toInt) σ (fun a223 σ222 => wX7_found ((xs (v3 + 1).toNat).toInt) ((xs (v3 + 2).toNat).toInt) σ222 (fun a225 σ224 => zrg a223 ∧ zrg a225 ∧ ((a223 = a225 → wL_law_18 L xs n (v3 + 6) σ224) ∧ (¬ (a223 = a225) → False))))) ∧ (zand ((xs v3.toNat).toInt) 31 = 24 → (0 ≤ v3 + 1 ∧ v3 + 1 < (L : Int)) ∧ wX6_among ((xs (v3 + 1).toNat).toInt) σ (fun a231 σ230 => wX7_among ((xs (v3 + 1).toNat).toInt) σ230 (fun a233 σ232 => zrg a231 ∧ zrg a233 ∧ ((a231 = a233 → wL_law_18 L xs n (v3 + 6) σ232) ∧ (¬ (a231 = a233) → False))))) ∧ (zand ((xs v3.toNat).toInt) 31 = 25 → (0 ≤ v3 + 1 ∧ v3 + 1 < (L : Int)) ∧ wX6_count ((xs (v3 + 1).toNat).toInt) σ (fun a239 σ238 => wX7_count ((xs (v3 + 1).toNat).toInt) σ238 (fun a241 σ240 => zrg a239 ∧ zrg a241 ∧ ((a239 = a241 → wL_law_18 L xs n (v3 + 6) σ240) ∧ (¬ (a239 = a241) → False)))))))
set_option maxRecDepth 100000 in
set_option maxHeartbeats 8000000 in
theorem sL_law_18 {x : Cx} {b L : Nat} {xs : Nat → Int32} (C : zOk x cL_law RL ret 21 492) (hN : x.2.2.2.2.1 = 4) (E : zLaw x b) (HS : zScr x b L xs) : ∀ (n : Nat) (v3 : Int) (σ : Hp), wL_law_18 L xs n v3 σ → zV x σ 18 [(0, .ref b), (1, za x (0)), (2, za x (17)), (3, .int (zI (v3)))] [] := by
  intro n
  induction n with
  | zero => intro _ _ h; exact h.elim
  | succ n ih =>
    intro v3 σ h
    unfold wL_law_18 at h
    refine z_iload_n C 3 dL_law_18 rfl rfl ?_
    refine z_aload_nS C 0 dL_law_19 rfl rfl ?_
    refine z_slen C HS dL_law_20 ?_
    refine z_bipush C dL_law_21 rfl ?_
    refine z_isub C dL_law_23 ?_
    obtain ⟨o1, h⟩ := h
    obtain ⟨o2, h⟩ := h
    refine z_icmp_gt C 1189 dL_law_24 (by decide) o1 o2 (fun c3 => ?_) (fun c3 => ?_)
    · have h := h.1 c3
      refine z_iconst C dL_law_1189 ?_
      exact z_lawret C E dL_law_1190
    · have h := h.2 c3
      refine z_aload_nS C 0 dL_law_27 rfl rfl ?_
      refine z_iload_n C 3 dL_law_28 rfl rfl ?_
      obtain ⟨o4, h⟩ := h
      refine z_sld C HS dL_law_29 o4.1 o4.2 ?_
      refine z_bipush C dL_law_30 rfl ?_
      refine z_iand C dL_law_32 ?_
      obtain ⟨o5, h⟩ := h
      by_cases c6 : zand ((xs v3.toNat).toInt) 31 < 0 ∨ 25 < zand ((xs v3.toNat).toInt) 31
      · have h := h.1 c6
        refine z_tabOut C 1183 dL_law_33 o5 c6 (by decide) ?_
        refine z_iinc C 3 [(3, .int (zI (v3 + 6))), (0, .ref b), (1, za x (0)), (2, za x (17))] dL_law_1183 rfl (by rw [hN]; decide) rfl ?_
        refine z_goto C 18 dL_law_1186 (by decide) ?_
        refine z_sub C [1, 2, 3, 0] [(0, .ref b), (1, za x (0)), (2, za x (17)), (3, .int (zI (v3 + 6)))] rfl ?_
        exact ih (v3 + 6)  σ h
      · have h := h.2
        rcases (show zand ((xs v3.toNat).toInt) 31 = 0 ∨ zand ((xs v3.toNat).toInt) 31 = 1 ∨ zand ((xs v3.toNat).toInt) 31 = 2 ∨ zand ((xs v3.toNat).toInt) 31 = 3 ∨ zand ((xs v3.toNat).toInt) 31 = 4 ∨ zand ((xs v3.toNat).toInt) 31 = 5 ∨ zand ((xs v3.toNat).toInt) 31 = 6 ∨ zand ((xs v3.toNat).toInt) 31 = 7 ∨ zand ((xs v3.toNat).toInt) 31 = 8 ∨ zand ((xs v3.toNat).toInt) 31 = 9 ∨ zand ((xs v3.toNat).toInt) 31 = 10 ∨ zand ((xs v3.toNat).toInt) 31 = 11 ∨ zand ((xs v3.toNat).toInt) 31 = 12 ∨ zand ((xs v3.toNat).toInt) 31 = 13 ∨ zand ((xs v3.toNat).toInt) 31 = 14 ∨ zand ((xs v3.toNat).toInt) 31 = 15 ∨ zand ((xs v3.toNat).toInt) 31 = 16 ∨ zand ((xs v3.toNat).toInt) 31 = 17 ∨ zand ((xs v3.toNat).toInt) 31 = 18 ∨ zand ((xs v3.toNat).toInt) 31 = 19 ∨ zand ((xs v3.toNat).toInt) 31 = 20 ∨ zand ((xs v3.toNat).toInt) 31 = 21 ∨ zand ((xs v3.toNat).toInt) 31 = 22 ∨ zand ((xs v3.toNat).toInt) 31 = 23 ∨ zand ((xs v3.toNat).toInt) 31 = 24 ∨ zand ((xs v3.toNat).toInt) 31 = 25 by omega) with c6 | c6 | c6 | c6 | c6 | c6 | c6 | c6 | c6 | c6 | c6 | c6 | c6 | c6 | c6 | c6 | c6 | c6 | c6 | c6 | c6 | c6 | c6 | c6 | c6 | c6
        · have h := h.1 c6
          refine z_tabIn C 152 dL_law_33 o5 (by omega) (by omega) (by rw [c6]; rfl) (by decide) ?_
          refine z_aload_n C 1 dL_law_152 rfl rfl ?_
          refine z_aload_nS C 0 dL_law_153 rfl rfl ?_
          refine z_iload_n C 3 dL_law_154 rfl rfl ?_
          refine z_iconst C dL_law_155 ?_
          refine z_iadd C dL_law_156 ?_
          obtain ⟨o7, h⟩ := h
          refine z_sld C HS dL_law_157 o7.1 o7.2 ?_
          refine z_aload_nS C 0 dL_law_158 rfl rfl ?_
          refine z_iload_n C 3 dL_law_159 rfl rfl ?_
          refine z_iconst C dL_law_160 ?_
          refine z_iadd C dL_law_161 ?_
          obtain ⟨o8, h⟩ := h
          refine z_sld C HS dL_law_162 o8.1 o8.2 ?_
          refine z_aload_nS C 0 dL_law_163 rfl rfl ?_
          refine z_iload_n C 3 dL_law_164 rfl rfl ?_
          refine z_iconst C dL_law_165 ?_
          refine z_iadd C dL_law_166 ?_
          obtain ⟨o9, h⟩ := h
          refine z_sld C HS dL_law_167 o9.1 o9.2 ?_
          refine z_aload_nS C 0 dL_law_168 rfl rfl ?_
          refine z_iload_n C 3 dL_law_169 rfl rfl ?_
          refine z_iconst C dL_law_170 ?_
          refine z_iadd C dL_law_171 ?_
          obtain ⟨o10, h⟩ := h
          refine z_sld C HS dL_law_172 o10.1 o10.2 ?_
          obtain ⟨o11, h⟩ := h
          refine z_i2l C dL_law_173 o11 ?_
          refine z_bipush C dL_law_174 rfl ?_
          refine z_lshl C dL_law_176 ?_
          refine z_aload_nS C 0 dL_law_177 rfl rfl ?_
          refine z_iload_n C 3 dL_law_178 rfl rfl ?_
          refine z_iconst C dL_law_179 ?_
          refine z_iadd C dL_law_180 ?_
          obtain ⟨o12, h⟩ := h
          refine z_sld C HS dL_law_181 o12.1 o12.2 ?_
          obtain ⟨o13, h⟩ := h
          refine z_i2l C dL_law_182 o13 ?_
          refine z_ldc2 (z := 4294967295) C kl_L_13 rfl dL_law_183 ?_
          refine z_land C dL_law_186 ?_
          refine z_lor C dL_law_187 ?_
          refine z_callV (av := fun w => [.int (zI ((xs (v3 + 1).toNat).toInt)), .int (zI ((xs (v3 + 2).toNat).toInt)), .int (zI ((xs (v3 + 3).toNat).toInt)), .long (zJ (zLor (zLshl ((xs (v3 + 4).toNat).toInt) 32) (zLand ((xs (v3 + 5).toNat).toInt) 4294967295)))]) C [] cs_X6_row (by decide) (fun _ _ => rfl) rfl (mX6_row ((xs (v3 + 1).toNat).toInt) ((xs (v3 + 2).toNat).toInt) ((xs (v3 + 3).toNat).toInt) (zLor (zLshl ((xs (v3 + 4).toNat).toInt) 32) (zLand ((xs (v3 + 5).toNat).toInt) 4294967295))  σ _ h) km_L_15 dL_law_188 rfl rfl ⟨rfl, rfl⟩ ⟨by decide, by decide⟩ (Nat.le_of_ble_eq_true rfl) (fun rv σ14 hp => ?_)
          obtain ⟨a15, rfl, h⟩ := hp
          change zV x σ14 191 [(0, .ref b), (1, za x (0)), (2, za x (17)), (3, .int (zI (v3)))] [.int (zI (a15))]
          refine z_aload_n C 2 dL_law_191 rfl rfl ?_
          refine z_aload_nS C 0 dL_law_192 rfl rfl ?_
          refine z_iload_n C 3 dL_law_193 rfl rfl ?_
          refine z_iconst C dL_law_194 ?_
          refine z_iadd C dL_law_195 ?_
          refine z_sld C HS dL_law_196 o7.1 o7.2 ?_
          refine z_aload_nS C 0 dL_law_197 rfl rfl ?_
          refine z_iload_n C 3 dL_law_198 rfl rfl ?_
          refine z_iconst C dL_law_199 ?_
          refine z_iadd C dL_law_200 ?_
          refine z_sld C HS dL_law_201 o8.1 o8.2 ?_
          refine z_aload_nS C 0 dL_law_202 rfl rfl ?_
          refine z_iload_n C 3 dL_law_203 rfl rfl ?_
          refine z_iconst C dL_law_204 ?_
          refine z_iadd C dL_law_205 ?_
          refine z_sld C HS dL_law_206 o9.1 o9.2 ?_
          refine z_aload_nS C 0 dL_law_207 rfl rfl ?_
          refine z_iload_n C 3 dL_law_208 rfl rfl ?_
          refine z_iconst C dL_law_209 ?_
          refine z_iadd C dL_law_210 ?_
          refine z_sld C HS dL_law_211 o10.1 o10.2 ?_
          refine z_i2l C dL_law_212 o11 ?_
          refine z_bipush C dL_law_213 rfl ?_
          refine z_lshl C dL_law_215 ?_
          refine z_aload_nS C 0 dL_law_216 rfl rfl ?_
          refine z_iload_n C 3 dL_law_217 rfl rfl ?_
          refine z_iconst C dL_law_218 ?_
          refine z_iadd C dL_law_219 ?_
          refine z_sld C HS dL_law_220 o12.1 o12.2 ?_
          refine z_i2l C dL_law_221 o13 ?_
          refine z_ldc2 (z := 4294967295) C kl_L_13 rfl dL_law_222 ?_
          refine z_land C dL_law_225 ?_
          refine z_lor C dL_law_226 ?_
          refine z_callV (av := fun w => [.int (zI ((xs (v3 + 1).toNat).toInt)), .int (zI ((xs (v3 + 2).toNat).toInt)), .int (zI ((xs (v3 + 3).toNat).toInt)), .long (zJ (zLor (zLshl ((xs (v3 + 4).toNat).toInt) 32) (zLand ((xs (v3 + 5).toNat).toInt) 4294967295)))]) C [.int (zI (a15))] cs_X7_row (by decide) (fun _ _ => rfl) rfl (mX7_row ((xs (v3 + 1).toNat).toInt) ((xs (v3 + 2).toNat).toInt) ((xs (v3 + 3).toNat).toInt) (zLor (zLshl ((xs (v3 + 4).toNat).toInt) 32) (zLand ((xs (v3 + 5).toNat).toInt) 4294967295))  σ14 _ h) km_L_19 dL_law_227 rfl rfl ⟨rfl, rfl⟩ ⟨by decide, by decide⟩ (Nat.le_of_ble_eq_true rfl) (fun rv σ16 hp => ?_)
          obtain ⟨a17, rfl, h⟩ := hp
          change zV x σ16 230 [(0, .ref b), (1, za x (0)), (2, za x (17)), (3, .int (zI (v3)))] [.int (zI (a17)), .int (zI (a15))]
          obtain ⟨o18, h⟩ := h
          obtain ⟨o19, h⟩ := h
          refine z_icmp_eq C 1183 dL_law_230 (by decide) o18 o19 (fun c20 => ?_) (fun c20 => ?_)
          · have h := h.1 c20
            refine z_iinc C 3 [(3, .int (zI (v3 + 6))), (0, .ref b), (1, za x (0)), (2, za x (17))] dL_law_1183 rfl (by rw [hN]; decide) rfl ?_
            refine z_goto C 18 dL_law_1186 (by decide) ?_
            refine z_sub C [1, 2, 3, 0] [(0, .ref b), (1, za x (0)), (2, za x (17)), (3, .int (zI (v3 + 6)))] rfl ?_
            exact ih (v3 + 6)  σ16 h
          · have h := h.2 c20
            refine z_iconst C dL_law_233 ?_
            exact h.elim
        · have h := h.2.1 c6
          refine z_tabIn C 235 dL_law_33 o5 (by omega) (by omega) (by rw [c6]; rfl) (by decide) ?_
          refine z_aload_n C 1 dL_law_235 rfl rfl ?_
          refine z_aload_nS C 0 dL_law_236 rfl rfl ?_
          refine z_iload_n C 3 dL_law_237 rfl rfl ?_
          refine z_iconst C dL_law_238 ?_
          refine z_iadd C dL_law_239 ?_
          obtain ⟨o21, h⟩ := h
          refine z_sld C HS dL_law_240 o21.1 o21.2 ?_
          refine z_aload_nS C 0 dL_law_241 rfl rfl ?_
          refine z_iload_n C 3 dL_law_242 rfl rfl ?_
          refine z_iconst C dL_law_243 ?_
          refine z_iadd C dL_law_244 ?_
          obtain ⟨o22, h⟩ := h
          refine z_sld C HS dL_law_245 o22.1 o22.2 ?_
          obtain ⟨o23, h⟩ := h
          refine z_i2l C dL_law_246 o23 ?_
          refine z_bipush C dL_law_247 rfl ?_
          refine z_lshl C dL_law_249 ?_
          refine z_aload_nS C 0 dL_law_250 rfl rfl ?_
          refine z_iload_n C 3 dL_law_251 rfl rfl ?_
          refine z_iconst C dL_law_252 ?_
          refine z_iadd C dL_law_253 ?_
          obtain ⟨o24, h⟩ := h
          refine z_sld C HS dL_law_254 o24.1 o24.2 ?_
          obtain ⟨o25, h⟩ := h
          refine z_i2l C dL_law_255 o25 ?_
          refine z_ldc2 (z := 4294967295) C kl_L_13 rfl dL_law_256 ?_
          refine z_land C dL_law_259 ?_
          refine z_lor C dL_law_260 ?_
          refine z_callV (av := fun w => [.int (zI ((xs (v3 + 1).toNat).toInt)), .long (zJ (zLor (zLshl ((xs (v3 + 2).toNat).toInt) 32) (zLand ((xs (v3 + 3).toNat).toInt) 4294967295)))]) C [] cs_X6_write (by decide) (fun _ _ => rfl) rfl (mX6_write ((xs (v3 + 1).toNat).toInt) (zLor (zLshl ((xs (v3 + 2).toNat).toInt) 32) (zLand ((xs (v3 + 3).toNat).toInt) 4294967295))  σ _ h) km_L_20 dL_law_261 rfl rfl ⟨rfl, rfl⟩ ⟨by decide, by decide⟩ (Nat.le_of_ble_eq_true rfl) (fun rv σ26 hp => ?_)
          obtain ⟨a27, rfl, h⟩ := hp
          change zV x σ26 264 [(0, .ref b), (1, za x (0)), (2, za x (17)), (3, .int (zI (v3)))] [.int (zI (a27))]
          refine z_aload_n C 2 dL_law_264 rfl rfl ?_
          refine z_aload_nS C 0 dL_law_265 rfl rfl ?_
          refine z_iload_n C 3 dL_law_266 rfl rfl ?_
          refine z_iconst C dL_law_267 ?_
          refine z_iadd C dL_law_268 ?_
          refine z_sld C HS dL_law_269 o21.1 o21.2 ?_
          refine z_aload_nS C 0 dL_law_270 rfl rfl ?_
          refine z_iload_n C 3 dL_law_271 rfl rfl ?_
          refine z_iconst C dL_law_272 ?_
          refine z_iadd C dL_law_273 ?_
          refine z_sld C HS dL_law_274 o22.1 o22.2 ?_
          refine z_i2l C dL_law_275 o23 ?_
          refine z_bipush C dL_law_276 rfl ?_
          refine z_lshl C dL_law_278 ?_
          refine z_aload_nS C 0 dL_law_279 rfl rfl ?_
          refine z_iload_n C 3 dL_law_280 rfl rfl ?_
          refine z_iconst C dL_law_281 ?_
          refine z_iadd C dL_law_282 ?_
          refine z_sld C HS dL_law_283 o24.1 o24.2 ?_
          refine z_i2l C dL_law_284 o25 ?_
          refine z_ldc2 (z := 4294967295) C kl_L_13 rfl dL_law_285 ?_
          refine z_land C dL_law_288 ?_
          refine z_lor C dL_law_289 ?_
          refine z_callV (av := fun w => [.int (zI ((xs (v3 + 1).toNat).toInt)), .long (zJ (zLor (zLshl ((xs (v3 + 2).toNat).toInt) 32) (zLand ((xs (v3 + 3).toNat).toInt) 4294967295)))]) C [.int (zI (a27))] cs_X7_write (by decide) (fun _ _ => rfl) rfl (mX7_write ((xs (v3 + 1).toNat).toInt) (zLor (zLshl ((xs (v3 + 2).toNat).toInt) 32) (zLand ((xs (v3 + 3).toNat).toInt) 4294967295))  σ26 _ h) km_L_24 dL_law_290 rfl rfl ⟨rfl, rfl⟩ ⟨by decide, by decide⟩ (Nat.le_of_ble_eq_true rfl) (fun rv σ28 hp => ?_)
          obtain ⟨a29, rfl, h⟩ := hp
          change zV x σ28 293 [(0, .ref b), (1, za x (0)), (2, za x (17)), (3, .int (zI (v3)))] [.int (zI (a29)), .int (zI (a27))]
          obtain ⟨o30, h⟩ := h
          obtain ⟨o31, h⟩ := h
          refine z_icmp_eq C 1183 dL_law_293 (by decide) o30 o31 (fun c32 => ?_) (fun c32 => ?_)
          · have h := h.1 c32
            refine z_iinc C 3 [(3, .int (zI (v3 + 6))), (0, .ref b), (1, za x (0)), (2, za x (17))] dL_law_1183 rfl (by rw [hN]; decide) rfl ?_
            refine z_goto C 18 dL_law_1186 (by decide) ?_
            refine z_sub C [1, 2, 3, 0] [(0, .ref b), (1, za x (0)), (2, za x (17)), (3, .int (zI (v3 + 6)))] rfl ?_
            exact ih (v3 + 6)  σ28 h
          · have h := h.2 c32
            refine z_iconst C dL_law_296 ?_
            exact h.elim
        · have h := h.2.2.1 c6
          refine z_tabIn C 298 dL_law_33 o5 (by omega) (by omega) (by rw [c6]; rfl) (by decide) ?_
          refine z_aload_n C 1 dL_law_298 rfl rfl ?_
          refine z_callV (av := fun w => []) C [] cs_X6_wipe (by decide) (fun _ _ => rfl) rfl (mX6_wipe   σ _ h) km_L_25 dL_law_299 rfl rfl ⟨rfl, rfl⟩ ⟨by decide, by decide⟩ (Nat.le_of_ble_eq_true rfl) (fun rv σ33 hp => ?_)
          obtain ⟨a34, rfl, h⟩ := hp
          change zV x σ33 302 [(0, .ref b), (1, za x (0)), (2, za x (17)), (3, .int (zI (v3)))] [.int (zI (a34))]
          refine z_aload_n C 2 dL_law_302 rfl rfl ?_
          refine z_callV (av := fun w => []) C [.int (zI (a34))] cs_X7_wipe (by decide) (fun _ _ => rfl) rfl (mX7_wipe   σ33 _ h) km_L_29 dL_law_303 rfl rfl ⟨rfl, rfl⟩ ⟨by decide, by decide⟩ (Nat.le_of_ble_eq_true rfl) (fun rv σ35 hp => ?_)
          obtain ⟨a36, rfl, h⟩ := hp
          change zV x σ35 306 [(0, .ref b), (1, za x (0)), (2, za x (17)), (3, .int (zI (v3)))] [.int (zI (a36)), .int (zI (a34))]
          obtain ⟨o37, h⟩ := h
          obtain ⟨o38, h⟩ := h
          refine z_icmp_eq C 1183 dL_law_306 (by decide) o37 o38 (fun c39 => ?_) (fun c39 => ?_)
          · have h := h.1 c39
            refine z_iinc C 3 [(3, .int (zI (v3 + 6))), (0, .ref b), (1, za x (0)), (2, za x (17))] dL_law_1183 rfl (by rw [hN]; decide) rfl ?_
            refine z_goto C 18 dL_law_1186 (by decide) ?_
            refine z_sub C [1, 2, 3, 0] [(0, .ref b), (1, za x (0)), (2, za x (17)), (3, .int (zI (v3 + 6)))] rfl ?_
            exact ih (v3 + 6)  σ35 h
          · have h := h.2 c39
            refine z_iconst C dL_law_309 ?_
            exact h.elim
        · have h := h.2.2.2.1 c6
          refine z_tabIn C 311 dL_law_33 o5 (by omega) (by omega) (by rw [c6]; rfl) (by decide) ?_
          refine z_aload_n C 1 dL_law_311 rfl rfl ?_
          refine z_callV (av := fun w => []) C [] cs_X6_fault (by decide) (fun _ _ => rfl) rfl (mX6_fault   σ _ h) km_L_30 dL_law_312 rfl rfl ⟨rfl, rfl⟩ ⟨by decide, by decide⟩ (Nat.le_of_ble_eq_true rfl) (fun rv σ40 hp => ?_)
          obtain ⟨a41, rfl, h⟩ := hp
          change zV x σ40 315 [(0, .ref b), (1, za x (0)), (2, za x (17)), (3, .int (zI (v3)))] [.int (zI (a41))]
          refine z_aload_n C 2 dL_law_315 rfl rfl ?_
          refine z_callV (av := fun w => []) C [.int (zI (a41))] cs_X7_fault (by decide) (fun _ _ => rfl) rfl (mX7_fault   σ40 _ h) km_L_33 dL_law_316 rfl rfl ⟨rfl, rfl⟩ ⟨by decide, by decide⟩ (Nat.le_of_ble_eq_true rfl) (fun rv σ42 hp => ?_)
          obtain ⟨a43, rfl, h⟩ := hp
          change zV x σ42 319 [(0, .ref b), (1, za x (0)), (2, za x (17)), (3, .int (zI (v3)))] [.int (zI (a43)), .int (zI (a41))]
          obtain ⟨o44, h⟩ := h
          obtain ⟨o45, h⟩ := h
          refine z_icmp_eq C 1183 dL_law_319 (by decide) o44 o45 (fun c46 => ?_) (fun c46 => ?_)
          · have h := h.1 c46
            refine z_iinc C 3 [(3, .int (zI (v3 + 6))), (0, .ref b), (1, za x (0)), (2, za x (17))] dL_law_1183 rfl (by rw [hN]; decide) rfl ?_
            refine z_goto C 18 dL_law_1186 (by decide) ?_
            refine z_sub C [1, 2, 3, 0] [(0, .ref b), (1, za x (0)), (2, za x (17)), (3, .int (zI (v3 + 6)))] rfl ?_
            exact ih (v3 + 6)  σ42 h
          · have h := h.2 c46
            refine z_iconst C dL_law_322 ?_
            exact h.elim
        · have h := h.2.2.2.2.1 c6
          refine z_tabIn C 324 dL_law_33 o5 (by omega) (by omega) (by rw [c6]; rfl) (by decide) ?_
          refine z_aload_n C 1 dL_law_324 rfl rfl ?_
          refine z_aload_nS C 0 dL_law_325 rfl rfl ?_
          refine z_iload_n C 3 dL_law_326 rfl rfl ?_
          refine z_iconst C dL_law_327 ?_
          refine z_iadd C dL_law_328 ?_
          obtain ⟨o47, h⟩ := h
          refine z_sld C HS dL_law_329 o47.1 o47.2 ?_
          refine z_callV (av := fun w => [.int (zI ((xs (v3 + 1).toNat).toInt))]) C [] cs_X6_lay (by decide) (fun _ _ => rfl) rfl (mX6_lay ((xs (v3 + 1).toNat).toInt)  σ _ h) km_L_34 dL_law_330 rfl rfl ⟨rfl, rfl⟩ ⟨by decide, by decide⟩ (Nat.le_of_ble_eq_true rfl) (fun rv σ48 hp => ?_)
          obtain ⟨a49, rfl, h⟩ := hp
          change zV x σ48 333 [(0, .ref b), (1, za x (0)), (2, za x (17)), (3, .int (zI (v3)))] [.int (zI (a49))]
          refine z_aload_n C 2 dL_law_333 rfl rfl ?_
          refine z_aload_nS C 0 dL_law_334 rfl rfl ?_
          refine z_iload_n C 3 dL_law_335 rfl rfl ?_
          refine z_iconst C dL_law_336 ?_
          refine z_iadd C dL_law_337 ?_
          refine z_sld C HS dL_law_338 o47.1 o47.2 ?_
          refine z_callV (av := fun w => [.int (zI ((xs (v3 + 1).toNat).toInt))]) C [.int (zI (a49))] cs_X7_lay (by decide) (fun _ _ => rfl) rfl (mX7_lay ((xs (v3 + 1).toNat).toInt)  σ48 _ h) km_L_38 dL_law_339 rfl rfl ⟨rfl, rfl⟩ ⟨by decide, by decide⟩ (Nat.le_of_ble_eq_true rfl) (fun rv σ50 hp => ?_)
          obtain ⟨a51, rfl, h⟩ := hp
          change zV x σ50 342 [(0, .ref b), (1, za x (0)), (2, za x (17)), (3, .int (zI (v3)))] [.int (zI (a51)), .int (zI (a49))]
          obtain ⟨o52, h⟩ := h
          obtain ⟨o53, h⟩ := h
          refine z_icmp_eq C 1183 dL_law_342 (by decide) o52 o53 (fun c54 => ?_) (fun c54 => ?_)
          · have h := h.1 c54
            refine z_iinc C 3 [(3, .int (zI (v3 + 6))), (0, .ref b), (1, za x (0)), (2, za x (17))] dL_law_1183 rfl (by rw [hN]; decide) rfl ?_
            refine z_goto C 18 dL_law_1186 (by decide) ?_
            refine z_sub C [1, 2, 3, 0] [(0, .ref b), (1, za x (0)), (2, za x (17)), (3, .int (zI (v3 + 6)))] rfl ?_
            exact ih (v3 + 6)  σ50 h
          · have h := h.2 c54
            refine z_iconst C dL_law_345 ?_
            exact h.elim
        · have h := h.2.2.2.2.2.1 c6
          refine z_tabIn C 347 dL_law_33 o5 (by omega) (by omega) (by rw [c6]; rfl) (by decide) ?_
          refine z_aload_n C 1 dL_law_347 rfl rfl ?_
          refine z_aload_nS C 0 dL_law_348 rfl rfl ?_
          refine z_iload_n C 3 dL_law_349 rfl rfl ?_
          refine z_iconst C dL_law_350 ?_
          refine z_iadd C dL_law_351 ?_
          obtain ⟨o55, h⟩ := h
          refine z_sld C HS dL_law_352 o55.1 o55.2 ?_
          refine z_aload_nS C 0 dL_law_353 rfl rfl ?_
          refine z_iload_n C 3 dL_law_354 rfl rfl ?_
          refine z_iconst C dL_law_355 ?_
          refine z_iadd C dL_law_356 ?_
          obtain ⟨o56, h⟩ := h
          refine z_sld C HS dL_law_357 o56.1 o56.2 ?_
          refine z_callV (av := fun w => [.int (zI ((xs (v3 + 1).toNat).toInt)), .int (zI ((xs (v3 + 2).toNat).toInt))]) C [] cs_X6_told (by decide) (fun _ _ => rfl) rfl (mX6_told ((xs (v3 + 1).toNat).toInt) ((xs (v3 + 2).toNat).toInt)  σ _ h) km_L_39 dL_law_358 rfl rfl ⟨rfl, rfl⟩ ⟨by decide, by decide⟩ (Nat.le_of_ble_eq_true rfl) (fun rv σ57 hp => ?_)
          obtain ⟨a58, rfl, h⟩ := hp
          change zV x σ57 361 [(0, .ref b), (1, za x (0)), (2, za x (17)), (3, .int (zI (v3)))] [.int (zI (a58))]
          refine z_aload_n C 2 dL_law_361 rfl rfl ?_
          refine z_aload_nS C 0 dL_law_362 rfl rfl ?_
          refine z_iload_n C 3 dL_law_363 rfl rfl ?_
          refine z_iconst C dL_law_364 ?_
          refine z_iadd C dL_law_365 ?_
          refine z_sld C HS dL_law_366 o55.1 o55.2 ?_
          refine z_aload_nS C 0 dL_law_367 rfl rfl ?_
          refine z_iload_n C 3 dL_law_368 rfl rfl ?_
          refine z_iconst C dL_law_369 ?_
          refine z_iadd C dL_law_370 ?_
          refine z_sld C HS dL_law_371 o56.1 o56.2 ?_
          refine z_callV (av := fun w => [.int (zI ((xs (v3 + 1).toNat).toInt)), .int (zI ((xs (v3 + 2).toNat).toInt))]) C [.int (zI (a58))] cs_X7_told (by decide) (fun _ _ => rfl) rfl (mX7_told ((xs (v3 + 1).toNat).toInt) ((xs (v3 + 2).toNat).toInt)  σ57 _ h) km_L_43 dL_law_372 rfl rfl ⟨rfl, rfl⟩ ⟨by decide, by decide⟩ (Nat.le_of_ble_eq_true rfl) (fun rv σ59 hp => ?_)
          obtain ⟨a60, rfl, h⟩ := hp
          change zV x σ59 375 [(0, .ref b), (1, za x (0)), (2, za x (17)), (3, .int (zI (v3)))] [.int (zI (a60)), .int (zI (a58))]
          obtain ⟨o61, h⟩ := h
          obtain ⟨o62, h⟩ := h
          refine z_icmp_eq C 1183 dL_law_375 (by decide) o61 o62 (fun c63 => ?_) (fun c63 => ?_)
          · have h := h.1 c63
            refine z_iinc C 3 [(3, .int (zI (v3 + 6))), (0, .ref b), (1, za x (0)), (2, za x (17))] dL_law_1183 rfl (by rw [hN]; decide) rfl ?_
            refine z_goto C 18 dL_law_1186 (by decide) ?_
            refine z_sub C [1, 2, 3, 0] [(0, .ref b), (1, za x (0)), (2, za x (17)), (3, .int (zI (v3 + 6)))] rfl ?_
            exact ih (v3 + 6)  σ59 h
          · have h := h.2 c63
            refine z_iconst C dL_law_378 ?_
            exact h.elim
        · have h := h.2.2.2.2.2.2.1 c6
          refine z_tabIn C 380 dL_law_33 o5 (by omega) (by omega) (by rw [c6]; rfl) (by decide) ?_
          refine z_aload_n C 1 dL_law_380 rfl rfl ?_
          refine z_aload_nS C 0 dL_law_381 rfl rfl ?_
          refine z_iload_n C 3 dL_law_382 rfl rfl ?_
          refine z_iconst C dL_law_383 ?_
          refine z_iadd C dL_law_384 ?_
          obtain ⟨o64, h⟩ := h
          refine z_sld C HS dL_law_385 o64.1 o64.2 ?_
          refine z_callV (av := fun w => [.int (zI ((xs (v3 + 1).toNat).toInt))]) C [] cs_X6_marks (by decide) (fun _ _ => rfl) rfl (mX6_marks ((xs (v3 + 1).toNat).toInt)  σ _ h) km_L_44 dL_law_386 rfl rfl ⟨rfl, rfl⟩ ⟨by decide, by decide⟩ (Nat.le_of_ble_eq_true rfl) (fun rv σ65 hp => ?_)
          obtain ⟨a66, rfl, h⟩ := hp
          change zV x σ65 389 [(0, .ref b), (1, za x (0)), (2, za x (17)), (3, .int (zI (v3)))] [.long (zJ (a66))]
          refine z_aload_n C 2 dL_law_389 rfl rfl ?_
          refine z_aload_nS C 0 dL_law_390 rfl rfl ?_
          refine z_iload_n C 3 dL_law_391 rfl rfl ?_
          refine z_iconst C dL_law_392 ?_
          refine z_iadd C dL_law_393 ?_
          refine z_sld C HS dL_law_394 o64.1 o64.2 ?_
          refine z_callV (av := fun w => [.int (zI ((xs (v3 + 1).toNat).toInt))]) C [.long (zJ (a66))] cs_X7_marks (by decide) (fun _ _ => rfl) rfl (mX7_marks ((xs (v3 + 1).toNat).toInt)  σ65 _ h) km_L_48 dL_law_395 rfl rfl ⟨rfl, rfl⟩ ⟨by decide, by decide⟩ (Nat.le_of_ble_eq_true rfl) (fun rv σ67 hp => ?_)
          obtain ⟨a68, rfl, h⟩ := hp
          change zV x σ67 398 [(0, .ref b), (1, za x (0)), (2, za x (17)), (3, .int (zI (v3)))] [.long (zJ (a68)), .long (zJ (a66))]
          obtain ⟨o69, h⟩ := h
          obtain ⟨o70, h⟩ := h
          refine z_lcmp_eq C 1183 dL_law_398 dL_law_399 (by decide) o69 o70 (fun c71 => ?_) (fun c71 => ?_)
          · have h := h.1 c71
            refine z_iinc C 3 [(3, .int (zI (v3 + 6))), (0, .ref b), (1, za x (0)), (2, za x (17))] dL_law_1183 rfl (by rw [hN]; decide) rfl ?_
            refine z_goto C 18 dL_law_1186 (by decide) ?_
            refine z_sub C [1, 2, 3, 0] [(0, .ref b), (1, za x (0)), (2, za x (17)), (3, .int (zI (v3 + 6)))] rfl ?_
            exact ih (v3 + 6)  σ67 h
          · have h := h.2 c71
            refine z_iconst C dL_law_402 ?_
            exact h.elim
        · have h := h.2.2.2.2.2.2.2.1 c6
          refine z_tabIn C 404 dL_law_33 o5 (by omega) (by omega) (by rw [c6]; rfl) (by decide) ?_
          refine z_aload_n C 1 dL_law_404 rfl rfl ?_
          refine z_aload_nS C 0 dL_law_405 rfl rfl ?_
          refine z_iload_n C 3 dL_law_406 rfl rfl ?_
          refine z_iconst C dL_law_407 ?_
          refine z_iadd C dL_law_408 ?_
          obtain ⟨o72, h⟩ := h
          refine z_sld C HS dL_law_409 o72.1 o72.2 ?_
          refine z_aload_nS C 0 dL_law_410 rfl rfl ?_
          refine z_iload_n C 3 dL_law_411 rfl rfl ?_
          refine z_iconst C dL_law_412 ?_
          refine z_iadd C dL_law_413 ?_
          obtain ⟨o73, h⟩ := h
          refine z_sld C HS dL_law_414 o73.1 o73.2 ?_
          refine z_aload_nS C 0 dL_law_415 rfl rfl ?_
          refine z_iload_n C 3 dL_law_416 rfl rfl ?_
          refine z_iconst C dL_law_417 ?_
          refine z_iadd C dL_law_418 ?_
          obtain ⟨o74, h⟩ := h
          refine z_sld C HS dL_law_419 o74.1 o74.2 ?_
          refine z_aload_nS C 0 dL_law_420 rfl rfl ?_
          refine z_iload_n C 3 dL_law_421 rfl rfl ?_
          refine z_iconst C dL_law_422 ?_
          refine z_iadd C dL_law_423 ?_
          obtain ⟨o75, h⟩ := h
          refine z_sld C HS dL_law_424 o75.1 o75.2 ?_
          refine z_callV (av := fun w => [.int (zI ((xs (v3 + 1).toNat).toInt)), .int (zI ((xs (v3 + 2).toNat).toInt)), .int (zI ((xs (v3 + 3).toNat).toInt)), .int (zI ((xs (v3 + 4).toNat).toInt))]) C [] cs_X6_difference (by decide) (fun _ _ => rfl) rfl (mX6_difference ((xs (v3 + 1).toNat).toInt) ((xs (v3 + 2).toNat).toInt) ((xs (v3 + 3).toNat).toInt) ((xs (v3 + 4).toNat).toInt)  σ _ h) km_L_49 dL_law_425 rfl rfl ⟨rfl, rfl⟩ ⟨by decide, by decide⟩ (Nat.le_of_ble_eq_true rfl) (fun rv σ76 hp => ?_)
          obtain ⟨a77, rfl, h⟩ := hp
          change zV x σ76 428 [(0, .ref b), (1, za x (0)), (2, za x (17)), (3, .int (zI (v3)))] [.int (zI (a77))]
          refine z_aload_n C 2 dL_law_428 rfl rfl ?_
          refine z_aload_nS C 0 dL_law_429 rfl rfl ?_
          refine z_iload_n C 3 dL_law_430 rfl rfl ?_
          refine z_iconst C dL_law_431 ?_
          refine z_iadd C dL_law_432 ?_
          refine z_sld C HS dL_law_433 o72.1 o72.2 ?_
          refine z_aload_nS C 0 dL_law_434 rfl rfl ?_
          refine z_iload_n C 3 dL_law_435 rfl rfl ?_
          refine z_iconst C dL_law_436 ?_
          refine z_iadd C dL_law_437 ?_
          refine z_sld C HS dL_law_438 o73.1 o73.2 ?_
          refine z_aload_nS C 0 dL_law_439 rfl rfl ?_
          refine z_iload_n C 3 dL_law_440 rfl rfl ?_
          refine z_iconst C dL_law_441 ?_
          refine z_iadd C dL_law_442 ?_
          refine z_sld C HS dL_law_443 o74.1 o74.2 ?_
          refine z_aload_nS C 0 dL_law_444 rfl rfl ?_
          refine z_iload_n C 3 dL_law_445 rfl rfl ?_
          refine z_iconst C dL_law_446 ?_
          refine z_iadd C dL_law_447 ?_
          refine z_sld C HS dL_law_448 o75.1 o75.2 ?_
          refine z_callV (av := fun w => [.int (zI ((xs (v3 + 1).toNat).toInt)), .int (zI ((xs (v3 + 2).toNat).toInt)), .int (zI ((xs (v3 + 3).toNat).toInt)), .int (zI ((xs (v3 + 4).toNat).toInt))]) C [.int (zI (a77))] cs_X7_difference (by decide) (fun _ _ => rfl) rfl (mX7_difference ((xs (v3 + 1).toNat).toInt) ((xs (v3 + 2).toNat).toInt) ((xs (v3 + 3).toNat).toInt) ((xs (v3 + 4).toNat).toInt)  σ76 _ h) km_L_53 dL_law_449 rfl rfl ⟨rfl, rfl⟩ ⟨by decide, by decide⟩ (Nat.le_of_ble_eq_true rfl) (fun rv σ78 hp => ?_)
          obtain ⟨a79, rfl, h⟩ := hp
          change zV x σ78 452 [(0, .ref b), (1, za x (0)), (2, za x (17)), (3, .int (zI (v3)))] [.int (zI (a79)), .int (zI (a77))]
          obtain ⟨o80, h⟩ := h
          obtain ⟨o81, h⟩ := h
          refine z_icmp_eq C 1183 dL_law_452 (by decide) o80 o81 (fun c82 => ?_) (fun c82 => ?_)
          · have h := h.1 c82
            refine z_iinc C 3 [(3, .int (zI (v3 + 6))), (0, .ref b), (1, za x (0)), (2, za x (17))] dL_law_1183 rfl (by rw [hN]; decide) rfl ?_
            refine z_goto C 18 dL_law_1186 (by decide) ?_
            refine z_sub C [1, 2, 3, 0] [(0, .ref b), (1, za x (0)), (2, za x (17)), (3, .int (zI (v3 + 6)))] rfl ?_
            exact ih (v3 + 6)  σ78 h
          · have h := h.2 c82
            refine z_iconst C dL_law_455 ?_
            exact h.elim
        · have h := h.2.2.2.2.2.2.2.2.1 c6
          refine z_tabIn C 457 dL_law_33 o5 (by omega) (by omega) (by rw [c6]; rfl) (by decide) ?_
          refine z_aload_n C 1 dL_law_457 rfl rfl ?_
          refine z_aload_nS C 0 dL_law_458 rfl rfl ?_
          refine z_iload_n C 3 dL_law_459 rfl rfl ?_
          refine z_iconst C dL_law_460 ?_
          refine z_iadd C dL_law_461 ?_
          obtain ⟨o83, h⟩ := h
          refine z_sld C HS dL_law_462 o83.1 o83.2 ?_
          refine z_aload_nS C 0 dL_law_463 rfl rfl ?_
          refine z_iload_n C 3 dL_law_464 rfl rfl ?_
          refine z_iconst C dL_law_465 ?_
          refine z_iadd C dL_law_466 ?_
          obtain ⟨o84, h⟩ := h
          refine z_sld C HS dL_law_467 o84.1 o84.2 ?_
          refine z_aload_nS C 0 dL_law_468 rfl rfl ?_
          refine z_iload_n C 3 dL_law_469 rfl rfl ?_
          refine z_iconst C dL_law_470 ?_
          refine z_iadd C dL_law_471 ?_
          obtain ⟨o85, h⟩ := h
          refine z_sld C HS dL_law_472 o85.1 o85.2 ?_
          refine z_callV (av := fun w => [.int (zI ((xs (v3 + 1).toNat).toInt)), .int (zI ((xs (v3 + 2).toNat).toInt)), .int (zI ((xs (v3 + 3).toNat).toInt))]) C [] cs_X6_quarrels (by decide) (fun _ _ => rfl) rfl (mX6_quarrels ((xs (v3 + 1).toNat).toInt) ((xs (v3 + 2).toNat).toInt) ((xs (v3 + 3).toNat).toInt)  σ _ h) km_L_54 dL_law_473 rfl rfl ⟨rfl, rfl⟩ ⟨by decide, by decide⟩ (Nat.le_of_ble_eq_true rfl) (fun rv σ86 hp => ?_)
          obtain ⟨a87, rfl, h⟩ := hp
          change zV x σ86 476 [(0, .ref b), (1, za x (0)), (2, za x (17)), (3, .int (zI (v3)))] [.int (zI (a87))]
          refine z_aload_n C 2 dL_law_476 rfl rfl ?_
          refine z_aload_nS C 0 dL_law_477 rfl rfl ?_
          refine z_iload_n C 3 dL_law_478 rfl rfl ?_
          refine z_iconst C dL_law_479 ?_
          refine z_iadd C dL_law_480 ?_
          refine z_sld C HS dL_law_481 o83.1 o83.2 ?_
          refine z_aload_nS C 0 dL_law_482 rfl rfl ?_
          refine z_iload_n C 3 dL_law_483 rfl rfl ?_
          refine z_iconst C dL_law_484 ?_
          refine z_iadd C dL_law_485 ?_
          refine z_sld C HS dL_law_486 o84.1 o84.2 ?_
          refine z_aload_nS C 0 dL_law_487 rfl rfl ?_
          refine z_iload_n C 3 dL_law_488 rfl rfl ?_
          refine z_iconst C dL_law_489 ?_
          refine z_iadd C dL_law_490 ?_
          refine z_sld C HS dL_law_491 o85.1 o85.2 ?_
          refine z_callV (av := fun w => [.int (zI ((xs (v3 + 1).toNat).toInt)), .int (zI ((xs (v3 + 2).toNat).toInt)), .int (zI ((xs (v3 + 3).toNat).toInt))]) C [.int (zI (a87))] cs_X7_quarrels (by decide) (fun _ _ => rfl) rfl (mX7_quarrels ((xs (v3 + 1).toNat).toInt) ((xs (v3 + 2).toNat).toInt) ((xs (v3 + 3).toNat).toInt)  σ86 _ h) km_L_58 dL_law_492 rfl rfl ⟨rfl, rfl⟩ ⟨by decide, by decide⟩ (Nat.le_of_ble_eq_true rfl) (fun rv σ88 hp => ?_)
          obtain ⟨a89, rfl, h⟩ := hp
          change zV x σ88 495 [(0, .ref b), (1, za x (0)), (2, za x (17)), (3, .int (zI (v3)))] [.int (zI (a89)), .int (zI (a87))]
          obtain ⟨o90, h⟩ := h
          obtain ⟨o91, h⟩ := h
          refine z_icmp_eq C 1183 dL_law_495 (by decide) o90 o91 (fun c92 => ?_) (fun c92 => ?_)
          · have h := h.1 c92
            refine z_iinc C 3 [(3, .int (zI (v3 + 6))), (0, .ref b), (1, za x (0)), (2, za x (17))] dL_law_1183 rfl (by rw [hN]; decide) rfl ?_
            refine z_goto C 18 dL_law_1186 (by decide) ?_
            refine z_sub C [1, 2, 3, 0] [(0, .ref b), (1, za x (0)), (2, za x (17)), (3, .int (zI (v3 + 6)))] rfl ?_
            exact ih (v3 + 6)  σ88 h
          · have h := h.2 c92
            refine z_iconst C dL_law_498 ?_
            exact h.elim
        · have h := h.2.2.2.2.2.2.2.2.2.1 c6
          refine z_tabIn C 500 dL_law_33 o5 (by omega) (by omega) (by rw [c6]; rfl) (by decide) ?_
          refine z_aload_n C 1 dL_law_500 rfl rfl ?_
          refine z_aload_nS C 0 dL_law_501 rfl rfl ?_
          refine z_iload_n C 3 dL_law_502 rfl rfl ?_
          refine z_iconst C dL_law_503 ?_
          refine z_iadd C dL_law_504 ?_
          obtain ⟨o93, h⟩ := h
          refine z_sld C HS dL_law_505 o93.1 o93.2 ?_
          refine z_aload_nS C 0 dL_law_506 rfl rfl ?_
          refine z_iload_n C 3 dL_law_507 rfl rfl ?_
          refine z_iconst C dL_law_508 ?_
          refine z_iadd C dL_law_509 ?_
          obtain ⟨o94, h⟩ := h
          refine z_sld C HS dL_law_510 o94.1 o94.2 ?_
          refine z_aload_nS C 0 dL_law_511 rfl rfl ?_
          refine z_iload_n C 3 dL_law_512 rfl rfl ?_
          refine z_iconst C dL_law_513 ?_
          refine z_iadd C dL_law_514 ?_
          obtain ⟨o95, h⟩ := h
          refine z_sld C HS dL_law_515 o95.1 o95.2 ?_
          refine z_aload_nS C 0 dL_law_516 rfl rfl ?_
          refine z_iload_n C 3 dL_law_517 rfl rfl ?_
          refine z_iconst C dL_law_518 ?_
          refine z_iadd C dL_law_519 ?_
          obtain ⟨o96, h⟩ := h
          refine z_sld C HS dL_law_520 o96.1 o96.2 ?_
          refine z_aload_nS C 0 dL_law_521 rfl rfl ?_
          refine z_iload_n C 3 dL_law_522 rfl rfl ?_
          refine z_iconst C dL_law_523 ?_
          refine z_iadd C dL_law_524 ?_
          obtain ⟨o97, h⟩ := h
          refine z_sld C HS dL_law_525 o97.1 o97.2 ?_
          obtain ⟨o98, h⟩ := h
          refine z_if_eq C 533 dL_law_526 (by decide) o98 (fun c99 => ?_) (fun c99 => ?_)
          · have h := h.1 c99
            refine z_iconst C dL_law_533 ?_
            exact sL_law_534 C hN E HS (by intro v3 σ h; exact ih v3  σ h) v3 0 ((xs (v3 + 4).toNat).toInt) ((xs (v3 + 3).toNat).toInt) ((xs (v3 + 2).toNat).toInt) ((xs (v3 + 1).toNat).toInt)  σ h
          · have h := h.2 c99
            refine z_iconst C dL_law_529 ?_
            refine z_goto C 534 dL_law_530 (by decide) ?_
            exact sL_law_534 C hN E HS (by intro v3 σ h; exact ih v3  σ h) v3 1 ((xs (v3 + 4).toNat).toInt) ((xs (v3 + 3).toNat).toInt) ((xs (v3 + 2).toNat).toInt) ((xs (v3 + 1).toNat).toInt)  σ h
        · have h := h.2.2.2.2.2.2.2.2.2.2.1 c6
          refine z_tabIn C 579 dL_law_33 o5 (by omega) (by omega) (by rw [c6]; rfl) (by decide) ?_
          refine z_aload_n C 1 dL_law_579 rfl rfl ?_
          refine z_aload_nS C 0 dL_law_580 rfl rfl ?_
          refine z_iload_n C 3 dL_law_581 rfl rfl ?_
          refine z_iconst C dL_law_582 ?_
          refine z_iadd C dL_law_583 ?_
          obtain ⟨o100, h⟩ := h
          refine z_sld C HS dL_law_584 o100.1 o100.2 ?_
          refine z_aload_nS C 0 dL_law_585 rfl rfl ?_
          refine z_iload_n C 3 dL_law_586 rfl rfl ?_
          refine z_iconst C dL_law_587 ?_
          refine z_iadd C dL_law_588 ?_
          obtain ⟨o101, h⟩ := h
          refine z_sld C HS dL_law_589 o101.1 o101.2 ?_
          refine z_aload_nS C 0 dL_law_590 rfl rfl ?_
          refine z_iload_n C 3 dL_law_591 rfl rfl ?_
          refine z_iconst C dL_law_592 ?_
          refine z_iadd C dL_law_593 ?_
          obtain ⟨o102, h⟩ := h
          refine z_sld C HS dL_law_594 o102.1 o102.2 ?_
          refine z_callV (av := fun w => [.int (zI ((xs (v3 + 1).toNat).toInt)), .int (zI ((xs (v3 + 2).toNat).toInt)), .int (zI ((xs (v3 + 3).toNat).toInt))]) C [] cs_X6_most (by decide) (fun _ _ => rfl) rfl (mX6_most ((xs (v3 + 1).toNat).toInt) ((xs (v3 + 2).toNat).toInt) ((xs (v3 + 3).toNat).toInt)  σ _ h) km_L_64 dL_law_595 rfl rfl ⟨rfl, rfl⟩ ⟨by decide, by decide⟩ (Nat.le_of_ble_eq_true rfl) (fun rv σ103 hp => ?_)
          obtain ⟨a104, rfl, h⟩ := hp
          change zV x σ103 598 [(0, .ref b), (1, za x (0)), (2, za x (17)), (3, .int (zI (v3)))] [.int (zI (a104))]
          refine z_aload_n C 2 dL_law_598 rfl rfl ?_
          refine z_aload_nS C 0 dL_law_599 rfl rfl ?_
          refine z_iload_n C 3 dL_law_600 rfl rfl ?_
          refine z_iconst C dL_law_601 ?_
          refine z_iadd C dL_law_602 ?_
          refine z_sld C HS dL_law_603 o100.1 o100.2 ?_
          refine z_aload_nS C 0 dL_law_604 rfl rfl ?_
          refine z_iload_n C 3 dL_law_605 rfl rfl ?_
          refine z_iconst C dL_law_606 ?_
          refine z_iadd C dL_law_607 ?_
          refine z_sld C HS dL_law_608 o101.1 o101.2 ?_
          refine z_aload_nS C 0 dL_law_609 rfl rfl ?_
          refine z_iload_n C 3 dL_law_610 rfl rfl ?_
          refine z_iconst C dL_law_611 ?_
          refine z_iadd C dL_law_612 ?_
          refine z_sld C HS dL_law_613 o102.1 o102.2 ?_
          refine z_callV (av := fun w => [.int (zI ((xs (v3 + 1).toNat).toInt)), .int (zI ((xs (v3 + 2).toNat).toInt)), .int (zI ((xs (v3 + 3).toNat).toInt))]) C [.int (zI (a104))] cs_X7_most (by decide) (fun _ _ => rfl) rfl (mX7_most ((xs (v3 + 1).toNat).toInt) ((xs (v3 + 2).toNat).toInt) ((xs (v3 + 3).toNat).toInt)  σ103 _ h) km_L_67 dL_law_614 rfl rfl ⟨rfl, rfl⟩ ⟨by decide, by decide⟩ (Nat.le_of_ble_eq_true rfl) (fun rv σ105 hp => ?_)
          obtain ⟨a106, rfl, h⟩ := hp
          change zV x σ105 617 [(0, .ref b), (1, za x (0)), (2, za x (17)), (3, .int (zI (v3)))] [.int (zI (a106)), .int (zI (a104))]
          obtain ⟨o107, h⟩ := h
          obtain ⟨o108, h⟩ := h
          refine z_icmp_eq C 1183 dL_law_617 (by decide) o107 o108 (fun c109 => ?_) (fun c109 => ?_)
          · have h := h.1 c109
            refine z_iinc C 3 [(3, .int (zI (v3 + 6))), (0, .ref b), (1, za x (0)), (2, za x (17))] dL_law_1183 rfl (by rw [hN]; decide) rfl ?_
            refine z_goto C 18 dL_law_1186 (by decide) ?_
            refine z_sub C [1, 2, 3, 0] [(0, .ref b), (1, za x (0)), (2, za x (17)), (3, .int (zI (v3 + 6)))] rfl ?_
            exact ih (v3 + 6)  σ105 h
          · have h := h.2 c109
            refine z_iconst C dL_law_620 ?_
            exact h.elim
        · have h := h.2.2.2.2.2.2.2.2.2.2.2.1 c6
          refine z_tabIn C 622 dL_law_33 o5 (by omega) (by omega) (by rw [c6]; rfl) (by decide) ?_
          refine z_aload_n C 1 dL_law_622 rfl rfl ?_
          refine z_aload_nS C 0 dL_law_623 rfl rfl ?_
          refine z_iload_n C 3 dL_law_624 rfl rfl ?_
          refine z_iconst C dL_law_625 ?_
          refine z_iadd C dL_law_626 ?_
          obtain ⟨o110, h⟩ := h
          refine z_sld C HS dL_law_627 o110.1 o110.2 ?_
          refine z_aload_nS C 0 dL_law_628 rfl rfl ?_
          refine z_iload_n C 3 dL_law_629 rfl rfl ?_
          refine z_iconst C dL_law_630 ?_
          refine z_iadd C dL_law_631 ?_
          obtain ⟨o111, h⟩ := h
          refine z_sld C HS dL_law_632 o111.1 o111.2 ?_
          refine z_aload_nS C 0 dL_law_633 rfl rfl ?_
          refine z_iload_n C 3 dL_law_634 rfl rfl ?_
          refine z_iconst C dL_law_635 ?_
          refine z_iadd C dL_law_636 ?_
          obtain ⟨o112, h⟩ := h
          refine z_sld C HS dL_law_637 o112.1 o112.2 ?_
          refine z_callV (av := fun w => [.int (zI ((xs (v3 + 1).toNat).toInt)), .int (zI ((xs (v3 + 2).toNat).toInt)), .int (zI ((xs (v3 + 3).toNat).toInt))]) C [] cs_X6_squares (by decide) (fun _ _ => rfl) rfl (mX6_squares ((xs (v3 + 1).toNat).toInt) ((xs (v3 + 2).toNat).toInt) ((xs (v3 + 3).toNat).toInt)  σ _ h) km_L_68 dL_law_638 rfl rfl ⟨rfl, rfl⟩ ⟨by decide, by decide⟩ (Nat.le_of_ble_eq_true rfl) (fun rv σ113 hp => ?_)
          obtain ⟨a114, rfl, h⟩ := hp
          change zV x σ113 641 [(0, .ref b), (1, za x (0)), (2, za x (17)), (3, .int (zI (v3)))] [.int (zI (a114))]
          refine z_aload_n C 2 dL_law_641 rfl rfl ?_
          refine z_aload_nS C 0 dL_law_642 rfl rfl ?_
          refine z_iload_n C 3 dL_law_643 rfl rfl ?_
          refine z_iconst C dL_law_644 ?_
          refine z_iadd C dL_law_645 ?_
          refine z_sld C HS dL_law_646 o110.1 o110.2 ?_
          refine z_aload_nS C 0 dL_law_647 rfl rfl ?_
          refine z_iload_n C 3 dL_law_648 rfl rfl ?_
          refine z_iconst C dL_law_649 ?_
          refine z_iadd C dL_law_650 ?_
          refine z_sld C HS dL_law_651 o111.1 o111.2 ?_
          refine z_aload_nS C 0 dL_law_652 rfl rfl ?_
          refine z_iload_n C 3 dL_law_653 rfl rfl ?_
          refine z_iconst C dL_law_654 ?_
          refine z_iadd C dL_law_655 ?_
          refine z_sld C HS dL_law_656 o112.1 o112.2 ?_
          refine z_callV (av := fun w => [.int (zI ((xs (v3 + 1).toNat).toInt)), .int (zI ((xs (v3 + 2).toNat).toInt)), .int (zI ((xs (v3 + 3).toNat).toInt))]) C [.int (zI (a114))] cs_X7_squares (by decide) (fun _ _ => rfl) rfl (mX7_squares ((xs (v3 + 1).toNat).toInt) ((xs (v3 + 2).toNat).toInt) ((xs (v3 + 3).toNat).toInt)  σ113 _ h) km_L_71 dL_law_657 rfl rfl ⟨rfl, rfl⟩ ⟨by decide, by decide⟩ (Nat.le_of_ble_eq_true rfl) (fun rv σ115 hp => ?_)
          obtain ⟨a116, rfl, h⟩ := hp
          change zV x σ115 660 [(0, .ref b), (1, za x (0)), (2, za x (17)), (3, .int (zI (v3)))] [.int (zI (a116)), .int (zI (a114))]
          obtain ⟨o117, h⟩ := h
          obtain ⟨o118, h⟩ := h
          refine z_icmp_eq C 1183 dL_law_660 (by decide) o117 o118 (fun c119 => ?_) (fun c119 => ?_)
          · have h := h.1 c119
            refine z_iinc C 3 [(3, .int (zI (v3 + 6))), (0, .ref b), (1, za x (0)), (2, za x (17))] dL_law_1183 rfl (by rw [hN]; decide) rfl ?_
            refine z_goto C 18 dL_law_1186 (by decide) ?_
            refine z_sub C [1, 2, 3, 0] [(0, .ref b), (1, za x (0)), (2, za x (17)), (3, .int (zI (v3 + 6)))] rfl ?_
            exact ih (v3 + 6)  σ115 h
          · have h := h.2 c119
            refine z_iconst C dL_law_663 ?_
            exact h.elim
        · have h := h.2.2.2.2.2.2.2.2.2.2.2.2.1 c6
          refine z_tabIn C 665 dL_law_33 o5 (by omega) (by omega) (by rw [c6]; rfl) (by decide) ?_
          refine z_aload_n C 1 dL_law_665 rfl rfl ?_
          refine z_aload_nS C 0 dL_law_666 rfl rfl ?_
          refine z_iload_n C 3 dL_law_667 rfl rfl ?_
          refine z_iconst C dL_law_668 ?_
          refine z_iadd C dL_law_669 ?_
          obtain ⟨o120, h⟩ := h
          refine z_sld C HS dL_law_670 o120.1 o120.2 ?_
          refine z_aload_nS C 0 dL_law_671 rfl rfl ?_
          refine z_iload_n C 3 dL_law_672 rfl rfl ?_
          refine z_iconst C dL_law_673 ?_
          refine z_iadd C dL_law_674 ?_
          obtain ⟨o121, h⟩ := h
          refine z_sld C HS dL_law_675 o121.1 o121.2 ?_
          refine z_aload_nS C 0 dL_law_676 rfl rfl ?_
          refine z_iload_n C 3 dL_law_677 rfl rfl ?_
          refine z_iconst C dL_law_678 ?_
          refine z_iadd C dL_law_679 ?_
          obtain ⟨o122, h⟩ := h
          refine z_sld C HS dL_law_680 o122.1 o122.2 ?_
          refine z_callV (av := fun w => [.int (zI ((xs (v3 + 1).toNat).toInt)), .int (zI ((xs (v3 + 2).toNat).toInt)), .int (zI ((xs (v3 + 3).toNat).toInt))]) C [] cs_X6_holding (by decide) (fun _ _ => rfl) rfl (mX6_holding ((xs (v3 + 1).toNat).toInt) ((xs (v3 + 2).toNat).toInt) ((xs (v3 + 3).toNat).toInt)  σ _ h) km_L_72 dL_law_681 rfl rfl ⟨rfl, rfl⟩ ⟨by decide, by decide⟩ (Nat.le_of_ble_eq_true rfl) (fun rv σ123 hp => ?_)
          obtain ⟨a124, rfl, h⟩ := hp
          change zV x σ123 684 [(0, .ref b), (1, za x (0)), (2, za x (17)), (3, .int (zI (v3)))] [.int (zI (a124))]
          refine z_aload_n C 2 dL_law_684 rfl rfl ?_
          refine z_aload_nS C 0 dL_law_685 rfl rfl ?_
          refine z_iload_n C 3 dL_law_686 rfl rfl ?_
          refine z_iconst C dL_law_687 ?_
          refine z_iadd C dL_law_688 ?_
          refine z_sld C HS dL_law_689 o120.1 o120.2 ?_
          refine z_aload_nS C 0 dL_law_690 rfl rfl ?_
          refine z_iload_n C 3 dL_law_691 rfl rfl ?_
          refine z_iconst C dL_law_692 ?_
          refine z_iadd C dL_law_693 ?_
          refine z_sld C HS dL_law_694 o121.1 o121.2 ?_
          refine z_aload_nS C 0 dL_law_695 rfl rfl ?_
          refine z_iload_n C 3 dL_law_696 rfl rfl ?_
          refine z_iconst C dL_law_697 ?_
          refine z_iadd C dL_law_698 ?_
          refine z_sld C HS dL_law_699 o122.1 o122.2 ?_
          refine z_callV (av := fun w => [.int (zI ((xs (v3 + 1).toNat).toInt)), .int (zI ((xs (v3 + 2).toNat).toInt)), .int (zI ((xs (v3 + 3).toNat).toInt))]) C [.int (zI (a124))] cs_X7_holding (by decide) (fun _ _ => rfl) rfl (mX7_holding ((xs (v3 + 1).toNat).toInt) ((xs (v3 + 2).toNat).toInt) ((xs (v3 + 3).toNat).toInt)  σ123 _ h) km_L_75 dL_law_700 rfl rfl ⟨rfl, rfl⟩ ⟨by decide, by decide⟩ (Nat.le_of_ble_eq_true rfl) (fun rv σ125 hp => ?_)
          obtain ⟨a126, rfl, h⟩ := hp
          change zV x σ125 703 [(0, .ref b), (1, za x (0)), (2, za x (17)), (3, .int (zI (v3)))] [.int (zI (a126)), .int (zI (a124))]
          obtain ⟨o127, h⟩ := h
          obtain ⟨o128, h⟩ := h
          refine z_icmp_eq C 1183 dL_law_703 (by decide) o127 o128 (fun c129 => ?_) (fun c129 => ?_)
          · have h := h.1 c129
            refine z_iinc C 3 [(3, .int (zI (v3 + 6))), (0, .ref b), (1, za x (0)), (2, za x (17))] dL_law_1183 rfl (by rw [hN]; decide) rfl ?_
            refine z_goto C 18 dL_law_1186 (by decide) ?_
            refine z_sub C [1, 2, 3, 0] [(0, .ref b), (1, za x (0)), (2, za x (17)), (3, .int (zI (v3 + 6)))] rfl ?_
            exact ih (v3 + 6)  σ125 h
          · have h := h.2 c129
            refine z_iconst C dL_law_706 ?_
            exact h.elim
        · have h := h.2.2.2.2.2.2.2.2.2.2.2.2.2.1 c6
          refine z_tabIn C 708 dL_law_33 o5 (by omega) (by omega) (by rw [c6]; rfl) (by decide) ?_
          refine z_aload_n C 1 dL_law_708 rfl rfl ?_
          refine z_aload_nS C 0 dL_law_709 rfl rfl ?_
          refine z_iload_n C 3 dL_law_710 rfl rfl ?_
          refine z_iconst C dL_law_711 ?_
          refine z_iadd C dL_law_712 ?_
          obtain ⟨o130, h⟩ := h
          refine z_sld C HS dL_law_713 o130.1 o130.2 ?_
          refine z_aload_nS C 0 dL_law_714 rfl rfl ?_
          refine z_iload_n C 3 dL_law_715 rfl rfl ?_
          refine z_iconst C dL_law_716 ?_
          refine z_iadd C dL_law_717 ?_
          obtain ⟨o131, h⟩ := h
          refine z_sld C HS dL_law_718 o131.1 o131.2 ?_
          refine z_callV (av := fun w => [.int (zI ((xs (v3 + 1).toNat).toInt)), .int (zI ((xs (v3 + 2).toNat).toInt))]) C [] cs_X6_nearly (by decide) (fun _ _ => rfl) rfl (mX6_nearly ((xs (v3 + 1).toNat).toInt) ((xs (v3 + 2).toNat).toInt)  σ _ h) km_L_76 dL_law_719 rfl rfl ⟨rfl, rfl⟩ ⟨by decide, by decide⟩ (Nat.le_of_ble_eq_true rfl) (fun rv σ132 hp => ?_)
          obtain ⟨a133, rfl, h⟩ := hp
          change zV x σ132 722 [(0, .ref b), (1, za x (0)), (2, za x (17)), (3, .int (zI (v3)))] [.int (zI (a133))]
          refine z_aload_n C 2 dL_law_722 rfl rfl ?_
          refine z_aload_nS C 0 dL_law_723 rfl rfl ?_
          refine z_iload_n C 3 dL_law_724 rfl rfl ?_
          refine z_iconst C dL_law_725 ?_
          refine z_iadd C dL_law_726 ?_
          refine z_sld C HS dL_law_727 o130.1 o130.2 ?_
          refine z_aload_nS C 0 dL_law_728 rfl rfl ?_
          refine z_iload_n C 3 dL_law_729 rfl rfl ?_
          refine z_iconst C dL_law_730 ?_
          refine z_iadd C dL_law_731 ?_
          refine z_sld C HS dL_law_732 o131.1 o131.2 ?_
          refine z_callV (av := fun w => [.int (zI ((xs (v3 + 1).toNat).toInt)), .int (zI ((xs (v3 + 2).toNat).toInt))]) C [.int (zI (a133))] cs_X7_nearly (by decide) (fun _ _ => rfl) rfl (mX7_nearly ((xs (v3 + 1).toNat).toInt) ((xs (v3 + 2).toNat).toInt)  σ132 _ h) km_L_79 dL_law_733 rfl rfl ⟨rfl, rfl⟩ ⟨by decide, by decide⟩ (Nat.le_of_ble_eq_true rfl) (fun rv σ134 hp => ?_)
          obtain ⟨a135, rfl, h⟩ := hp
          change zV x σ134 736 [(0, .ref b), (1, za x (0)), (2, za x (17)), (3, .int (zI (v3)))] [.int (zI (a135)), .int (zI (a133))]
          obtain ⟨o136, h⟩ := h
          obtain ⟨o137, h⟩ := h
          refine z_icmp_eq C 1183 dL_law_736 (by decide) o136 o137 (fun c138 => ?_) (fun c138 => ?_)
          · have h := h.1 c138
            refine z_iinc C 3 [(3, .int (zI (v3 + 6))), (0, .ref b), (1, za x (0)), (2, za x (17))] dL_law_1183 rfl (by rw [hN]; decide) rfl ?_
            refine z_goto C 18 dL_law_1186 (by decide) ?_
            refine z_sub C [1, 2, 3, 0] [(0, .ref b), (1, za x (0)), (2, za x (17)), (3, .int (zI (v3 + 6)))] rfl ?_
            exact ih (v3 + 6)  σ134 h
          · have h := h.2 c138
            refine z_iconst C dL_law_739 ?_
            exact h.elim
        · have h := h.2.2.2.2.2.2.2.2.2.2.2.2.2.2.1 c6
          refine z_tabIn C 741 dL_law_33 o5 (by omega) (by omega) (by rw [c6]; rfl) (by decide) ?_
          refine z_aload_n C 1 dL_law_741 rfl rfl ?_
          refine z_aload_nS C 0 dL_law_742 rfl rfl ?_
          refine z_iload_n C 3 dL_law_743 rfl rfl ?_
          refine z_iconst C dL_law_744 ?_
          refine z_iadd C dL_law_745 ?_
          obtain ⟨o139, h⟩ := h
          refine z_sld C HS dL_law_746 o139.1 o139.2 ?_
          refine z_aload_nS C 0 dL_law_747 rfl rfl ?_
          refine z_iload_n C 3 dL_law_748 rfl rfl ?_
          refine z_iconst C dL_law_749 ?_
          refine z_iadd C dL_law_750 ?_
          obtain ⟨o140, h⟩ := h
          refine z_sld C HS dL_law_751 o140.1 o140.2 ?_
          refine z_aload_nS C 0 dL_law_752 rfl rfl ?_
          refine z_iload_n C 3 dL_law_753 rfl rfl ?_
          refine z_iconst C dL_law_754 ?_
          refine z_iadd C dL_law_755 ?_
          obtain ⟨o141, h⟩ := h
          refine z_sld C HS dL_law_756 o141.1 o141.2 ?_
          refine z_aload_nS C 0 dL_law_757 rfl rfl ?_
          refine z_iload_n C 3 dL_law_758 rfl rfl ?_
          refine z_iconst C dL_law_759 ?_
          refine z_iadd C dL_law_760 ?_
          obtain ⟨o142, h⟩ := h
          refine z_sld C HS dL_law_761 o142.1 o142.2 ?_
          refine z_aload_nS C 0 dL_law_762 rfl rfl ?_
          refine z_iload_n C 3 dL_law_763 rfl rfl ?_
          refine z_iconst C dL_law_764 ?_
          refine z_iadd C dL_law_765 ?_
          obtain ⟨o143, h⟩ := h
          refine z_sld C HS dL_law_766 o143.1 o143.2 ?_
          refine z_callV (av := fun w => [.int (zI ((xs (v3 + 1).toNat).toInt)), .int (zI ((xs (v3 + 2).toNat).toInt)), .int (zI ((xs (v3 + 3).toNat).toInt)), .int (zI ((xs (v3 + 4).toNat).toInt)), .int (zI ((xs (v3 + 5).toNat).toInt))]) C [] cs_X6_rows (by decide) (fun _ _ => rfl) rfl (mX6_rows ((xs (v3 + 1).toNat).toInt) ((xs (v3 + 2).toNat).toInt) ((xs (v3 + 3).toNat).toInt) ((xs (v3 + 4).toNat).toInt) ((xs (v3 + 5).toNat).toInt)  σ _ h) km_L_80 dL_law_767 rfl rfl ⟨rfl, rfl⟩ ⟨by decide, by decide⟩ (Nat.le_of_ble_eq_true rfl) (fun rv σ144 hp => ?_)
          obtain ⟨a145, rfl, h⟩ := hp
          change zV x σ144 770 [(0, .ref b), (1, za x (0)), (2, za x (17)), (3, .int (zI (v3)))] [.int (zI (a145))]
          refine z_aload_n C 2 dL_law_770 rfl rfl ?_
          refine z_aload_nS C 0 dL_law_771 rfl rfl ?_
          refine z_iload_n C 3 dL_law_772 rfl rfl ?_
          refine z_iconst C dL_law_773 ?_
          refine z_iadd C dL_law_774 ?_
          refine z_sld C HS dL_law_775 o139.1 o139.2 ?_
          refine z_aload_nS C 0 dL_law_776 rfl rfl ?_
          refine z_iload_n C 3 dL_law_777 rfl rfl ?_
          refine z_iconst C dL_law_778 ?_
          refine z_iadd C dL_law_779 ?_
          refine z_sld C HS dL_law_780 o140.1 o140.2 ?_
          refine z_aload_nS C 0 dL_law_781 rfl rfl ?_
          refine z_iload_n C 3 dL_law_782 rfl rfl ?_
          refine z_iconst C dL_law_783 ?_
          refine z_iadd C dL_law_784 ?_
          refine z_sld C HS dL_law_785 o141.1 o141.2 ?_
          refine z_aload_nS C 0 dL_law_786 rfl rfl ?_
          refine z_iload_n C 3 dL_law_787 rfl rfl ?_
          refine z_iconst C dL_law_788 ?_
          refine z_iadd C dL_law_789 ?_
          refine z_sld C HS dL_law_790 o142.1 o142.2 ?_
          refine z_aload_nS C 0 dL_law_791 rfl rfl ?_
          refine z_iload_n C 3 dL_law_792 rfl rfl ?_
          refine z_iconst C dL_law_793 ?_
          refine z_iadd C dL_law_794 ?_
          refine z_sld C HS dL_law_795 o143.1 o143.2 ?_
          refine z_callV (av := fun w => [.int (zI ((xs (v3 + 1).toNat).toInt)), .int (zI ((xs (v3 + 2).toNat).toInt)), .int (zI ((xs (v3 + 3).toNat).toInt)), .int (zI ((xs (v3 + 4).toNat).toInt)), .int (zI ((xs (v3 + 5).toNat).toInt))]) C [.int (zI (a145))] cs_X7_rows (by decide) (fun _ _ => rfl) rfl (mX7_rows ((xs (v3 + 1).toNat).toInt) ((xs (v3 + 2).toNat).toInt) ((xs (v3 + 3).toNat).toInt) ((xs (v3 + 4).toNat).toInt) ((xs (v3 + 5).toNat).toInt)  σ144 _ h) km_L_84 dL_law_796 rfl rfl ⟨rfl, rfl⟩ ⟨by decide, by decide⟩ (Nat.le_of_ble_eq_true rfl) (fun rv σ146 hp => ?_)
          obtain ⟨a147, rfl, h⟩ := hp
          change zV x σ146 799 [(0, .ref b), (1, za x (0)), (2, za x (17)), (3, .int (zI (v3)))] [.int (zI (a147)), .int (zI (a145))]
          obtain ⟨o148, h⟩ := h
          obtain ⟨o149, h⟩ := h
          refine z_icmp_eq C 1183 dL_law_799 (by decide) o148 o149 (fun c150 => ?_) (fun c150 => ?_)
          · have h := h.1 c150
            refine z_iinc C 3 [(3, .int (zI (v3 + 6))), (0, .ref b), (1, za x (0)), (2, za x (17))] dL_law_1183 rfl (by rw [hN]; decide) rfl ?_
            refine z_goto C 18 dL_law_1186 (by decide) ?_
            refine z_sub C [1, 2, 3, 0] [(0, .ref b), (1, za x (0)), (2, za x (17)), (3, .int (zI (v3 + 6)))] rfl ?_
            exact ih (v3 + 6)  σ146 h
          · have h := h.2 c150
            refine z_iconst C dL_law_802 ?_
            exact h.elim
        · have h := h.2.2.2.2.2.2.2.2.2.2.2.2.2.2.2.1 c6
          refine z_tabIn C 804 dL_law_33 o5 (by omega) (by omega) (by rw [c6]; rfl) (by decide) ?_
          refine z_aload_n C 1 dL_law_804 rfl rfl ?_
          refine z_aload_nS C 0 dL_law_805 rfl rfl ?_
          refine z_iload_n C 3 dL_law_806 rfl rfl ?_
          refine z_iconst C dL_law_807 ?_
          refine z_iadd C dL_law_808 ?_
          obtain ⟨o151, h⟩ := h
          refine z_sld C HS dL_law_809 o151.1 o151.2 ?_
          refine z_aload_nS C 0 dL_law_810 rfl rfl ?_
          refine z_iload_n C 3 dL_law_811 rfl rfl ?_
          refine z_iconst C dL_law_812 ?_
          refine z_iadd C dL_law_813 ?_
          obtain ⟨o152, h⟩ := h
          refine z_sld C HS dL_law_814 o152.1 o152.2 ?_
          refine z_callV (av := fun w => [.int (zI ((xs (v3 + 1).toNat).toInt)), .int (zI ((xs (v3 + 2).toNat).toInt))]) C [] cs_X6_longest (by decide) (fun _ _ => rfl) rfl (mX6_longest ((xs (v3 + 1).toNat).toInt) ((xs (v3 + 2).toNat).toInt)  σ _ h) km_L_85 dL_law_815 rfl rfl ⟨rfl, rfl⟩ ⟨by decide, by decide⟩ (Nat.le_of_ble_eq_true rfl) (fun rv σ153 hp => ?_)
          obtain ⟨a154, rfl, h⟩ := hp
          change zV x σ153 818 [(0, .ref b), (1, za x (0)), (2, za x (17)), (3, .int (zI (v3)))] [.int (zI (a154))]
          refine z_aload_n C 2 dL_law_818 rfl rfl ?_
          refine z_aload_nS C 0 dL_law_819 rfl rfl ?_
          refine z_iload_n C 3 dL_law_820 rfl rfl ?_
          refine z_iconst C dL_law_821 ?_
          refine z_iadd C dL_law_822 ?_
          refine z_sld C HS dL_law_823 o151.1 o151.2 ?_
          refine z_aload_nS C 0 dL_law_824 rfl rfl ?_
          refine z_iload_n C 3 dL_law_825 rfl rfl ?_
          refine z_iconst C dL_law_826 ?_
          refine z_iadd C dL_law_827 ?_
          refine z_sld C HS dL_law_828 o152.1 o152.2 ?_
          refine z_callV (av := fun w => [.int (zI ((xs (v3 + 1).toNat).toInt)), .int (zI ((xs (v3 + 2).toNat).toInt))]) C [.int (zI (a154))] cs_X7_longest (by decide) (fun _ _ => rfl) rfl (mX7_longest ((xs (v3 + 1).toNat).toInt) ((xs (v3 + 2).toNat).toInt)  σ153 _ h) km_L_88 dL_law_829 rfl rfl ⟨rfl, rfl⟩ ⟨by decide, by decide⟩ (Nat.le_of_ble_eq_true rfl) (fun rv σ155 hp => ?_)
          obtain ⟨a156, rfl, h⟩ := hp
          change zV x σ155 832 [(0, .ref b), (1, za x (0)), (2, za x (17)), (3, .int (zI (v3)))] [.int (zI (a156)), .int (zI (a154))]
          obtain ⟨o157, h⟩ := h
          obtain ⟨o158, h⟩ := h
          refine z_icmp_eq C 1183 dL_law_832 (by decide) o157 o158 (fun c159 => ?_) (fun c159 => ?_)
          · have h := h.1 c159
            refine z_iinc C 3 [(3, .int (zI (v3 + 6))), (0, .ref b), (1, za x (0)), (2, za x (17))] dL_law_1183 rfl (by rw [hN]; decide) rfl ?_
            refine z_goto C 18 dL_law_1186 (by decide) ?_
            refine z_sub C [1, 2, 3, 0] [(0, .ref b), (1, za x (0)), (2, za x (17)), (3, .int (zI (v3 + 6)))] rfl ?_
            exact ih (v3 + 6)  σ155 h
          · have h := h.2 c159
            refine z_iconst C dL_law_835 ?_
            exact h.elim
        · have h := h.2.2.2.2.2.2.2.2.2.2.2.2.2.2.2.2.1 c6
          refine z_tabIn C 837 dL_law_33 o5 (by omega) (by omega) (by rw [c6]; rfl) (by decide) ?_
          refine z_aload_n C 1 dL_law_837 rfl rfl ?_
          refine z_aload_nS C 0 dL_law_838 rfl rfl ?_
          refine z_iload_n C 3 dL_law_839 rfl rfl ?_
          refine z_iconst C dL_law_840 ?_
          refine z_iadd C dL_law_841 ?_
          obtain ⟨o160, h⟩ := h
          refine z_sld C HS dL_law_842 o160.1 o160.2 ?_
          refine z_aload_nS C 0 dL_law_843 rfl rfl ?_
          refine z_iload_n C 3 dL_law_844 rfl rfl ?_
          refine z_iconst C dL_law_845 ?_
          refine z_iadd C dL_law_846 ?_
          obtain ⟨o161, h⟩ := h
          refine z_sld C HS dL_law_847 o161.1 o161.2 ?_
          refine z_aload_nS C 0 dL_law_848 rfl rfl ?_
          refine z_iload_n C 3 dL_law_849 rfl rfl ?_
          refine z_iconst C dL_law_850 ?_
          refine z_iadd C dL_law_851 ?_
          obtain ⟨o162, h⟩ := h
          refine z_sld C HS dL_law_852 o162.1 o162.2 ?_
          refine z_aload_nS C 0 dL_law_853 rfl rfl ?_
          refine z_iload_n C 3 dL_law_854 rfl rfl ?_
          refine z_iconst C dL_law_855 ?_
          refine z_iadd C dL_law_856 ?_
          obtain ⟨o163, h⟩ := h
          refine z_sld C HS dL_law_857 o163.1 o163.2 ?_
          refine z_callV (av := fun w => [.int (zI ((xs (v3 + 1).toNat).toInt)), .int (zI ((xs (v3 + 2).toNat).toInt)), .int (zI ((xs (v3 + 3).toNat).toInt)), .int (zI ((xs (v3 + 4).toNat).toInt))]) C [] cs_X6_powers (by decide) (fun _ _ => rfl) rfl (mX6_powers ((xs (v3 + 1).toNat).toInt) ((xs (v3 + 2).toNat).toInt) ((xs (v3 + 3).toNat).toInt) ((xs (v3 + 4).toNat).toInt)  σ _ h) km_L_89 dL_law_858 rfl rfl ⟨rfl, rfl⟩ ⟨by decide, by decide⟩ (Nat.le_of_ble_eq_true rfl) (fun rv σ164 hp => ?_)
          obtain ⟨a165, rfl, h⟩ := hp
          change zV x σ164 861 [(0, .ref b), (1, za x (0)), (2, za x (17)), (3, .int (zI (v3)))] [.int (zI (a165))]
          refine z_aload_n C 2 dL_law_861 rfl rfl ?_
          refine z_aload_nS C 0 dL_law_862 rfl rfl ?_
          refine z_iload_n C 3 dL_law_863 rfl rfl ?_
          refine z_iconst C dL_law_864 ?_
          refine z_iadd C dL_law_865 ?_
          refine z_sld C HS dL_law_866 o160.1 o160.2 ?_
          refine z_aload_nS C 0 dL_law_867 rfl rfl ?_
          refine z_iload_n C 3 dL_law_868 rfl rfl ?_
          refine z_iconst C dL_law_869 ?_
          refine z_iadd C dL_law_870 ?_
          refine z_sld C HS dL_law_871 o161.1 o161.2 ?_
          refine z_aload_nS C 0 dL_law_872 rfl rfl ?_
          refine z_iload_n C 3 dL_law_873 rfl rfl ?_
          refine z_iconst C dL_law_874 ?_
          refine z_iadd C dL_law_875 ?_
          refine z_sld C HS dL_law_876 o162.1 o162.2 ?_
          refine z_aload_nS C 0 dL_law_877 rfl rfl ?_
          refine z_iload_n C 3 dL_law_878 rfl rfl ?_
          refine z_iconst C dL_law_879 ?_
          refine z_iadd C dL_law_880 ?_
          refine z_sld C HS dL_law_881 o163.1 o163.2 ?_
          refine z_callV (av := fun w => [.int (zI ((xs (v3 + 1).toNat).toInt)), .int (zI ((xs (v3 + 2).toNat).toInt)), .int (zI ((xs (v3 + 3).toNat).toInt)), .int (zI ((xs (v3 + 4).toNat).toInt))]) C [.int (zI (a165))] cs_X7_powers (by decide) (fun _ _ => rfl) rfl (mX7_powers ((xs (v3 + 1).toNat).toInt) ((xs (v3 + 2).toNat).toInt) ((xs (v3 + 3).toNat).toInt) ((xs (v3 + 4).toNat).toInt)  σ164 _ h) km_L_92 dL_law_882 rfl rfl ⟨rfl, rfl⟩ ⟨by decide, by decide⟩ (Nat.le_of_ble_eq_true rfl) (fun rv σ166 hp => ?_)
          obtain ⟨a167, rfl, h⟩ := hp
          change zV x σ166 885 [(0, .ref b), (1, za x (0)), (2, za x (17)), (3, .int (zI (v3)))] [.int (zI (a167)), .int (zI (a165))]
          obtain ⟨o168, h⟩ := h
          obtain ⟨o169, h⟩ := h
          refine z_icmp_eq C 1183 dL_law_885 (by decide) o168 o169 (fun c170 => ?_) (fun c170 => ?_)
          · have h := h.1 c170
            refine z_iinc C 3 [(3, .int (zI (v3 + 6))), (0, .ref b), (1, za x (0)), (2, za x (17))] dL_law_1183 rfl (by rw [hN]; decide) rfl ?_
            refine z_goto C 18 dL_law_1186 (by decide) ?_
            refine z_sub C [1, 2, 3, 0] [(0, .ref b), (1, za x (0)), (2, za x (17)), (3, .int (zI (v3 + 6)))] rfl ?_
            exact ih (v3 + 6)  σ166 h
          · have h := h.2 c170
            refine z_iconst C dL_law_888 ?_
            exact h.elim
        · have h := h.2.2.2.2.2.2.2.2.2.2.2.2.2.2.2.2.2.1 c6
          refine z_tabIn C 890 dL_law_33 o5 (by omega) (by omega) (by rw [c6]; rfl) (by decide) ?_
          refine z_aload_n C 1 dL_law_890 rfl rfl ?_
          refine z_aload_nS C 0 dL_law_891 rfl rfl ?_
          refine z_iload_n C 3 dL_law_892 rfl rfl ?_
          refine z_iconst C dL_law_893 ?_
          refine z_iadd C dL_law_894 ?_
          obtain ⟨o171, h⟩ := h
          refine z_sld C HS dL_law_895 o171.1 o171.2 ?_
          refine z_aload_nS C 0 dL_law_896 rfl rfl ?_
          refine z_iload_n C 3 dL_law_897 rfl rfl ?_
          refine z_iconst C dL_law_898 ?_
          refine z_iadd C dL_law_899 ?_
          obtain ⟨o172, h⟩ := h
          refine z_sld C HS dL_law_900 o172.1 o172.2 ?_
          refine z_aload_nS C 0 dL_law_901 rfl rfl ?_
          refine z_iload_n C 3 dL_law_902 rfl rfl ?_
          refine z_iconst C dL_law_903 ?_
          refine z_iadd C dL_law_904 ?_
          obtain ⟨o173, h⟩ := h
          refine z_sld C HS dL_law_905 o173.1 o173.2 ?_
          refine z_aload_nS C 0 dL_law_906 rfl rfl ?_
          refine z_iload_n C 3 dL_law_907 rfl rfl ?_
          refine z_iconst C dL_law_908 ?_
          refine z_iadd C dL_law_909 ?_
          obtain ⟨o174, h⟩ := h
          refine z_sld C HS dL_law_910 o174.1 o174.2 ?_
          refine z_callV (av := fun w => [.int (zI ((xs (v3 + 1).toNat).toInt)), .int (zI ((xs (v3 + 2).toNat).toInt)), .int (zI ((xs (v3 + 3).toNat).toInt)), .int (zI ((xs (v3 + 4).toNat).toInt))]) C [] cs_X6_sums (by decide) (fun _ _ => rfl) rfl (mX6_sums ((xs (v3 + 1).toNat).toInt) ((xs (v3 + 2).toNat).toInt) ((xs (v3 + 3).toNat).toInt) ((xs (v3 + 4).toNat).toInt)  σ _ h) km_L_93 dL_law_911 rfl rfl ⟨rfl, rfl⟩ ⟨by decide, by decide⟩ (Nat.le_of_ble_eq_true rfl) (fun rv σ175 hp => ?_)
          obtain ⟨a176, rfl, h⟩ := hp
          change zV x σ175 914 [(0, .ref b), (1, za x (0)), (2, za x (17)), (3, .int (zI (v3)))] [.int (zI (a176))]
          refine z_aload_n C 2 dL_law_914 rfl rfl ?_
          refine z_aload_nS C 0 dL_law_915 rfl rfl ?_
          refine z_iload_n C 3 dL_law_916 rfl rfl ?_
          refine z_iconst C dL_law_917 ?_
          refine z_iadd C dL_law_918 ?_
          refine z_sld C HS dL_law_919 o171.1 o171.2 ?_
          refine z_aload_nS C 0 dL_law_920 rfl rfl ?_
          refine z_iload_n C 3 dL_law_921 rfl rfl ?_
          refine z_iconst C dL_law_922 ?_
          refine z_iadd C dL_law_923 ?_
          refine z_sld C HS dL_law_924 o172.1 o172.2 ?_
          refine z_aload_nS C 0 dL_law_925 rfl rfl ?_
          refine z_iload_n C 3 dL_law_926 rfl rfl ?_
          refine z_iconst C dL_law_927 ?_
          refine z_iadd C dL_law_928 ?_
          refine z_sld C HS dL_law_929 o173.1 o173.2 ?_
          refine z_aload_nS C 0 dL_law_930 rfl rfl ?_
          refine z_iload_n C 3 dL_law_931 rfl rfl ?_
          refine z_iconst C dL_law_932 ?_
          refine z_iadd C dL_law_933 ?_
          refine z_sld C HS dL_law_934 o174.1 o174.2 ?_
          refine z_callV (av := fun w => [.int (zI ((xs (v3 + 1).toNat).toInt)), .int (zI ((xs (v3 + 2).toNat).toInt)), .int (zI ((xs (v3 + 3).toNat).toInt)), .int (zI ((xs (v3 + 4).toNat).toInt))]) C [.int (zI (a176))] cs_X7_sums (by decide) (fun _ _ => rfl) rfl (mX7_sums ((xs (v3 + 1).toNat).toInt) ((xs (v3 + 2).toNat).toInt) ((xs (v3 + 3).toNat).toInt) ((xs (v3 + 4).toNat).toInt)  σ175 _ h) km_L_96 dL_law_935 rfl rfl ⟨rfl, rfl⟩ ⟨by decide, by decide⟩ (Nat.le_of_ble_eq_true rfl) (fun rv σ177 hp => ?_)
          obtain ⟨a178, rfl, h⟩ := hp
          change zV x σ177 938 [(0, .ref b), (1, za x (0)), (2, za x (17)), (3, .int (zI (v3)))] [.int (zI (a178)), .int (zI (a176))]
          obtain ⟨o179, h⟩ := h
          obtain ⟨o180, h⟩ := h
          refine z_icmp_eq C 1183 dL_law_938 (by decide) o179 o180 (fun c181 => ?_) (fun c181 => ?_)
          · have h := h.1 c181
            refine z_iinc C 3 [(3, .int (zI (v3 + 6))), (0, .ref b), (1, za x (0)), (2, za x (17))] dL_law_1183 rfl (by rw [hN]; decide) rfl ?_
            refine z_goto C 18 dL_law_1186 (by decide) ?_
            refine z_sub C [1, 2, 3, 0] [(0, .ref b), (1, za x (0)), (2, za x (17)), (3, .int (zI (v3 + 6)))] rfl ?_
            exact ih (v3 + 6)  σ177 h
          · have h := h.2 c181
            refine z_iconst C dL_law_941 ?_
            exact h.elim
        · have h := h.2.2.2.2.2.2.2.2.2.2.2.2.2.2.2.2.2.2.1 c6
          refine z_tabIn C 943 dL_law_33 o5 (by omega) (by omega) (by rw [c6]; rfl) (by decide) ?_
          refine z_aload_n C 1 dL_law_943 rfl rfl ?_
          refine z_aload_nS C 0 dL_law_944 rfl rfl ?_
          refine z_iload_n C 3 dL_law_945 rfl rfl ?_
          refine z_iconst C dL_law_946 ?_
          refine z_iadd C dL_law_947 ?_
          obtain ⟨o182, h⟩ := h
          refine z_sld C HS dL_law_948 o182.1 o182.2 ?_
          refine z_aload_nS C 0 dL_law_949 rfl rfl ?_
          refine z_iload_n C 3 dL_law_950 rfl rfl ?_
          refine z_iconst C dL_law_951 ?_
          refine z_iadd C dL_law_952 ?_
          obtain ⟨o183, h⟩ := h
          refine z_sld C HS dL_law_953 o183.1 o183.2 ?_
          refine z_callV (av := fun w => [.int (zI ((xs (v3 + 1).toNat).toInt)), .int (zI ((xs (v3 + 2).toNat).toInt))]) C [] cs_X6_turn (by decide) (fun _ _ => rfl) rfl (mX6_turn ((xs (v3 + 1).toNat).toInt) ((xs (v3 + 2).toNat).toInt)  σ _ h) km_L_97 dL_law_954 rfl rfl ⟨rfl, rfl⟩ ⟨by decide, by decide⟩ (Nat.le_of_ble_eq_true rfl) (fun rv σ184 hp => ?_)
          obtain ⟨a185, rfl, h⟩ := hp
          change zV x σ184 957 [(0, .ref b), (1, za x (0)), (2, za x (17)), (3, .int (zI (v3)))] [.int (zI (a185))]
          refine z_aload_n C 2 dL_law_957 rfl rfl ?_
          refine z_aload_nS C 0 dL_law_958 rfl rfl ?_
          refine z_iload_n C 3 dL_law_959 rfl rfl ?_
          refine z_iconst C dL_law_960 ?_
          refine z_iadd C dL_law_961 ?_
          refine z_sld C HS dL_law_962 o182.1 o182.2 ?_
          refine z_aload_nS C 0 dL_law_963 rfl rfl ?_
          refine z_iload_n C 3 dL_law_964 rfl rfl ?_
          refine z_iconst C dL_law_965 ?_
          refine z_iadd C dL_law_966 ?_
          refine z_sld C HS dL_law_967 o183.1 o183.2 ?_
          refine z_callV (av := fun w => [.int (zI ((xs (v3 + 1).toNat).toInt)), .int (zI ((xs (v3 + 2).toNat).toInt))]) C [.int (zI (a185))] cs_X7_turn (by decide) (fun _ _ => rfl) rfl (mX7_turn ((xs (v3 + 1).toNat).toInt) ((xs (v3 + 2).toNat).toInt)  σ184 _ h) km_L_100 dL_law_968 rfl rfl ⟨rfl, rfl⟩ ⟨by decide, by decide⟩ (Nat.le_of_ble_eq_true rfl) (fun rv σ186 hp => ?_)
          obtain ⟨a187, rfl, h⟩ := hp
          change zV x σ186 971 [(0, .ref b), (1, za x (0)), (2, za x (17)), (3, .int (zI (v3)))] [.int (zI (a187)), .int (zI (a185))]
          obtain ⟨o188, h⟩ := h
          obtain ⟨o189, h⟩ := h
          refine z_icmp_eq C 1183 dL_law_971 (by decide) o188 o189 (fun c190 => ?_) (fun c190 => ?_)
          · have h := h.1 c190
            refine z_iinc C 3 [(3, .int (zI (v3 + 6))), (0, .ref b), (1, za x (0)), (2, za x (17))] dL_law_1183 rfl (by rw [hN]; decide) rfl ?_
            refine z_goto C 18 dL_law_1186 (by decide) ?_
            refine z_sub C [1, 2, 3, 0] [(0, .ref b), (1, za x (0)), (2, za x (17)), (3, .int (zI (v3 + 6)))] rfl ?_
            exact ih (v3 + 6)  σ186 h
          · have h := h.2 c190
            refine z_iconst C dL_law_974 ?_
            exact h.elim
        · have h := h.2.2.2.2.2.2.2.2.2.2.2.2.2.2.2.2.2.2.2.1 c6
          refine z_tabIn C 976 dL_law_33 o5 (by omega) (by omega) (by rw [c6]; rfl) (by decide) ?_
          refine z_aload_n C 1 dL_law_976 rfl rfl ?_
          refine z_aload_nS C 0 dL_law_977 rfl rfl ?_
          refine z_iload_n C 3 dL_law_978 rfl rfl ?_
          refine z_iconst C dL_law_979 ?_
          refine z_iadd C dL_law_980 ?_
          obtain ⟨o191, h⟩ := h
          refine z_sld C HS dL_law_981 o191.1 o191.2 ?_
          refine z_callV (av := fun w => [.int (zI ((xs (v3 + 1).toNat).toInt))]) C [] cs_X6_like (by decide) (fun _ _ => rfl) rfl (mX6_like ((xs (v3 + 1).toNat).toInt)  σ _ h) km_L_101 dL_law_982 rfl rfl ⟨rfl, rfl⟩ ⟨by decide, by decide⟩ (Nat.le_of_ble_eq_true rfl) (fun rv σ192 hp => ?_)
          obtain ⟨a193, rfl, h⟩ := hp
          change zV x σ192 985 [(0, .ref b), (1, za x (0)), (2, za x (17)), (3, .int (zI (v3)))] [.int (zI (a193))]
          refine z_aload_n C 2 dL_law_985 rfl rfl ?_
          refine z_aload_nS C 0 dL_law_986 rfl rfl ?_
          refine z_iload_n C 3 dL_law_987 rfl rfl ?_
          refine z_iconst C dL_law_988 ?_
          refine z_iadd C dL_law_989 ?_
          refine z_sld C HS dL_law_990 o191.1 o191.2 ?_
          refine z_callV (av := fun w => [.int (zI ((xs (v3 + 1).toNat).toInt))]) C [.int (zI (a193))] cs_X7_like (by decide) (fun _ _ => rfl) rfl (mX7_like ((xs (v3 + 1).toNat).toInt)  σ192 _ h) km_L_104 dL_law_991 rfl rfl ⟨rfl, rfl⟩ ⟨by decide, by decide⟩ (Nat.le_of_ble_eq_true rfl) (fun rv σ194 hp => ?_)
          obtain ⟨a195, rfl, h⟩ := hp
          change zV x σ194 994 [(0, .ref b), (1, za x (0)), (2, za x (17)), (3, .int (zI (v3)))] [.int (zI (a195)), .int (zI (a193))]
          obtain ⟨o196, h⟩ := h
          obtain ⟨o197, h⟩ := h
          refine z_icmp_eq C 1183 dL_law_994 (by decide) o196 o197 (fun c198 => ?_) (fun c198 => ?_)
          · have h := h.1 c198
            refine z_iinc C 3 [(3, .int (zI (v3 + 6))), (0, .ref b), (1, za x (0)), (2, za x (17))] dL_law_1183 rfl (by rw [hN]; decide) rfl ?_
            refine z_goto C 18 dL_law_1186 (by decide) ?_
            refine z_sub C [1, 2, 3, 0] [(0, .ref b), (1, za x (0)), (2, za x (17)), (3, .int (zI (v3 + 6)))] rfl ?_
            exact ih (v3 + 6)  σ194 h
          · have h := h.2 c198
            refine z_iconst C dL_law_997 ?_
            exact h.elim
        · have h := h.2.2.2.2.2.2.2.2.2.2.2.2.2.2.2.2.2.2.2.2.1 c6
          refine z_tabIn C 999 dL_law_33 o5 (by omega) (by omega) (by rw [c6]; rfl) (by decide) ?_
          refine z_aload_n C 1 dL_law_999 rfl rfl ?_
          refine z_aload_nS C 0 dL_law_1000 rfl rfl ?_
          refine z_iload_n C 3 dL_law_1001 rfl rfl ?_
          refine z_iconst C dL_law_1002 ?_
          refine z_iadd C dL_law_1003 ?_
          obtain ⟨o199, h⟩ := h
          refine z_sld C HS dL_law_1004 o199.1 o199.2 ?_
          refine z_aload_nS C 0 dL_law_1005 rfl rfl ?_
          refine z_iload_n C 3 dL_law_1006 rfl rfl ?_
          refine z_iconst C dL_law_1007 ?_
          refine z_iadd C dL_law_1008 ?_
          obtain ⟨o200, h⟩ := h
          refine z_sld C HS dL_law_1009 o200.1 o200.2 ?_
          refine z_aload_nS C 0 dL_law_1010 rfl rfl ?_
          refine z_iload_n C 3 dL_law_1011 rfl rfl ?_
          refine z_iconst C dL_law_1012 ?_
          refine z_iadd C dL_law_1013 ?_
          obtain ⟨o201, h⟩ := h
          refine z_sld C HS dL_law_1014 o201.1 o201.2 ?_
          obtain ⟨o202, h⟩ := h
          refine z_if_eq C 1022 dL_law_1015 (by decide) o202 (fun c203 => ?_) (fun c203 => ?_)
          · have h := h.1 c203
            refine z_iconst C dL_law_1022 ?_
            exact sL_law_1023 C hN E HS (by intro v3 σ h; exact ih v3  σ h) v3 0 ((xs (v3 + 2).toNat).toInt) ((xs (v3 + 1).toNat).toInt)  σ h
          · have h := h.2 c203
            refine z_iconst C dL_law_1018 ?_
            refine z_goto C 1023 dL_law_1019 (by decide) ?_
            exact sL_law_1023 C hN E HS (by intro v3 σ h; exact ih v3  σ h) v3 1 ((xs (v3 + 2).toNat).toInt) ((xs (v3 + 1).toNat).toInt)  σ h
        · have h := h.2.2.2.2.2.2.2.2.2.2.2.2.2.2.2.2.2.2.2.2.2.1 c6
          refine z_tabIn C 1058 dL_law_33 o5 (by omega) (by omega) (by rw [c6]; rfl) (by decide) ?_
          refine z_aload_n C 1 dL_law_1058 rfl rfl ?_
          refine z_aload_nS C 0 dL_law_1059 rfl rfl ?_
          refine z_iload_n C 3 dL_law_1060 rfl rfl ?_
          refine z_iconst C dL_law_1061 ?_
          refine z_iadd C dL_law_1062 ?_
          obtain ⟨o204, h⟩ := h
          refine z_sld C HS dL_law_1063 o204.1 o204.2 ?_
          refine z_aload_nS C 0 dL_law_1064 rfl rfl ?_
          refine z_iload_n C 3 dL_law_1065 rfl rfl ?_
          refine z_iconst C dL_law_1066 ?_
          refine z_iadd C dL_law_1067 ?_
          obtain ⟨o205, h⟩ := h
          refine z_sld C HS dL_law_1068 o205.1 o205.2 ?_
          refine z_callV (av := fun w => [.int (zI ((xs (v3 + 1).toNat).toInt)), .int (zI ((xs (v3 + 2).toNat).toInt))]) C [] cs_X6_hear (by decide) (fun _ _ => rfl) rfl (mX6_hear ((xs (v3 + 1).toNat).toInt) ((xs (v3 + 2).toNat).toInt)  σ _ h) km_L_110 dL_law_1069 rfl rfl ⟨rfl, rfl⟩ ⟨by decide, by decide⟩ (Nat.le_of_ble_eq_true rfl) (fun rv σ206 hp => ?_)
          obtain ⟨a207, rfl, h⟩ := hp
          change zV x σ206 1072 [(0, .ref b), (1, za x (0)), (2, za x (17)), (3, .int (zI (v3)))] [.int (zI (a207))]
          refine z_aload_n C 2 dL_law_1072 rfl rfl ?_
          refine z_aload_nS C 0 dL_law_1073 rfl rfl ?_
          refine z_iload_n C 3 dL_law_1074 rfl rfl ?_
          refine z_iconst C dL_law_1075 ?_
          refine z_iadd C dL_law_1076 ?_
          refine z_sld C HS dL_law_1077 o204.1 o204.2 ?_
          refine z_aload_nS C 0 dL_law_1078 rfl rfl ?_
          refine z_iload_n C 3 dL_law_1079 rfl rfl ?_
          refine z_iconst C dL_law_1080 ?_
          refine z_iadd C dL_law_1081 ?_
          refine z_sld C HS dL_law_1082 o205.1 o205.2 ?_
          refine z_callV (av := fun w => [.int (zI ((xs (v3 + 1).toNat).toInt)), .int (zI ((xs (v3 + 2).toNat).toInt))]) C [.int (zI (a207))] cs_X7_hear (by decide) (fun _ _ => rfl) rfl (mX7_hear ((xs (v3 + 1).toNat).toInt) ((xs (v3 + 2).toNat).toInt)  σ206 _ h) km_L_113 dL_law_1083 rfl rfl ⟨rfl, rfl⟩ ⟨by decide, by decide⟩ (Nat.le_of_ble_eq_true rfl) (fun rv σ208 hp => ?_)
          obtain ⟨a209, rfl, h⟩ := hp
          change zV x σ208 1086 [(0, .ref b), (1, za x (0)), (2, za x (17)), (3, .int (zI (v3)))] [.int (zI (a209)), .int (zI (a207))]
          obtain ⟨o210, h⟩ := h
          obtain ⟨o211, h⟩ := h
          refine z_icmp_eq C 1183 dL_law_1086 (by decide) o210 o211 (fun c212 => ?_) (fun c212 => ?_)
          · have h := h.1 c212
            refine z_iinc C 3 [(3, .int (zI (v3 + 6))), (0, .ref b), (1, za x (0)), (2, za x (17))] dL_law_1183 rfl (by rw [hN]; decide) rfl ?_
            refine z_goto C 18 dL_law_1186 (by decide) ?_
            refine z_sub C [1, 2, 3, 0] [(0, .ref b), (1, za x (0)), (2, za x (17)), (3, .int (zI (v3 + 6)))] rfl ?_
            exact ih (v3 + 6)  σ208 h
          · have h := h.2 c212
            refine z_iconst C dL_law_1089 ?_
            exact h.elim
        · have h := h.2.2.2.2.2.2.2.2.2.2.2.2.2.2.2.2.2.2.2.2.2.2.1 c6
          refine z_tabIn C 1091 dL_law_33 o5 (by omega) (by omega) (by rw [c6]; rfl) (by decide) ?_
          refine z_aload_n C 1 dL_law_1091 rfl rfl ?_
          refine z_callV (av := fun w => []) C [] cs_X6_still (by decide) (fun _ _ => rfl) rfl (mX6_still   σ _ h) km_L_114 dL_law_1092 rfl rfl ⟨rfl, rfl⟩ ⟨by decide, by decide⟩ (Nat.le_of_ble_eq_true rfl) (fun rv σ213 hp => ?_)
          obtain ⟨a214, rfl, h⟩ := hp
          change zV x σ213 1095 [(0, .ref b), (1, za x (0)), (2, za x (17)), (3, .int (zI (v3)))] [.int (zI (a214))]
          refine z_aload_n C 2 dL_law_1095 rfl rfl ?_
          refine z_callV (av := fun w => []) C [.int (zI (a214))] cs_X7_still (by decide) (fun _ _ => rfl) rfl (mX7_still   σ213 _ h) km_L_117 dL_law_1096 rfl rfl ⟨rfl, rfl⟩ ⟨by decide, by decide⟩ (Nat.le_of_ble_eq_true rfl) (fun rv σ215 hp => ?_)
          obtain ⟨a216, rfl, h⟩ := hp
          change zV x σ215 1099 [(0, .ref b), (1, za x (0)), (2, za x (17)), (3, .int (zI (v3)))] [.int (zI (a216)), .int (zI (a214))]
          obtain ⟨o217, h⟩ := h
          obtain ⟨o218, h⟩ := h
          refine z_icmp_eq C 1183 dL_law_1099 (by decide) o217 o218 (fun c219 => ?_) (fun c219 => ?_)
          · have h := h.1 c219
            refine z_iinc C 3 [(3, .int (zI (v3 + 6))), (0, .ref b), (1, za x (0)), (2, za x (17))] dL_law_1183 rfl (by rw [hN]; decide) rfl ?_
            refine z_goto C 18 dL_law_1186 (by decide) ?_
            refine z_sub C [1, 2, 3, 0] [(0, .ref b), (1, za x (0)), (2, za x (17)), (3, .int (zI (v3 + 6)))] rfl ?_
            exact ih (v3 + 6)  σ215 h
          · have h := h.2 c219
            refine z_iconst C dL_law_1102 ?_
            exact h.elim
        · have h := h.2.2.2.2.2.2.2.2.2.2.2.2.2.2.2.2.2.2.2.2.2.2.2.1 c6
          refine z_tabIn C 1104 dL_law_33 o5 (by omega) (by omega) (by rw [c6]; rfl) (by decide) ?_
          refine z_aload_n C 1 dL_law_1104 rfl rfl ?_
          refine z_aload_nS C 0 dL_law_1105 rfl rfl ?_
          refine z_iload_n C 3 dL_law_1106 rfl rfl ?_
          refine z_iconst C dL_law_1107 ?_
          refine z_iadd C dL_law_1108 ?_
          obtain ⟨o220, h⟩ := h
          refine z_sld C HS dL_law_1109 o220.1 o220.2 ?_
          refine z_aload_nS C 0 dL_law_1110 rfl rfl ?_
          refine z_iload_n C 3 dL_law_1111 rfl rfl ?_
          refine z_iconst C dL_law_1112 ?_
          refine z_iadd C dL_law_1113 ?_
          obtain ⟨o221, h⟩ := h
          refine z_sld C HS dL_law_1114 o221.1 o221.2 ?_
          refine z_callV (av := fun w => [.int (zI ((xs (v3 + 1).toNat).toInt)), .int (zI ((xs (v3 + 2).toNat).toInt))]) C [] cs_X6_found (by decide) (fun _ _ => rfl) rfl (mX6_found ((xs (v3 + 1).toNat).toInt) ((xs (v3 + 2).toNat).toInt)  σ _ h) km_L_118 dL_law_1115 rfl rfl ⟨rfl, rfl⟩ ⟨by decide, by decide⟩ (Nat.le_of_ble_eq_true rfl) (fun rv σ222 hp => ?_)
          obtain ⟨a223, rfl, h⟩ := hp
          change zV x σ222 1118 [(0, .ref b), (1, za x (0)), (2, za x (17)), (3, .int (zI (v3)))] [.int (zI (a223))]
          refine z_aload_n C 2 dL_law_1118 rfl rfl ?_
          refine z_aload_nS C 0 dL_law_1119 rfl rfl ?_
          refine z_iload_n C 3 dL_law_1120 rfl rfl ?_
          refine z_iconst C dL_law_1121 ?_
          refine z_iadd C dL_law_1122 ?_
          refine z_sld C HS dL_law_1123 o220.1 o220.2 ?_
          refine z_aload_nS C 0 dL_law_1124 rfl rfl ?_
          refine z_iload_n C 3 dL_law_1125 rfl rfl ?_
          refine z_iconst C dL_law_1126 ?_
          refine z_iadd C dL_law_1127 ?_
          refine z_sld C HS dL_law_1128 o221.1 o221.2 ?_
          refine z_callV (av := fun w => [.int (zI ((xs (v3 + 1).toNat).toInt)), .int (zI ((xs (v3 + 2).toNat).toInt))]) C [.int (zI (a223))] cs_X7_found (by decide) (fun _ _ => rfl) rfl (mX7_found ((xs (v3 + 1).toNat).toInt) ((xs (v3 + 2).toNat).toInt)  σ222 _ h) km_L_121 dL_law_1129 rfl rfl ⟨rfl, rfl⟩ ⟨by decide, by decide⟩ (Nat.le_of_ble_eq_true rfl) (fun rv σ224 hp => ?_)
          obtain ⟨a225, rfl, h⟩ := hp
          change zV x σ224 1132 [(0, .ref b), (1, za x (0)), (2, za x (17)), (3, .int (zI (v3)))] [.int (zI (a225)), .int (zI (a223))]
          obtain ⟨o226, h⟩ := h
          obtain ⟨o227, h⟩ := h
          refine z_icmp_eq C 1183 dL_law_1132 (by decide) o226 o227 (fun c228 => ?_) (fun c228 => ?_)
          · have h := h.1 c228
            refine z_iinc C 3 [(3, .int (zI (v3 + 6))), (0, .ref b), (1, za x (0)), (2, za x (17))] dL_law_1183 rfl (by rw [hN]; decide) rfl ?_
            refine z_goto C 18 dL_law_1186 (by decide) ?_
            refine z_sub C [1, 2, 3, 0] [(0, .ref b), (1, za x (0)), (2, za x (17)), (3, .int (zI (v3 + 6)))] rfl ?_
            exact ih (v3 + 6)  σ224 h
          · have h := h.2 c228
            refine z_iconst C dL_law_1135 ?_
            exact h.elim
        · have h := h.2.2.2.2.2.2.2.2.2.2.2.2.2.2.2.2.2.2.2.2.2.2.2.2.1 c6
          refine z_tabIn C 1137 dL_law_33 o5 (by omega) (by omega) (by rw [c6]; rfl) (by decide) ?_
          refine z_aload_n C 1 dL_law_1137 rfl rfl ?_
          refine z_aload_nS C 0 dL_law_1138 rfl rfl ?_
          refine z_iload_n C 3 dL_law_1139 rfl rfl ?_
          refine z_iconst C dL_law_1140 ?_
          refine z_iadd C dL_law_1141 ?_
          obtain ⟨o229, h⟩ := h
          refine z_sld C HS dL_law_1142 o229.1 o229.2 ?_
          refine z_callV (av := fun w => [.int (zI ((xs (v3 + 1).toNat).toInt))]) C [] cs_X6_among (by decide) (fun _ _ => rfl) rfl (mX6_among ((xs (v3 + 1).toNat).toInt)  σ _ h) km_L_122 dL_law_1143 rfl rfl ⟨rfl, rfl⟩ ⟨by decide, by decide⟩ (Nat.le_of_ble_eq_true rfl) (fun rv σ230 hp => ?_)
          obtain ⟨a231, rfl, h⟩ := hp
          change zV x σ230 1146 [(0, .ref b), (1, za x (0)), (2, za x (17)), (3, .int (zI (v3)))] [.int (zI (a231))]
          refine z_aload_n C 2 dL_law_1146 rfl rfl ?_
          refine z_aload_nS C 0 dL_law_1147 rfl rfl ?_
          refine z_iload_n C 3 dL_law_1148 rfl rfl ?_
          refine z_iconst C dL_law_1149 ?_
          refine z_iadd C dL_law_1150 ?_
          refine z_sld C HS dL_law_1151 o229.1 o229.2 ?_
          refine z_callV (av := fun w => [.int (zI ((xs (v3 + 1).toNat).toInt))]) C [.int (zI (a231))] cs_X7_among (by decide) (fun _ _ => rfl) rfl (mX7_among ((xs (v3 + 1).toNat).toInt)  σ230 _ h) km_L_125 dL_law_1152 rfl rfl ⟨rfl, rfl⟩ ⟨by decide, by decide⟩ (Nat.le_of_ble_eq_true rfl) (fun rv σ232 hp => ?_)
          obtain ⟨a233, rfl, h⟩ := hp
          change zV x σ232 1155 [(0, .ref b), (1, za x (0)), (2, za x (17)), (3, .int (zI (v3)))] [.int (zI (a233)), .int (zI (a231))]
          obtain ⟨o234, h⟩ := h
          obtain ⟨o235, h⟩ := h
          refine z_icmp_eq C 1183 dL_law_1155 (by decide) o234 o235 (fun c236 => ?_) (fun c236 => ?_)
          · have h := h.1 c236
            refine z_iinc C 3 [(3, .int (zI (v3 + 6))), (0, .ref b), (1, za x (0)), (2, za x (17))] dL_law_1183 rfl (by rw [hN]; decide) rfl ?_
            refine z_goto C 18 dL_law_1186 (by decide) ?_
            refine z_sub C [1, 2, 3, 0] [(0, .ref b), (1, za x (0)), (2, za x (17)), (3, .int (zI (v3 + 6)))] rfl ?_
            exact ih (v3 + 6)  σ232 h
          · have h := h.2 c236
            refine z_iconst C dL_law_1158 ?_
            exact h.elim
        · have h := h.2.2.2.2.2.2.2.2.2.2.2.2.2.2.2.2.2.2.2.2.2.2.2.2.2 c6
          refine z_tabIn C 1160 dL_law_33 o5 (by omega) (by omega) (by rw [c6]; rfl) (by decide) ?_
          refine z_aload_n C 1 dL_law_1160 rfl rfl ?_
          refine z_aload_nS C 0 dL_law_1161 rfl rfl ?_
          refine z_iload_n C 3 dL_law_1162 rfl rfl ?_
          refine z_iconst C dL_law_1163 ?_
          refine z_iadd C dL_law_1164 ?_
          obtain ⟨o237, h⟩ := h
          refine z_sld C HS dL_law_1165 o237.1 o237.2 ?_
          refine z_callV (av := fun w => [.int (zI ((xs (v3 + 1).toNat).toInt))]) C [] cs_X6_count (by decide) (fun _ _ => rfl) rfl (mX6_count ((xs (v3 + 1).toNat).toInt)  σ _ h) km_L_126 dL_law_1166 rfl rfl ⟨rfl, rfl⟩ ⟨by decide, by decide⟩ (Nat.le_of_ble_eq_true rfl) (fun rv σ238 hp => ?_)
          obtain ⟨a239, rfl, h⟩ := hp
          change zV x σ238 1169 [(0, .ref b), (1, za x (0)), (2, za x (17)), (3, .int (zI (v3)))] [.int (zI (a239))]
          refine z_aload_n C 2 dL_law_1169 rfl rfl ?_
          refine z_aload_nS C 0 dL_law_1170 rfl rfl ?_
          refine z_iload_n C 3 dL_law_1171 rfl rfl ?_
          refine z_iconst C dL_law_1172 ?_
          refine z_iadd C dL_law_1173 ?_
          refine z_sld C HS dL_law_1174 o237.1 o237.2 ?_
          refine z_callV (av := fun w => [.int (zI ((xs (v3 + 1).toNat).toInt))]) C [.int (zI (a239))] cs_X7_count (by decide) (fun _ _ => rfl) rfl (mX7_count ((xs (v3 + 1).toNat).toInt)  σ238 _ h) km_L_129 dL_law_1175 rfl rfl ⟨rfl, rfl⟩ ⟨by decide, by decide⟩ (Nat.le_of_ble_eq_true rfl) (fun rv σ240 hp => ?_)
          obtain ⟨a241, rfl, h⟩ := hp
          change zV x σ240 1178 [(0, .ref b), (1, za x (0)), (2, za x (17)), (3, .int (zI (v3)))] [.int (zI (a241)), .int (zI (a239))]
          obtain ⟨o242, h⟩ := h
          obtain ⟨o243, h⟩ := h
          refine z_icmp_eq C 1183 dL_law_1178 (by decide) o242 o243 (fun c244 => ?_) (fun c244 => ?_)
          · have h := h.1 c244
            refine z_iinc C 3 [(3, .int (zI (v3 + 6))), (0, .ref b), (1, za x (0)), (2, za x (17))] dL_law_1183 rfl (by rw [hN]; decide) rfl ?_
            refine z_goto C 18 dL_law_1186 (by decide) ?_
            refine z_sub C [1, 2, 3, 0] [(0, .ref b), (1, za x (0)), (2, za x (17)), (3, .int (zI (v3 + 6)))] rfl ?_
            exact ih (v3 + 6)  σ240 h
          · have h := h.2 c244
            refine z_iconst C dL_law_1181 ?_
            exact h.elim
