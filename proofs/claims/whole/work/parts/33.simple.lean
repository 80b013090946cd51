/-! marks, count, hear -/
def zs (f : Nat → Int) : Nat → Int
  | 0 => 0
  | n + 1 => zs f n + f n
theorem zs_b {f : Nat → Int} {c : Int} (hc : 0 ≤ c) : ∀ n : Nat, (∀ i, i < n → 0 ≤ f i ∧ f i ≤ c) → 0 ≤ zs f n ∧ zs f n ≤ c * n
  | 0, _ => ⟨Int.le_refl _, by simp [zs]⟩
  | n + 1, h => by
    have h1 := zs_b hc n (fun i hi => h i (by omega))
    have h2 := h n (by omega)
    show 0 ≤ zs f n + f n ∧ zs f n + f n ≤ c * ((n + 1 : Nat) : Int)
    rw [show ((n + 1 : Nat) : Int) = (n : Int) + 1 by omega, Int.mul_add, Int.mul_one]
    omega
theorem zs_congr {f g : Nat → Int} : ∀ n : Nat, (∀ i, i < n → f i = g i) → zs f n = zs g n
  | 0, _ => rfl
  | n + 1, h => by
    show zs f n + f n = zs g n + g n
    rw [zs_congr n (fun i hi => h i (by omega)), h n (by omega)]
def pk (f : Nat → Int) : Nat → Int
  | 0 => 0
  | n + 1 => 16 * pk f n + f n
def pwr : Nat → Int
  | 0 => 1
  | n + 1 => 16 * pwr n
theorem pk_b {f : Nat → Int} : ∀ n : Nat, (∀ i, i < n → 0 ≤ f i ∧ f i ≤ 15) → 0 ≤ pk f n ∧ pk f n < pwr n
  | 0, _ => ⟨Int.le_refl _, (show (0 : Int) < 1 by decide)⟩
  | n + 1, h => by
    have h1 := pk_b n (fun i hi => h i (by omega))
    have h2 := h n (by omega)
    show 0 ≤ 16 * pk f n + f n ∧ 16 * pk f n + f n < 16 * pwr n
    omega
theorem pk_congr {f g : Nat → Int} : ∀ n : Nat, (∀ i, i < n → f i = g i) → pk f n = pk g n
  | 0, _ => rfl
  | n + 1, h => by
    show 16 * pk f n + f n = 16 * pk g n + g n
    rw [pk_congr n (fun i hi => h i (by omega)), h n (by omega)]
theorem pwr_11 : ∀ n, n < 12 → pwr n ≤ 17592186044416 := by decide
theorem pwr_12 : ∀ n, n < 13 → pwr n ≤ 281474976710656 := by decide
theorem packed_s {r : Nat} {σ : Hp} {k : Int → Hp → Prop} (h : RW σ r) (hk : k (pk (fun x => ra σ r x) (σ (29 + r) 0).toNat) σ) : wX3_packed r σ k := by
  have h1 := h.1
  have key : ∀ (m i : Nat), i + m = (σ (29 + r) 0).toNat → wX3_packed_4 k (m + 1) r (pk (fun x => ra σ r x) i) i σ := by
    intro m
    induction m with
    | zero =>
      intro i hi
      refine ⟨zr (by omega) (by omega), zr (by omega) (by omega), fun _ => ?_, fun hc => by omega⟩
      rw [← show i = (σ (29 + r) 0).toNat by omega] at hk
      exact hk
    | succ m ih =>
      intro i hi
      refine ⟨zr (by omega) (by omega), zr (by omega) (by omega), fun hc => by omega, fun _ => ?_⟩
      have hb := ra_b h (i : Int)
      have hp := pk_b (f := fun x => ra σ r x) i (fun j _ => ra_b h (j : Int))
      have hp2 := pwr_11 i (by omega)
      refine lineAt_s h1 (zr (by omega) (by omega)) ⟨zr (by omega) (by omega), ?_⟩
      rw [z_pack hp.1 (by omega) hb.1 (by omega)]
      have := ih (i + 1) (by omega)
      rw [show ((i + 1 : Nat) : Int) = (i : Int) + 1 by omega] at this
      exact this
  exact ⟨_, key (σ (29 + r) 0).toNat 0 (by omega)⟩
theorem T_marks {K : Hp → Prop} (hK : ∀ σ, Inv σ → K σ) {v1 : Int} (h1 : zrg v1) {σ : Hp} (hI : Inv σ) : wX6_marks v1 σ (fun a s => wX7_marks v1 s (fun b t => zrl a ∧ zrl b ∧ ((a = b → K t) ∧ (¬ (a = b) → False)))) := by
  unfold wX6_marks
  refine rowAt_br h1 (fun hb => ?_) (fun a1 a2 => ?_)
  · exact isRow_brn h1 (fun _ => finL rfl (zrl_d rfl) (hK _ hI)) (fun b1 b2 => by omega)
  · have hr := hI.row a1 a2
    have hw := hr.1
    have hw1 := hw.1
    refine packed_s hw ?_
    refine isRow_brn h1 (fun hb => by omega) (fun _ _ => ?_)
    have hf : ∀ x : Nat, 0 ≤ ra σ v1.toNat x ∧ ra σ v1.toNat x ≤ 15 := fun x => ra_b hw x
    have key : ∀ (m i : Nat), i + m = (σ (29 + v1.toNat) 0).toNat → wX7_marks_16 (fun b t => zrl (pk (fun x => ra σ v1.toNat x) (σ (29 + v1.toNat) 0).toNat) ∧ zrl b ∧ ((pk (fun x => ra σ v1.toNat x) (σ (29 + v1.toNat) 0).toNat = b → K t) ∧ (¬ (pk (fun x => ra σ v1.toNat x) (σ (29 + v1.toNat) 0).toNat = b) → False))) (m + 1) v1 (pk (fun x => ra σ v1.toNat x) i) i σ := by
      intro m
      induction m with
      | zero =>
        intro i hi
        refine ⟨⟨a1, by omega⟩, zr (by omega) (by omega), by rw [hr.2.1]; exact zr (by omega) (by omega), fun _ => ?_, fun hc => by rw [hr.2.1] at hc; omega⟩
        rw [← show i = (σ (29 + v1.toNat) 0).toNat by omega]
        have hp := pk_b (f := fun x => ra σ v1.toNat x) i (fun j _ => hf j)
        have hp2 := pwr_12 i (by omega)
        exact finL rfl ⟨by omega, by omega⟩ (hK _ hI)
      | succ m ih =>
        intro i hi
        refine ⟨⟨a1, by omega⟩, zr (by omega) (by omega), by rw [hr.2.1]; exact zr (by omega) (by omega), fun hc => by rw [hr.2.1] at hc; omega, fun _ => ⟨⟨by omega, by omega⟩, ?_⟩⟩
        have e : σ 20 (12 * v1 + (i : Int)).toNat = ra σ v1.toNat i := by
          rw [show (12 * v1 + (i : Int)).toNat = 12 * v1.toNat + i by omega, hr.2.2.2 i (by omega)]
          unfold ra
          rw [if_pos (by omega), Int.toNat_natCast]
        rw [e]
        have := hf i
        refine ⟨zr (by omega) (by omega), ?_⟩
        have := ih (i + 1) (by omega)
        rw [show ((i + 1 : Nat) : Int) = (i : Int) + 1 by omega] at this
        exact this
    exact ⟨_, key (σ (29 + v1.toNat) 0).toNat 0 (by omega)⟩
-- count
def cm (σ : Hp) (r : Nat) (x : Nat) : Int := if ra σ r x = 15 then 0 else 1
theorem cm_b (σ : Hp) (r x : Nat) : 0 ≤ cm σ r x ∧ cm σ r x ≤ 1 := by unfold cm; split <;> omega
theorem markCount_s {r : Nat} {σ : Hp} {k : Int → Hp → Prop} (h : RW σ r) (hk : k (zs (cm σ r) (σ (29 + r) 0).toNat) σ) : wX3_markCount r σ k := by
  have h1 := h.1
  have key : ∀ (m i : Nat), i + m = (σ (29 + r) 0).toNat → wX3_markCount_4 k (m + 1) r (zs (cm σ r) i) i σ := by
    intro m
    induction m with
    | zero =>
      intro i hi
      refine ⟨zr (by omega) (by omega), zr (by omega) (by omega), fun _ => ?_, fun hc => by omega⟩
      rw [← show i = (σ (29 + r) 0).toNat by omega] at hk
      exact hk
    | succ m ih =>
      intro i hi
      refine ⟨zr (by omega) (by omega), zr (by omega) (by omega), fun hc => by omega, fun _ => ?_⟩
      have ih := ih (i + 1) (by omega)
      rw [show ((i + 1 : Nat) : Int) = (i : Int) + 1 by omega, show zs (cm σ r) (i + 1) = zs (cm σ r) i + cm σ r i from rfl] at ih
      refine mbr h (zr (by omega) (by omega)) (fun hc => ?_) (fun hc => ?_)
      · rw [show cm σ r i = 0 by unfold cm; rw [if_pos hc], Int.add_zero] at ih
        exact ih
      · rw [show cm σ r i = 1 by unfold cm; rw [if_neg hc]] at ih
        exact ih
  exact ⟨_, key (σ (29 + r) 0).toNat 0 (by omega)⟩
def mall (σ : Hp) (k : Nat) : Int := zs (cm σ k) (σ (29 + k) 0).toNat
def call (σ : Hp) (k : Nat) : Int := σ (29 + k) 0
theorem mall_b {σ : Hp} {k : Nat} (h : RW σ k) : 0 ≤ mall σ k ∧ mall σ k ≤ 12 := by
  have h1 := h.1
  have := zs_b (f := cm σ k) (c := 1) (by decide) (σ (29 + k) 0).toNat (fun i _ => cm_b σ k i)
  unfold mall
  omega
theorem marksInAll_s {σ : Hp} {k : Int → Hp → Prop} (h : ∀ r, r < 6 → RW σ r) (hk : k (zs (mall σ) 6) σ) : wX6_marksInAll σ k := by
  have key : ∀ (m i : Nat), i + m = 6 → wX6_marksInAll_4 k (m + 1) (zs (mall σ) i) i σ := by
    intro m
    induction m with
    | zero =>
      intro i hi
      refine ⟨zr (by omega) (by omega), fun _ => ?_, fun hc => by omega⟩
      rw [show i = 6 by omega]
      exact hk
    | succ m ih =>
      intro i hi
      refine ⟨zr (by omega) (by omega), fun hc => by omega, fun _ => ?_⟩
      refine rowAt_br (zr (by omega) (by omega)) (fun hc => by omega) (fun _ _ => ?_)
      rw [Int.toNat_natCast]
      refine markCount_s (h i (by omega)) ?_
      have := ih (i + 1) (by omega)
      rw [show ((i + 1 : Nat) : Int) = (i : Int) + 1 by omega] at this
      exact this
  exact ⟨_, key 6 0 (by omega)⟩
theorem columnsInAll_s {σ : Hp} {k : Int → Hp → Prop} (hk : k (zs (call σ) 6) σ) : wX6_columnsInAll σ k := by
  have key : ∀ (m i : Nat), i + m = 6 → wX6_columnsInAll_4 k (m + 1) (zs (call σ) i) i σ := by
    intro m
    induction m with
    | zero =>
      intro i hi
      refine ⟨zr (by omega) (by omega), fun _ => ?_, fun hc => by omega⟩
      rw [show i = 6 by omega]
      exact hk
    | succ m ih =>
      intro i hi
      refine ⟨zr (by omega) (by omega), fun hc => by omega, fun _ => ?_⟩
      refine rowAt_br (zr (by omega) (by omega)) (fun hc => by omega) (fun _ _ => ?_)
      rw [Int.toNat_natCast]
      have := ih (i + 1) (by omega)
      rw [show ((i + 1 : Nat) : Int) = (i : Int) + 1 by omega] at this
      exact this
  exact ⟨_, key 6 0 (by omega)⟩
theorem T_count {K : Hp → Prop} (hK : ∀ σ, Inv σ → K σ) {v1 : Int} (h1 : zrg v1) {σ : Hp} (hI : Inv σ) : wX6_count v1 σ (fun a s => wX7_count v1 s (fun b t => zrg a ∧ zrg b ∧ ((a = b → K t) ∧ (¬ (a = b) → False)))) := by
  have hR := hI.1
  have hT := hI.2.1
  have hE := hI.2.2
  have ref : ∀ z : Int, zrg z → (v1 = 0 → z = σ 2 1) → (v1 = 1 → z = zs (mall σ) 6) → (v1 = 2 → z = σ 12 2) → (v1 = 3 → z = zs (call σ) 6) → (v1 < 0 ∨ 3 < v1 → z = -1) → wX7_count v1 σ (fun b t => zrg z ∧ zrg b ∧ ((z = b → K t) ∧ (¬ (z = b) → False))) := by
    intro z hz c0 c1 c2 c3 c4
    have key : ∀ (m i : Nat), i + m = 6 → wX7_count_7 (fun b t => zrg z ∧ zrg b ∧ ((z = b → K t) ∧ (¬ (z = b) → False))) (m + 1) v1 (zs (mall σ) i) (zs (call σ) i) i σ := by
      intro m
      induction m with
      | zero =>
        intro i hi
        obtain rfl : i = 6 := by omega
        refine ⟨zr (by omega) (by omega), fun _ => ⟨h1, fun n0 => ⟨fun n1 => ⟨fun n2 => ⟨fun n3 => ?_, fun n3 => ?_⟩, fun n2 => ?_⟩, fun n1 => ?_⟩, fun n0 => ?_⟩, fun hc => by omega⟩
        · exact fin (c4 (by omega)) hz (hK _ hI)
        · exact fin (c3 (by omega)) hz (hK _ hI)
        · exact fin ((c2 (by omega)).trans hE.2.1.symm) hz (hK _ hI)
        · exact fin (c1 (by omega)) hz (hK _ hI)
        · exact fin ((c0 (by omega)).trans hT.2.1.symm) hz (hK _ hI)
      | succ m ih =>
        intro i hi
        refine ⟨zr (by omega) (by omega), fun hc => by omega, fun _ => ⟨⟨by omega, by omega⟩, ?_⟩⟩
        have hr := hR i (by omega)
        have hw := hr.1.1
        have ih := ih (i + 1) (by omega)
        rw [show ((i + 1 : Nat) : Int) = (i : Int) + 1 by omega] at ih
        have inner : ∀ (m2 j : Nat), j + m2 = (σ (29 + i) 0).toNat → wX7_count_27 (fun b t => zrg z ∧ zrg b ∧ ((z = b → K t) ∧ (¬ (z = b) → False))) (fun v1 v2 v3 v4 σ => wX7_count_7 (fun b t => zrg z ∧ zrg b ∧ ((z = b → K t) ∧ (¬ (z = b) → False))) (m + 1) v1 v2 v3 v4 σ) (m2 + 1) v1 (zs (mall σ) i + zs (cm σ i) j) (zs (call σ) (i + 1)) i j σ := by
          intro m2
          induction m2 with
          | zero =>
            intro j hj
            refine ⟨⟨by omega, by omega⟩, zr (by omega) (by omega), ?_, fun _ => ?_, fun hc => ?_⟩
            · rw [Int.toNat_natCast, hr.2.1]; exact zr (by omega) (by omega)
            · rw [show j = (σ (29 + i) 0).toNat by omega]
              exact ih
            · rw [Int.toNat_natCast, hr.2.1] at hc; omega
          | succ m2 ih2 =>
            intro j hj
            have ih2 := ih2 (j + 1) (by omega)
            rw [show ((j + 1 : Nat) : Int) = (j : Int) + 1 by omega, show zs (cm σ i) (j + 1) = zs (cm σ i) j + cm σ i j from rfl] at ih2
            refine ⟨⟨by omega, by omega⟩, zr (by omega) (by omega), ?_, fun hc => ?_, fun _ => ?_⟩
            · rw [Int.toNat_natCast, hr.2.1]; exact zr (by omega) (by omega)
            · rw [Int.toNat_natCast, hr.2.1] at hc; omega
            · have hb := ma_b hr.mw (j : Int)
              refine at_s (by omega) (by omega) ?_ (zr (by omega) (by omega)) ?_
              · rw [Int.toNat_natCast]; exact hr.mw.1
              · rw [Int.toNat_natCast]
                refine ⟨zr (by omega) (by omega), fun hc => ?_, fun hc => ?_⟩
                · rw [show cm σ i j = 0 by unfold cm; rw [if_pos (by rw [← hr.mra]; omega)]] at ih2
                  rw [show zs (mall σ) i + zs (cm σ i) j + 0 = zs (mall σ) i + (zs (cm σ i) j + 0) by omega]
                  exact ih2
                · rw [show cm σ i j = 1 by unfold cm; rw [if_neg (by rw [← hr.mra]; omega)]] at ih2
                  rw [show zs (mall σ) i + zs (cm σ i) j + 1 = zs (mall σ) i + (zs (cm σ i) j + 1) by omega]
                  exact ih2
        have e1 : zs (call σ) i + σ 18 ((i : Nat) : Int).toNat = zs (call σ) (i + 1) := by
          rw [Int.toNat_natCast, hr.2.1]; rfl
        have fin1 := inner (σ (29 + i) 0).toNat 0 (by omega)
        rw [show zs (cm σ i) 0 = 0 from rfl, Int.add_zero] at fin1
        rw [e1]
        exact ⟨_, fin1⟩
    exact ⟨_, key 6 0 (by omega)⟩
  have hm := zs_b (f := mall σ) (c := 12) (by decide) 6 (fun i hi => mall_b (hR i hi).1)
  have hc := zs_b (f := call σ) (c := 12) (by decide) 6 (fun i hi => by have := (hR i hi).1.1; unfold call; omega)
  refine ⟨h1, fun hb => ?_, fun e0 => ?_, fun e1 => ?_, fun e2 => ?_, fun e3 => ?_⟩
  · exact ref _ (zrg_d rfl) (fun _ => by omega) (fun _ => by omega) (fun _ => by omega) (fun _ => by omega) (fun _ => rfl)
  · exact ref _ (zr (by have := hT.1; omega) (by have := hT.1; omega)) (fun _ => rfl) (fun _ => by omega) (fun _ => by omega) (fun _ => by omega) (fun _ => by omega)
  · exact marksInAll_s (fun r hr => (hR r hr).1) (ref _ (zr (by omega) (by omega)) (fun _ => by omega) (fun _ => rfl) (fun _ => by omega) (fun _ => by omega) (fun _ => by omega))
  · exact ref _ (zr (by have := hE.1; omega) (by have := hE.1; omega)) (fun _ => by omega) (fun _ => by omega) (fun _ => rfl) (fun _ => by omega) (fun _ => by omega)
  · exact columnsInAll_s (ref _ (zr (by omega) (by omega)) (fun _ => by omega) (fun _ => by omega) (fun _ => by omega) (fun _ => rfl) (fun _ => by omega))
