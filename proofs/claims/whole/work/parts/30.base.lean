/-! LEVEL 2: pure. What the predicates w.. need, over an invariant of σ -/
theorem zr {z : Int} (h1 : -1000000000 ≤ z) (h2 : z ≤ 1000000000) : zrg z := ⟨by omega, by omega⟩
theorem zst_s (σ : Hp) (p j : Nat) (v : Int) : zst σ p j v p j = v := by simp [zst]
theorem zst_n {σ : Hp} {p j q t : Nat} {v : Int} (h : q ≠ p ∨ t ≠ j) : zst σ p j v q t = σ q t := by
  unfold zst
  by_cases hq : q = p
  · rw [if_pos hq]
    have ht : t ≠ j := by rcases h with h | h; exact absurd hq h; exact h
    rw [if_neg ht]
  · rw [if_neg hq]
theorem zst_np {σ : Hp} {p j q : Nat} {v : Int} (h : q ≠ p) : zst σ p j v q = σ q := by unfold zst; rw [if_neg h]
/-- what a case of the law wants at its end -/
def FIN (K : Hp → Prop) (a b : Int) (σ : Hp) : Prop := zrg a ∧ zrg b ∧ ((a = b → K σ) ∧ (¬ (a = b) → False))
theorem fin {K : Hp → Prop} {a b : Int} {σ : Hp} (h : a = b) (hr : zrg a) (hK : K σ) : zrg a ∧ zrg b ∧ ((a = b → K σ) ∧ (¬ (a = b) → False)) := ⟨hr, h ▸ hr, fun _ => hK, fun h2 => h2 h⟩
theorem finL {K : Hp → Prop} {a b : Int} {σ : Hp} (h : a = b) (hr : zrl a) (hK : K σ) : zrl a ∧ zrl b ∧ ((a = b → K σ) ∧ (¬ (a = b) → False)) := ⟨hr, h ▸ hr, fun _ => hK, fun h2 => h2 h⟩
-- a tested answer that is 0 or 1
theorem b1e {A B : Prop} (h : B) : zrg 1 ∧ (((1 : Int) = 0 → A) ∧ (¬ ((1 : Int) = 0) → B)) := ⟨zr (by omega) (by omega), fun h => absurd h (by decide), fun _ => h⟩
theorem b0e {A B : Prop} (h : A) : zrg 0 ∧ (((0 : Int) = 0 → A) ∧ (¬ ((0 : Int) = 0) → B)) := ⟨zr (by omega) (by omega), fun _ => h, fun h => absurd rfl h⟩
theorem b1n {A B : Prop} (h : A) : zrg 1 ∧ (((1 : Int) ≠ 0 → A) ∧ (¬ ((1 : Int) ≠ 0) → B)) := ⟨zr (by omega) (by omega), fun _ => h, fun h => absurd (by decide) h⟩
theorem b0n {A B : Prop} (h : B) : zrg 0 ∧ (((0 : Int) ≠ 0 → A) ∧ (¬ ((0 : Int) ≠ 0) → B)) := ⟨zr (by omega) (by omega), fun h => absurd rfl h, fun _ => h⟩
theorem within_t {v lo hi : Int} {σ : Hp} {k : Int → Hp → Prop} (hv : zrg v) (hl : zrg lo) (hh : zrg hi) (h1 : lo ≤ v) (h2 : v ≤ hi) (hk : k 1 σ) : wX6_within v lo hi σ k :=
  ⟨hv, hl, fun h => by omega, fun _ => ⟨hh, fun h => by omega, fun _ => hk⟩⟩
theorem within_f {v lo hi : Int} {σ : Hp} {k : Int → Hp → Prop} (hv : zrg v) (hl : zrg lo) (hh : zrg hi) (h : v < lo ∨ hi < v) (hk : k 0 σ) : wX6_within v lo hi σ k :=
  ⟨hv, hl, fun _ => hk, fun h1 => ⟨hh, fun _ => hk, fun h2 => by omega⟩⟩
theorem in_t {v lo hi : Int} {σ : Hp} {k : Int → Hp → Prop} (hv : zrg v) (hl : zrg lo) (hh : zrg hi) (h1 : lo ≤ v) (h2 : v ≤ hi) (hk : k 1 σ) : wX7_in v lo hi σ k :=
  ⟨zrl_g hv, zrl_g hl, fun h => by omega, fun _ => ⟨zrl_g hh, fun h => by omega, fun _ => hk⟩⟩
theorem in_f {v lo hi : Int} {σ : Hp} {k : Int → Hp → Prop} (hv : zrg v) (hl : zrg lo) (hh : zrg hi) (h : v < lo ∨ hi < v) (hk : k 0 σ) : wX7_in v lo hi σ k :=
  ⟨zrl_g hv, zrl_g hl, fun _ => hk, fun h1 => ⟨zrl_g hh, fun _ => hk, fun h2 => by omega⟩⟩
-- the two ways of a test, at once
theorem wbr {v lo hi : Int} {σ : Hp} {F T : Hp → Prop} (hv : zrg v) (hl : zrg lo) (hh : zrg hi) (hf : v < lo ∨ hi < v → F σ) (ht : lo ≤ v → v ≤ hi → T σ) : wX6_within v lo hi σ (fun a s => zrg a ∧ ((a = 0 → F s) ∧ (¬ (a = 0) → T s))) := by
  by_cases h : v < lo ∨ hi < v
  · exact within_f hv hl hh h (b0e (hf h))
  · exact within_t hv hl hh (by omega) (by omega) (b1e (ht (by omega) (by omega)))
theorem wbrn {v lo hi : Int} {σ : Hp} {F T : Hp → Prop} (hv : zrg v) (hl : zrg lo) (hh : zrg hi) (hf : v < lo ∨ hi < v → F σ) (ht : lo ≤ v → v ≤ hi → T σ) : wX6_within v lo hi σ (fun a s => zrg a ∧ ((a ≠ 0 → T s) ∧ (¬ (a ≠ 0) → F s))) := by
  by_cases h : v < lo ∨ hi < v
  · exact within_f hv hl hh h (b0n (hf h))
  · exact within_t hv hl hh (by omega) (by omega) (b1n (ht (by omega) (by omega)))
theorem ibr {v lo hi : Int} {σ : Hp} {F T : Hp → Prop} (hv : zrg v) (hl : zrg lo) (hh : zrg hi) (hf : v < lo ∨ hi < v → F σ) (ht : lo ≤ v → v ≤ hi → T σ) : wX7_in v lo hi σ (fun a s => zrg a ∧ ((a = 0 → F s) ∧ (¬ (a = 0) → T s))) := by
  by_cases h : v < lo ∨ hi < v
  · exact in_f hv hl hh h (b0e (hf h))
  · exact in_t hv hl hh (by omega) (by omega) (b1e (ht (by omega) (by omega)))
theorem ibrn {v lo hi : Int} {σ : Hp} {F T : Hp → Prop} (hv : zrg v) (hl : zrg lo) (hh : zrg hi) (hf : v < lo ∨ hi < v → F σ) (ht : lo ≤ v → v ≤ hi → T σ) : wX7_in v lo hi σ (fun a s => zrg a ∧ ((a ≠ 0 → T s) ∧ (¬ (a ≠ 0) → F s))) := by
  by_cases h : v < lo ∨ hi < v
  · exact in_f hv hl hh h (b0n (hf h))
  · exact in_t hv hl hh (by omega) (by omega) (b1n (ht (by omega) (by omega)))
theorem rowAt_br {v : Int} {σ : Hp} {N : Hp → Prop} {S : Nat → Hp → Prop} (hv : zrg v) (hn : v < 0 ∨ 5 < v → N σ) (hs : 0 ≤ v → v ≤ 5 → S v.toNat σ) : wX6_rowAt v σ (fun w s => (w = none → N s) ∧ ∀ q, w = some q → S q s) :=
  wbr (F := fun s => (none = none → N s) ∧ ∀ q, none = some q → S q s) (T := fun s => (0 ≤ v ∧ v < 6) ∧ ((some v.toNat = none → N s) ∧ ∀ q, some v.toNat = some q → S q s)) hv (zrg_d rfl) (zrg_d rfl) (fun h => ⟨fun _ => hn h, fun q h2 => by cases h2⟩) (fun h1 h2 => ⟨⟨h1, by omega⟩, ⟨fun h => (by cases h), fun q h => (by cases h; exact hs h1 h2)⟩⟩)
theorem isRow_br {v : Int} {σ : Hp} {F T : Hp → Prop} (hv : zrg v) (hf : v < 0 ∨ 5 < v → F σ) (ht : 0 ≤ v → v ≤ 5 → T σ) : wX7_isRow v σ (fun a s => zrg a ∧ ((a = 0 → F s) ∧ (¬ (a = 0) → T s))) := by
  refine ⟨hv, ?_⟩
  by_cases h : v < 0 ∨ 5 < v
  · exact in_f hv (zrg_d rfl) (zrg_d rfl) h ⟨Or.inl rfl, b0e (hf h)⟩
  · exact in_t hv (zrg_d rfl) (zrg_d rfl) (by omega) (by omega) ⟨Or.inr rfl, b1e (ht (by omega) (by omega))⟩
theorem isRow_brn {v : Int} {σ : Hp} {F T : Hp → Prop} (hv : zrg v) (hf : v < 0 ∨ 5 < v → F σ) (ht : 0 ≤ v → v ≤ 5 → T σ) : wX7_isRow v σ (fun a s => zrg a ∧ ((a ≠ 0 → T s) ∧ (¬ (a ≠ 0) → F s))) := by
  refine ⟨hv, ?_⟩
  by_cases h : v < 0 ∨ 5 < v
  · exact in_f hv (zrg_d rfl) (zrg_d rfl) h ⟨Or.inl rfl, b0n (hf h)⟩
  · exact in_t hv (zrg_d rfl) (zrg_d rfl) (by omega) (by omega) ⟨Or.inr rfl, b1n (ht (by omega) (by omega))⟩
theorem isKind_br {v : Int} {σ : Hp} {F T : Hp → Prop} (hv : zrg v) (hf : ¬ (v = 0 ∨ v = 1) → F σ) (ht : v = 0 ∨ v = 1 → T σ) : wX6_isKind v σ (fun a s => zrg a ∧ ((a ≠ 0 → T s) ∧ (¬ (a ≠ 0) → F s))) :=
  ⟨hv, fun h => b1n (ht (Or.inl h)), fun h0 => ⟨fun h1 => b0n (hf (by omega)), fun h1 => b1n (ht (by omega))⟩⟩
theorem isKind_bre {v : Int} {σ : Hp} {F T : Hp → Prop} (hv : zrg v) (hf : ¬ (v = 0 ∨ v = 1) → F σ) (ht : v = 0 ∨ v = 1 → T σ) : wX6_isKind v σ (fun a s => zrg a ∧ ((a = 0 → F s) ∧ (¬ (a = 0) → T s))) :=
  ⟨hv, fun h => b1e (ht (Or.inl h)), fun h0 => ⟨fun h1 => b0e (hf (by omega)), fun h1 => b1e (ht (by omega))⟩⟩
theorem isMove_br {v : Int} {σ : Hp} {F T : Hp → Prop} (hv : zrg v) (hf : v < -12 ∨ 12 < v → F σ) (ht : -12 ≤ v → v ≤ 12 → T σ) : wX6_isMove v σ (fun a s => zrg a ∧ ((a = 0 → F s) ∧ (¬ (a = 0) → T s))) := by
  unfold wX6_isMove
  by_cases h : v < -12 ∨ 12 < v
  · exact within_f hv (zrg_d rfl) (zrg_d rfl) h ⟨Or.inl rfl, b0e (hf h)⟩
  · exact within_t hv (zrg_d rfl) (zrg_d rfl) (by omega) (by omega) ⟨Or.inr rfl, b1e (ht (by omega) (by omega))⟩
theorem isMove_brn {v : Int} {σ : Hp} {F T : Hp → Prop} (hv : zrg v) (hf : v < -12 ∨ 12 < v → F σ) (ht : -12 ≤ v → v ≤ 12 → T σ) : wX6_isMove v σ (fun a s => zrg a ∧ ((a ≠ 0 → T s) ∧ (¬ (a ≠ 0) → F s))) := by
  unfold wX6_isMove
  by_cases h : v < -12 ∨ 12 < v
  · exact within_f hv (zrg_d rfl) (zrg_d rfl) h ⟨Or.inl rfl, b0n (hf h)⟩
  · exact within_t hv (zrg_d rfl) (zrg_d rfl) (by omega) (by omega) ⟨Or.inr rfl, b1n (ht (by omega) (by omega))⟩
-- the rows, as functions of the column (15: no mark)
def ra (σ : Hp) (r : Nat) (x : Int) : Int := if 0 ≤ x ∧ x < σ (29 + r) 0 then σ (36 + r) x.toNat else 15
def ma (σ : Hp) (k : Nat) (x : Int) : Int := if 0 ≤ x ∧ x < σ 18 k then σ 20 (12 * k + x.toNat) else 15
def RW (σ : Hp) (r : Nat) : Prop := (1 ≤ σ (29 + r) 0 ∧ σ (29 + r) 0 ≤ 12) ∧ (1 ≤ σ (29 + r) 1 ∧ σ (29 + r) 1 ≤ 12) ∧ ∀ x : Nat, (x : Int) < σ (29 + r) 0 → (0 ≤ σ (36 + r) x ∧ σ (36 + r) x < σ (29 + r) 1) ∨ σ (36 + r) x = 15
def MW (σ : Hp) (k : Nat) : Prop := (1 ≤ σ 18 k ∧ σ 18 k ≤ 12) ∧ (1 ≤ σ 19 k ∧ σ 19 k ≤ 12) ∧ ∀ x : Nat, (x : Int) < σ 18 k → (0 ≤ σ 20 (12 * k + x) ∧ σ 20 (12 * k + x) < σ 19 k) ∨ σ 20 (12 * k + x) = 15
theorem ra_v {σ : Hp} {r : Nat} (h : RW σ r) (x : Int) : (0 ≤ ra σ r x ∧ ra σ r x < σ (29 + r) 1 ∧ 0 ≤ x ∧ x < σ (29 + r) 0) ∨ ra σ r x = 15 := by
  unfold ra
  split
  · rename_i hx
    rcases h.2.2 x.toNat (by omega) with h1 | h1
    · exact Or.inl ⟨h1.1, h1.2, hx.1, hx.2⟩
    · exact Or.inr h1
  · exact Or.inr rfl
theorem ma_v {σ : Hp} {k : Nat} (h : MW σ k) (x : Int) : (0 ≤ ma σ k x ∧ ma σ k x < σ 19 k ∧ 0 ≤ x ∧ x < σ 18 k) ∨ ma σ k x = 15 := by
  unfold ma
  split
  · rename_i hx
    rcases h.2.2 x.toNat (by omega) with h1 | h1
    · exact Or.inl ⟨h1.1, h1.2, hx.1, hx.2⟩
    · exact Or.inr h1
  · exact Or.inr rfl
theorem ra_b {σ : Hp} {r : Nat} (h : RW σ r) (x : Int) : 0 ≤ ra σ r x ∧ ra σ r x ≤ 15 := by
  have h2 := h.2.1
  rcases ra_v h x with h1 | h1 <;> omega
theorem ma_b {σ : Hp} {k : Nat} (h : MW σ k) (x : Int) : 0 ≤ ma σ k x ∧ ma σ k x ≤ 15 := by
  have h2 := h.2.1
  rcases ma_v h x with h1 | h1 <;> omega
theorem lineAt_s {r : Nat} {x : Int} {σ : Hp} {k : Int → Hp → Prop} (h : 1 ≤ σ (29 + r) 0 ∧ σ (29 + r) 0 ≤ 12) (hx : zrg x) (hk : k (ra σ r x) σ) : wX3_lineAt r x σ k := by
  unfold wX3_lineAt
  refine wbr (F := fun s => k 15 s) (T := fun s => (0 ≤ x ∧ x < 12) ∧ k (s (36 + r) x.toNat) s) hx (zrg_d rfl) (zr (by omega) (by omega)) (fun h1 => ?_) (fun h1 h2 => ⟨⟨h1, by omega⟩, ?_⟩)
  · rw [ra, if_neg (by omega)] at hk
    exact hk
  · rw [ra, if_pos (by omega)] at hk
    exact hk
theorem markedAt_s {r : Nat} {x : Int} {σ : Hp} {k : Int → Hp → Prop} (h : RW σ r) (hx : zrg x) (hk : k (if ra σ r x = 15 then 0 else 1) σ) : wX3_markedAt r x σ k := by
  unfold wX3_markedAt
  have hb := ra_b h x
  refine lineAt_s h.1 hx ⟨zr (by omega) (by omega), fun e => ?_, fun e => ?_⟩
  · rw [if_pos e] at hk; exact hk
  · rw [if_neg e] at hk; exact hk
theorem mbr {r : Nat} {x : Int} {σ : Hp} {F T : Hp → Prop} (h : RW σ r) (hx : zrg x) (hf : ra σ r x = 15 → F σ) (ht : ra σ r x ≠ 15 → T σ) : wX3_markedAt r x σ (fun a s => zrg a ∧ ((a = 0 → F s) ∧ (¬ (a = 0) → T s))) := by
  refine markedAt_s h hx ?_
  by_cases e : ra σ r x = 15
  · rw [if_pos e]; exact b0e (hf e)
  · rw [if_neg e]; exact b1e (ht e)
theorem mbrn {r : Nat} {x : Int} {σ : Hp} {F T : Hp → Prop} (h : RW σ r) (hx : zrg x) (hf : ra σ r x = 15 → F σ) (ht : ra σ r x ≠ 15 → T σ) : wX3_markedAt r x σ (fun a s => zrg a ∧ ((a ≠ 0 → T s) ∧ (¬ (a ≠ 0) → F s))) := by
  refine markedAt_s h hx ?_
  by_cases e : ra σ r x = 15
  · rw [if_pos e]; exact b0n (hf e)
  · rw [if_neg e]; exact b1n (ht e)
theorem at_s {v x : Int} {σ : Hp} {k : Int → Hp → Prop} (h0 : 0 ≤ v) (h5 : v ≤ 5) (h : 1 ≤ σ 18 v.toNat ∧ σ 18 v.toNat ≤ 12) (hx : zrg x) (hk : k (ma σ v.toNat x) σ) : wX7_at v x σ k := by
  unfold wX7_at
  refine ⟨hx, ⟨h0, by omega⟩, zr (by omega) (by omega), ?_⟩
  refine ibr (F := fun s => k 15 s) (T := fun s => (0 ≤ 12 * v + x ∧ 12 * v + x < 72) ∧ k (s 20 (12 * v + x).toNat) s) hx (zrg_d rfl) (zr (by omega) (by omega)) (fun h1 => ?_) (fun h1 h2 => ⟨⟨by omega, by omega⟩, ?_⟩)
  · rw [ma, if_neg (by omega)] at hk
    exact hk
  · rw [ma, if_pos (by omega)] at hk
    rw [show (12 * v + x).toNat = 12 * v.toNat + x.toNat by omega]
    exact hk
theorem floorMod_s {a b : Int} {σ : Hp} {k : Int → Hp → Prop} (ha : zrg a) (hb : zrg b) (h0 : 0 < b) (hk : k (a % b) σ) : wJ9_floorMod_7cf53 a b σ k := by
  have hx : ∀ u v : Int, zrg (zxor u v) := fun u v => by
    unfold zxor
    exact ⟨Int32.le_toInt _, Int32.toInt_lt _⟩
  have hb' : (zI b).toBitVec.msb = false := by
    have := zI_toInt hb
    rw [BitVec.msb_eq_false_iff_two_mul_lt]
    have h2 : (zI b).toBitVec.toInt = b := this
    have h3 := BitVec.toInt_eq_toNat_cond (zI b).toBitVec
    rw [h2] at h3
    split at h3 <;> omega
  have hsg : 0 ≤ zxor a b ↔ 0 ≤ a := by
    unfold zxor
    have e : (zI a ^^^ zI b).toInt = ((zI a).toBitVec ^^^ (zI b).toBitVec).toInt := rfl
    have m : ((zI a).toBitVec ^^^ (zI b).toBitVec).msb = (zI a).toBitVec.msb := by simp [hb']
    have f1 : ∀ y : BitVec 32, 0 ≤ y.toInt ↔ y.msb = false := fun y => by
      rw [BitVec.msb_eq_false_iff_two_mul_lt, BitVec.toInt_eq_toNat_cond]
      have := y.isLt
      split <;> omega
    have ea : (zI a).toBitVec.toInt = a := zI_toInt ha
    rw [e, f1, m, ← f1, ea]
  have hm : a % b = if 0 ≤ a then a.tmod b else if a.tmod b = 0 then a.tmod b else a.tmod b + b := by
    by_cases h : 0 ≤ a
    · rw [if_pos h, Int.tmod_eq_emod_of_nonneg h]
    · rw [if_neg h]
      have e1 := Int.mul_tdiv_add_tmod a b
      have e2 : a.tmod b ≤ 0 := by
        have : a = -(-a) := by omega
        rw [this, Int.neg_tmod]
        have := Int.tmod_nonneg (a := -a) b (by omega)
        omega
      have e3 : -b < a.tmod b := by
        have : a = -(-a) := by omega
        rw [this, Int.neg_tmod]
        have := Int.tmod_lt_of_pos (-a) h0
        omega
      have key : a % b = (a.tmod b) % b := by
        conv => lhs; rw [← e1]
        rw [Int.add_comm, Int.add_mul_emod_self_left]
      split
      · rename_i h2; rw [key, h2]; rfl
      · rw [key, ← Int.add_emod_right]
        exact Int.emod_eq_of_lt (by omega) (by omega)
  have hr : zrg (a.tmod b) := by
    have e1 := Int.natAbs_tmod a b
    have e2 : (a.tmod b).natAbs < b.natAbs := by rw [e1]; exact Nat.mod_lt _ (by omega)
    obtain ⟨b1, b2⟩ := hb
    constructor <;> omega
  refine ⟨ha, hb, h0, hx a b, fun h => ?_, fun h => ⟨hr, fun h2 => ?_, fun h2 => ?_⟩⟩
  · rw [hm, if_pos (hsg.mp h)] at hk; exact hk
  · rw [hm, if_neg (fun q => h (hsg.mpr q)), if_pos h2] at hk; exact hk
  · rw [hm, if_neg (fun q => h (hsg.mpr q)), if_neg h2] at hk; exact hk
theorem rest_s {a b : Int} {σ : Hp} {k : Int → Hp → Prop} (ha : zrg a) (hb : zrg b) (h0 : 0 < b) (hk : k (a % b) σ) : wX6_rest a b σ k :=
  ⟨hb, fun _ => floorMod_s ha hb h0 hk, fun h => by omega⟩
def zfill (σ : Hp) (p n : Nat) (v : Int) : Hp := fun q => if q = p then (fun t => if t < n then v else σ q t) else σ q
theorem fill_s {p n : Nat} {v : Int} {σ : Hp} {k : Hp → Prop} (hn : n ≤ 1000000) (hk : k (zfill σ p n v)) : wJ7_fill_53178 p n v σ k := by
  have key : ∀ (m i : Nat) (s : Hp), i + m = n → k (fun q => if q = p then (fun t => if i ≤ t ∧ t < n then v else s q t) else s q) → wJ7_fill_53178_5 k (m + 1) p n v i n s := by
    intro m
    induction m with
    | zero =>
      intro i s hi hk
      refine ⟨zr (by omega) (by omega), zr (by omega) (by omega), fun _ => ?_, fun h => by omega⟩
      have e : (fun q => if q = p then (fun t => if i ≤ t ∧ t < n then v else s q t) else s q) = s := by
        funext q
        split
        · funext t
          rw [if_neg (by omega)]
        · rfl
      rw [e] at hk
      exact hk
    | succ m ih =>
      intro i s hi hk
      refine ⟨zr (by omega) (by omega), zr (by omega) (by omega), fun h => by omega, fun h => ⟨⟨by omega, by omega⟩, ?_⟩⟩
      have := ih (i + 1) (zst s p (i : Int).toNat v) (by omega) (by
        have e : (fun q => if q = p then (fun t => if i + 1 ≤ t ∧ t < n then v else zst s p (i : Int).toNat v q t) else zst s p (i : Int).toNat v q) = (fun q => if q = p then (fun t => if i ≤ t ∧ t < n then v else s q t) else s q) := by
          funext q
          by_cases hq : q = p
          · rw [if_pos hq, if_pos hq]
            funext t
            by_cases ht : t = i
            · subst ht; subst hq
              rw [if_neg (by omega), if_pos (by omega)]
              simp [zst]
            · rw [zst_n (Or.inr (by omega))]
              by_cases h3 : i + 1 ≤ t ∧ t < n
              · rw [if_pos h3, if_pos (by omega)]
              · rw [if_neg h3, if_neg (by omega)]
          · rw [if_neg hq, if_neg hq, zst_np hq]
        rw [e]
        exact hk)
      rw [show ((i + 1 : Nat) : Int) = (i : Int) + 1 by omega] at this
      exact this
  refine ⟨n + 1, ?_⟩
  have := key n 0 σ (by omega) (by
    have e : (fun q => if q = p then (fun t => if 0 ≤ t ∧ t < n then v else σ q t) else σ q) = zfill σ p n v := by
      funext q
      unfold zfill
      split
      · funext t
        by_cases h : t < n
        · rw [if_pos h, if_pos ⟨by omega, h⟩]
        · rw [if_neg h, if_neg (by omega)]
      · rfl
    rw [e]
    exact hk)
  exact this
theorem zfill_i {σ : Hp} {p n t : Nat} {v : Int} (h : t < n) : zfill σ p n v p t = v := by unfold zfill; rw [if_pos rfl, if_pos h]
theorem zfill_o {σ : Hp} {p n t : Nat} {v : Int} (h : n ≤ t) : zfill σ p n v p t = σ p t := by unfold zfill; rw [if_pos rfl, if_neg (by omega)]
theorem zfill_p {σ : Hp} {p n q : Nat} {v : Int} (h : q ≠ p) : zfill σ p n v q = σ q := by unfold zfill; rw [if_neg h]
-- the invariant between class and reference
def IRow (σ : Hp) (k : Nat) : Prop := RW σ k ∧ σ 18 k = σ (29 + k) 0 ∧ σ 19 k = σ (29 + k) 1 ∧ ∀ x : Nat, (x : Int) < σ (29 + k) 0 → σ 20 (12 * k + x) = σ (36 + k) x
def sgn (b : Int) : Int := if b < 128 then b else b - 256
def IText (σ : Hp) : Prop := (0 ≤ σ 2 1 ∧ σ 2 1 ≤ 60) ∧ σ 17 3 = σ 2 1 ∧ ∀ i : Nat, (i : Int) < σ 2 1 → (0 ≤ σ 3 i ∧ σ 3 i < 256) ∧ σ 21 i = sgn (σ 3 i)
def IEcho (σ : Hp) : Prop := (0 ≤ σ 12 2 ∧ σ 12 2 ≤ 40) ∧ σ 17 5 = σ 12 2 ∧ (∀ i : Nat, (i : Int) < σ 12 2 → (0 ≤ σ 13 i ∧ σ 13 i ≤ 30) ∧ (-20 ≤ σ 14 i ∧ σ 14 i ≤ 20) ∧ σ 22 i = σ 13 i ∧ σ 23 i = σ 14 i) ∧ ∀ i j : Nat, (i : Int) < σ 12 2 → (j : Int) < σ 12 2 → σ 13 i = σ 13 j → σ 14 i = σ 14 j → i = j
def Inv (σ : Hp) : Prop := (∀ k, k < 6 → IRow σ k) ∧ IText σ ∧ IEcho σ
theorem IRow.mw {σ : Hp} {k : Nat} (h : IRow σ k) : MW σ k := by
  obtain ⟨⟨h1, h2, h3⟩, h4, h5, h6⟩ := h
  refine ⟨by rw [h4]; exact h1, by rw [h5]; exact h2, fun x hx => ?_⟩
  rw [h4] at hx
  rw [h6 x hx, h5]
  exact h3 x hx
theorem IRow.mra {σ : Hp} {k : Nat} (h : IRow σ k) (x : Int) : ma σ k x = ra σ k x := by
  obtain ⟨h0, h4, h5, h6⟩ := h
  unfold ra ma
  rw [h4]
  split
  · exact h6 _ (by omega)
  · rfl
/-- the cells that the invariant speaks of -/
def keep (p j : Nat) : Prop := (29 ≤ p ∧ p ≤ 34) ∨ (36 ≤ p ∧ p ≤ 41) ∨ p = 3 ∨ p = 13 ∨ p = 14 ∨ (18 ≤ p ∧ p ≤ 23) ∨ (p = 2 ∧ j = 1) ∨ (p = 12 ∧ j = 2) ∨ (p = 17 ∧ (j = 3 ∨ j = 5))
def Same (σ σ' : Hp) : Prop := ∀ p j, keep p j → σ' p j = σ p j
theorem Same.rf (σ : Hp) : Same σ σ := fun _ _ _ => rfl
theorem Same.tr {a b c : Hp} (h1 : Same a b) (h2 : Same b c) : Same a c := fun p j h => (h2 p j h).trans (h1 p j h)
theorem Same.st {σ σ' : Hp} {p j : Nat} {v : Int} (h : Same σ σ') (hk : ¬ keep p j) : Same σ (zst σ' p j v) := fun q t hq => by
  rw [zst_n, h q t hq]
  by_cases e : q = p
  · by_cases e2 : t = j
    · subst e; subst e2; exact absurd hq hk
    · exact Or.inr e2
  · exact Or.inl e
theorem Same.fill {σ σ' : Hp} {p n : Nat} {v : Int} (h : Same σ σ') (hk : ∀ j, ¬ keep p j) : Same σ (zfill σ' p n v) := fun q t hq => by
  rw [zfill_p, h q t hq]
  intro e
  subst e
  exact hk t hq
theorem IRow.same {σ σ' : Hp} {k : Nat} (hk : k < 6) (h : IRow σ k) (e : ∀ p j, p = 29 + k ∨ p = 36 + k ∨ (18 ≤ p ∧ p ≤ 20) → σ' p j = σ p j) : IRow σ' k := by
  obtain ⟨⟨h1, h2, h3⟩, h4, h5, h6⟩ := h
  have e1 := fun j => e (29 + k) j (Or.inl rfl)
  have e2 := fun j => e (36 + k) j (Or.inr (Or.inl rfl))
  have e3 := fun p j (h : 18 ≤ p ∧ p ≤ 20) => e p j (Or.inr (Or.inr h))
  refine ⟨⟨by rw [e1]; exact h1, by rw [e1]; exact h2, fun x hx => ?_⟩, ?_, ?_, fun x hx => ?_⟩
  · rw [e1] at hx; rw [e1, e2]; exact h3 x hx
  · rw [e1, e3 18 _ (by omega)]; exact h4
  · rw [e1, e3 19 _ (by omega)]; exact h5
  · rw [e1] at hx; rw [e2, e3 20 _ (by omega)]; exact h6 x hx
theorem IText.same {σ σ' : Hp} (h : IText σ) (e : Same σ σ') : IText σ' := by
  obtain ⟨h1, h2, h3⟩ := h
  have k1 : σ' 2 1 = σ 2 1 := e 2 1 (by unfold keep; omega)
  refine ⟨by rw [k1]; exact h1, by rw [k1, e 17 3 (by unfold keep; omega)]; exact h2, fun i hi => ?_⟩
  rw [k1] at hi
  rw [e 3 i (by unfold keep; omega), e 21 i (by unfold keep; omega)]
  exact h3 i hi
theorem IEcho.same {σ σ' : Hp} (h : IEcho σ) (e : Same σ σ') : IEcho σ' := by
  obtain ⟨h1, h2, h3, h4⟩ := h
  have k1 : σ' 12 2 = σ 12 2 := e 12 2 (by unfold keep; omega)
  have k2 := fun i => e 13 i (by unfold keep; omega)
  have k3 := fun i => e 14 i (by unfold keep; omega)
  refine ⟨by rw [k1]; exact h1, by rw [k1, e 17 5 (by unfold keep; omega)]; exact h2, fun i hi => ?_, fun i j hi hj => ?_⟩
  · rw [k1] at hi
    rw [k2, k3, e 22 i (by unfold keep; omega), e 23 i (by unfold keep; omega)]
    exact h3 i hi
  · rw [k1] at hi hj
    rw [k2, k3, k2, k3]
    exact h4 i j hi hj
theorem Inv.same {σ σ' : Hp} (h : Inv σ) (e : Same σ σ') : Inv σ' :=
  ⟨fun k hk => (h.1 k hk).same hk (fun p j hp => e p j (by unfold keep; omega)), h.2.1.same e, h.2.2.same e⟩
theorem Inv.row {σ : Hp} (h : Inv σ) {v : Int} (h0 : 0 ≤ v) (h5 : v ≤ 5) : IRow σ v.toNat := h.1 _ (by omega)
theorem zs0_inv : Inv zs0 := by
  refine ⟨fun k hk => ?_, ⟨⟨by decide, by decide⟩, rfl, fun i hi => ?_⟩, ⟨⟨by decide, by decide⟩, rfl, fun i hi => ?_, fun i j hi => ?_⟩⟩
  · rcases (show k = 0 ∨ k = 1 ∨ k = 2 ∨ k = 3 ∨ k = 4 ∨ k = 5 by omega) with rfl | rfl | rfl | rfl | rfl | rfl <;>
      exact ⟨⟨⟨by decide, by decide⟩, ⟨by decide, by decide⟩, fun x hx => Or.inl ⟨(show (0 : Int) ≤ 0 by decide), (show (0 : Int) < 1 by decide)⟩⟩, rfl, rfl, fun x hx => rfl⟩
  · exact absurd hi (by show ¬ ((i : Int) < 0); omega)
  · exact absurd hi (by show ¬ ((i : Int) < 0); omega)
  · exact absurd hi (by show ¬ ((i : Int) < 0); omega)
