/-! found() and among() -/
theorem Same.fn {σ σ' : Hp} (h : Same σ σ') {p : Nat} (hp : ∀ j, keep p j) : σ' p = σ p := funext (fun j => h p j (hp j))
theorem Same.r1 {σ σ' : Hp} (h : Same σ σ') {r : Nat} (hr : r < 6) : σ' (29 + r) = σ (29 + r) := h.fn (fun j => by unfold keep; omega)
theorem Same.r2 {σ σ' : Hp} (h : Same σ σ') {r : Nat} (hr : r < 6) : σ' (36 + r) = σ (36 + r) := h.fn (fun j => by unfold keep; omega)
theorem Same.ra {σ σ' : Hp} (h : Same σ σ') {r : Nat} (hr : r < 6) : ra σ' r = ra σ r := ra_eq (h.r1 hr) (h.r2 hr)
theorem zs_one {f : Nat → Int} {j0 : Nat} : ∀ n : Nat, j0 < n → (∀ i, i < n → i ≠ j0 → f i = 0) → zs f n = f j0
  | 0, h, _ => absurd h (by omega)
  | n + 1, h, h2 => by
    show zs f n + f n = f j0
    by_cases e : n = j0
    · subst e
      rw [zs_zero n (fun i hi => h2 i (by omega) (by omega))]
      omega
    · rw [zs_one n (by omega) (fun i hi hn => h2 i (by omega) hn), h2 n (by omega) e]
      omega
/-- the heard ones that a mark meets, moved by a place's move -/
def ej (C L : Nat → Int) (A : Int → Int) (x p : Nat) (j : Nat) : Int := if C j = (x : Int) + (p : Int) / 41 ∧ L j = A x + ((p : Int) % 41 - 20) then 1 else 0
def ee (C L : Nat → Int) (z : Nat) (A : Int → Int) (p : Nat) (x : Nat) : Int := if A x = 15 then 0 else zs (ej C L A x p) z
def em (C L : Nat → Int) (z : Nat) (A : Int → Int) (n : Nat) (p : Nat) : Int := zs (ee C L z A p) n
theorem ee_t {σ : Hp} {A : Int → Int} {x p j0 : Nat} (hE : IEcho σ) (hA : A x ≠ 15) (h0 : (j0 : Int) < σ 12 2) (h1 : σ 13 j0 = (x : Int) + (p : Int) / 41) (h2 : σ 14 j0 = A x + ((p : Int) % 41 - 20)) : ee (σ 13) (σ 14) (σ 12 2).toNat A p x = 1 := by
  unfold ee
  rw [if_neg hA, zs_one (j0 := j0) _ (by omega) (fun i hi hne => ?_)]
  · exact if_pos ⟨h1, h2⟩
  · refine if_neg (fun h => hne ?_)
    exact hE.2.2.2 i j0 (by omega) h0 (by rw [h1]; exact h.1) (by rw [h2]; exact h.2)
theorem ee_f {σ : Hp} {A : Int → Int} {x p : Nat} (hno : ∀ j : Nat, (j : Int) < σ 12 2 → ¬ (σ 13 j = (x : Int) + (p : Int) / 41 ∧ σ 14 j = A x + ((p : Int) % 41 - 20))) : ee (σ 13) (σ 14) (σ 12 2).toNat A p x = 0 := by
  unfold ee
  split
  · rfl
  · exact zs_zero _ (fun i hi => if_neg (hno i (by omega)))
theorem ee_b {σ : Hp} {A : Int → Int} {x p : Nat} (hE : IEcho σ) : 0 ≤ ee (σ 13) (σ 14) (σ 12 2).toNat A p x ∧ ee (σ 13) (σ 14) (σ 12 2).toNat A p x ≤ 1 := by
  by_cases hA : A x = 15
  · rw [show ee (σ 13) (σ 14) (σ 12 2).toNat A p x = 0 from if_pos hA]; omega
  · by_cases hj : ∃ j : Nat, (j : Int) < σ 12 2 ∧ σ 13 j = (x : Int) + (p : Int) / 41 ∧ σ 14 j = A x + ((p : Int) % 41 - 20)
    · obtain ⟨j, a, b, c⟩ := hj
      rw [ee_t hE hA a b c]; omega
    · rw [ee_f (fun j a b => hj ⟨j, a, b.1, b.2⟩)]; omega
theorem em_b {σ : Hp} {A : Int → Int} {n p : Nat} (hE : IEcho σ) : 0 ≤ em (σ 13) (σ 14) (σ 12 2).toNat A n p ∧ em (σ 13) (σ 14) (σ 12 2).toNat A n p ≤ n := by
  have := zs_b (f := ee (σ 13) (σ 14) (σ 12 2).toNat A p) (c := 1) (by decide) n (fun i _ => ee_b hE)
  unfold em
  omega
theorem meetHeard_s {x : Nat} {σ s0 : Hp} {A : Int → Int} {k : Hp → Prop} {base : Nat → Int} (hE : IEcho σ) (hx : x ≤ 11) (hA : 0 ≤ A x ∧ A x ≤ 11) (hk : ∀ s, Same σ s → (∀ p, p < 779 → s 15 p = base p + ee (σ 13) (σ 14) (σ 12 2).toNat A p x) → k s) (ho : Same σ s0) (h0 : ∀ p, p < 779 → s0 15 p = base p) : wX0_meetHeard x (A x) s0 k := by
  have hz := hE.1
  have key : ∀ (q j : Nat) (s : Hp), (j : Int) + q = σ 12 2 → Same σ s → (∀ p, p < 779 → s 15 p = base p + zs (ej (σ 13) (σ 14) A x p) j) → wX0_meetHeard_2 k (q + 1) x (A x) j s := by
    intro q
    induction q with
    | zero =>
      intro j s hj hs he
      have e1 : s 12 2 = σ 12 2 := hs 12 2 (by unfold keep; omega)
      refine ⟨zr (by omega) (by omega), by rw [e1]; exact zr (by omega) (by omega), fun _ => hk s hs (fun p hp => ?_), fun hx => by rw [e1] at hx; omega⟩
      rw [he p hp, show ee (σ 13) (σ 14) (σ 12 2).toNat A p x = zs (ej (σ 13) (σ 14) A x p) (σ 12 2).toNat from if_neg (by omega), show (σ 12 2).toNat = j by omega]
    | succ q ih =>
      intro j s hj hs he
      have e1 : s 12 2 = σ 12 2 := hs 12 2 (by unfold keep; omega)
      have e2 : s 13 j = σ 13 j := hs 13 j (by unfold keep; omega)
      have e3 : s 14 j = σ 14 j := hs 14 j (by unfold keep; omega)
      have hj1 := hE.2.2.1 j (by omega)
      have hcast : ((j + 1 : Nat) : Int) = (j : Int) + 1 := by omega
      have skip : (¬ (0 ≤ σ 13 j - x ∧ σ 13 j - x ≤ 18 ∧ -20 ≤ σ 14 j - A x ∧ σ 14 j - A x ≤ 20)) → wX0_meetHeard_2 k (q + 1) x (A x) ((j : Int) + 1) s := fun hno => by
        have := ih (j + 1) s (by omega) hs (fun p hp => by
          rw [he p hp, show zs (ej (σ 13) (σ 14) A x p) (j + 1) = zs (ej (σ 13) (σ 14) A x p) j + ej (σ 13) (σ 14) A x p j from rfl, show ej (σ 13) (σ 14) A x p j = 0 from if_neg (by omega), Int.add_zero])
        rw [hcast] at this
        exact this
      refine ⟨zr (by omega) (by omega), by rw [e1]; exact zr (by omega) (by omega), fun hx => by rw [e1] at hx; omega, fun _ => ⟨fun hc => by omega, fun _ => ⟨⟨by omega, by omega⟩, ?_⟩⟩⟩
      rw [Int.toNat_natCast, e2, e3]
      refine wbr (zr (by omega) (by omega)) (zrg_d rfl) (zrg_d rfl) (fun hc => skip (by omega)) (fun c1 c2 => ?_)
      refine wbr (zr (by omega) (by omega)) (zrg_d rfl) (zrg_d rfl) (fun hc => skip (by omega)) (fun c3 c4 => ⟨⟨by omega, by omega⟩, ?_⟩)
      have := ih (j + 1) (zst s 15 (((σ 13 j - x) * 41 + (σ 14 j - A x)) + 20).toNat (s 15 (((σ 13 j - x) * 41 + (σ 14 j - A x)) + 20).toNat + 1)) (by omega) (hs.st (by unfold keep; omega)) (fun p hp => by
        rw [show zs (ej (σ 13) (σ 14) A x p) (j + 1) = zs (ej (σ 13) (σ 14) A x p) j + ej (σ 13) (σ 14) A x p j from rfl]
        by_cases hpp : p = (((σ 13 j - x) * 41 + (σ 14 j - A x)) + 20).toNat
        · rw [← hpp, zst_s, he p hp, show ej (σ 13) (σ 14) A x p j = 1 from if_pos (by omega)]
          omega
        · rw [zst_n (Or.inr hpp), he p hp, show ej (σ 13) (σ 14) A x p j = 0 from if_neg (by omega)]
          omega)
      rw [hcast] at this
      exact this
  refine ⟨_, key (σ 12 2).toNat 0 s0 (by omega) ho (fun p hp => ?_)⟩
  rw [h0 p hp]
  exact (Int.add_zero _).symm
theorem bf_at {f : Nat → Int} : ∀ i : Nat, (∀ j, j < i → 0 ≤ f j) → 1 ≤ i → (bf f (-1) i).1 = f (bf f (-1) i).2.toNat
  | 0, _, h => absurd h (by omega)
  | i + 1, h, _ => by
    by_cases c2 : f i ≤ (bf f (-1) i).1
    · rw [show bf f (-1) (i + 1) = bf f (-1) i from (if_neg (by omega)).trans (if_pos c2)]
      by_cases hz : i = 0
      · subst hz
        have e0 : (bf f (-1) 0).1 = -1 := rfl
        have := h 0 (by omega)
        omega
      · exact bf_at i (fun j hj => h j (by omega)) (by omega)
    · rw [show bf f (-1) (i + 1) = (f i, (i : Int)) from (if_neg (by omega)).trans (if_neg c2)]
      show f i = f (i : Int).toNat
      rw [Int.toNat_natCast]
theorem seek_s {r : Nat} {σ : Hp} {k : Hp → Prop} (hr6 : r < 6) (hR : RW σ r) (hE : IEcho σ) (hk : ∀ s, Same σ s → s 12 4 = (bf (em (σ 13) (σ 14) (σ 12 2).toNat (ra σ r) (σ (29 + r) 0).toNat) (-1) 779).2 → s 15 (s 12 4).toNat = (bf (em (σ 13) (σ 14) (σ 12 2).toNat (ra σ r) (σ (29 + r) 0).toNat) (-1) 779).1 → k s) : wX0_seek r σ k := by
  have hnb := hR.1
  have hm2 := hR.2.1
  unfold wX0_seek
  refine fill_s (by decide) ?_
  have weigh : ∀ (f : Nat → Int), f = em (σ 13) (σ 14) (σ 12 2).toNat (ra σ r) (σ (29 + r) 0).toNat → ∀ (q i : Nat) (s : Hp), i + q = 779 → 1 ≤ i → Same σ s → (∀ p, p < 779 → s 15 p = f p) → s 12 4 = (bf f (-1) i).2 → wX0_seek_49 k (q + 1) i s := by
    intro f hf q
    have hfb : ∀ p, 0 ≤ f p ∧ f p ≤ 12 := fun p => by
      have := em_b (A := ra σ r) (n := (σ (29 + r) 0).toNat) (p := p) hE
      rw [hf]
      omega
    induction q with
    | zero =>
      intro i s hi h1 hs h5 h4
      obtain rfl : i = 779 := by omega
      have bb := bf_b (f := f) (e := -1) 779 (fun j hj => hfb j)
      refine ⟨zr (by omega) (by omega), zrg_d rfl, fun _ => hk s hs (by rw [h4, hf]) ?_, fun hc => absurd (by decide) hc⟩
      rw [h4, h5 _ (by omega), ← hf]
      exact (bf_at 779 (fun j _ => (hfb j).1) (by omega)).symm
    | succ q ih =>
      intro i s hi h1 hs h5 h4
      have bb := bf_b (f := f) (e := -1) i (fun j hj => hfb j)
      have hat := bf_at i (fun j _ => (hfb j).1) h1
      have fb := hfb i
      refine ⟨zr (by omega) (by omega), zrg_d rfl, fun hc => ?_, fun _ => ⟨⟨by omega, by omega⟩, by rw [h4]; exact ⟨by omega, by omega⟩, ?_⟩⟩
      · have : ((779 : Nat) : Int) = 779 := rfl
        omega
      rw [Int.toNat_natCast, h4, h5 i (by omega), h5 _ (by omega), ← hat]
      refine ⟨zr (by omega) (by omega), zr (by omega) (by omega), fun hc => ?_, fun hc => ?_⟩
      · have := ih (i + 1) s (by omega) (by omega) hs h5 (by rw [h4, show bf f (-1) (i + 1) = bf f (-1) i from (if_neg (by omega)).trans (if_pos hc)])
        rw [show ((i + 1 : Nat) : Int) = (i : Int) + 1 by omega] at this
        exact this
      · have := ih (i + 1) (zst s 12 4 i) (by omega) (by omega) (hs.st (by unfold keep; omega)) (fun p hp => by rw [zst_np (by decide), h5 p hp]) (by rw [zst_s, show bf f (-1) (i + 1) = (f i, (i : Int)) from (if_neg (by omega)).trans (if_neg hc)])
        rw [show ((i + 1 : Nat) : Int) = (i : Int) + 1 by omega] at this
        exact this
  have key : ∀ (q x : Nat) (s : Hp), (x : Int) + q = σ (29 + r) 0 → Same σ s → (∀ p, p < 779 → s 15 p = em (σ 13) (σ 14) (σ 12 2).toNat (ra σ r) x p) → wX0_seek_10 k (q + 1) r x s := by
    intro q
    induction q with
    | zero =>
      intro x s hx hs h5
      have e1 := hs.r1 hr6
      have hxe : (σ (29 + r) 0).toNat = x := by omega
      refine ⟨zr (by omega) (by omega), by rw [e1]; exact zr (by omega) (by omega), fun _ => ⟨_, weigh _ rfl 778 1 (zst s 12 4 0) (by decide) (by decide) (hs.st (by unfold keep; omega)) (fun p hp => by rw [zst_np (by decide), h5 p hp, hxe]) ?_⟩, fun hx => by rw [e1] at hx; omega⟩
      rw [zst_s]
      have h0 := em_b (A := ra σ r) (n := (σ (29 + r) 0).toNat) (p := 0) hE
      rw [show bf (em (σ 13) (σ 14) (σ 12 2).toNat (ra σ r) (σ (29 + r) 0).toNat) (-1) 1 = (em (σ 13) (σ 14) (σ 12 2).toNat (ra σ r) (σ (29 + r) 0).toNat 0, ((0 : Nat) : Int)) from (if_neg (by omega)).trans (if_neg (fun h => absurd (Int.le_trans h0.1 h) (show ¬ ((0 : Int) ≤ -1) by decide)))]
      rfl
    | succ q ih =>
      intro x s hx hs h5
      have e1 := hs.r1 hr6
      have er := hs.ra hr6
      have hRs := RW_eq hR e1 (hs.r2 hr6)
      have hrv := ra_v hR (x : Int)
      refine ⟨zr (by omega) (by omega), by rw [e1]; exact zr (by omega) (by omega), fun hx => by rw [e1] at hx; omega, fun _ => ?_⟩
      refine mbr hRs (zr (by omega) (by omega)) (fun e => ?_) (fun e => ?_)
      · rw [er] at e
        have := ih (x + 1) s (by omega) hs (fun p hp => by
          rw [h5 p hp]
          unfold em
          rw [show zs (ee (σ 13) (σ 14) (σ 12 2).toNat (ra σ r) p) (x + 1) = zs (ee (σ 13) (σ 14) (σ 12 2).toNat (ra σ r) p) x + ee (σ 13) (σ 14) (σ 12 2).toNat (ra σ r) p x from rfl, show ee (σ 13) (σ 14) (σ 12 2).toNat (ra σ r) p x = 0 from if_pos e, Int.add_zero])
        rw [show ((x + 1 : Nat) : Int) = (x : Int) + 1 by omega] at this
        exact this
      · refine lineAt_s hRs.1 (zr (by omega) (by omega)) ?_
        rw [er]
        rw [er] at e
        refine meetHeard_s (σ := σ) (A := ra σ r) (base := fun p => s 15 p) hE (by omega) (by omega) (fun t ht t5 => ?_) hs (fun _ _ => rfl)
        have := ih (x + 1) t (by omega) ht (fun p hp => by
          rw [t5 p hp, h5 p hp]
          rfl)
        rw [show ((x + 1 : Nat) : Int) = (x : Int) + 1 by omega] at this
        exact this
  refine ⟨_, key (σ (29 + r) 0).toNat 0 _ (by omega) ((Same.rf σ).fill (fun j => by unfold keep; omega)) (fun p hp => ?_)⟩
  rw [zfill_i hp]
  rfl
