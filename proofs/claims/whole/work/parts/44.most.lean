/-! most() -/
def Off (P : Nat → Prop) (σ σ' : Hp) : Prop := ∀ q, ¬ P q → σ' q = σ q
theorem Off.rf (P : Nat → Prop) (σ : Hp) : Off P σ σ := fun _ _ => rfl
theorem Off.tr {P : Nat → Prop} {a b c : Hp} (h1 : Off P a b) (h2 : Off P b c) : Off P a c := fun q h => (h2 q h).trans (h1 q h)
theorem Off.st {P : Nat → Prop} {σ σ' : Hp} {p j : Nat} {v : Int} (h : Off P σ σ') (hp : P p) : Off P σ (zst σ' p j v) := fun q hq => by
  have hne : q ≠ p := fun e => by subst e; exact hq hp
  rw [zst_np hne, h q hq]
theorem Off.fill {P : Nat → Prop} {σ σ' : Hp} {p n : Nat} {v : Int} (h : Off P σ σ') (hp : P p) : Off P σ (zfill σ' p n v) := fun q hq => by
  have hne : q ≠ p := fun e => by subst e; exact hq hp
  rw [zfill_p hne, h q hq]
theorem Off.same {P : Nat → Prop} {σ σ' : Hp} (h : Off P σ σ') (hP : ∀ p j, keep p j → ¬ P p) : Same σ σ' := fun p j hk => by rw [h p (hP p j hk)]
theorem ra_eq {σ σ' : Hp} {r : Nat} (h1 : σ' (29 + r) = σ (29 + r)) (h2 : σ' (36 + r) = σ (36 + r)) : ra σ' r = ra σ r := by
  funext x
  unfold ra
  rw [h1, h2]
theorem RW_eq {σ σ' : Hp} {r : Nat} (h : RW σ r) (h1 : σ' (29 + r) = σ (29 + r)) (h2 : σ' (36 + r) = σ (36 + r)) : RW σ' r := by
  unfold RW
  rw [h1, h2]
  exact h
def P45 (q : Nat) : Prop := q = 4 ∨ q = 5
def hm (A B : Int → Int) (n : Int) (p : Nat) : Int := zs (hi1 A B ((p : Int) / 25 - 12) ((p : Int) % 25 - 12)) n.toNat
/-- the part of a mark's meetings with the first columns -/
def hp1 (A B : Int → Int) (x c : Nat) (p : Nat) : Int := if (x : Int) + ((p : Int) / 25 - 12) < c ∧ B ((x : Int) + ((p : Int) / 25 - 12)) ≠ 15 ∧ B ((x : Int) + ((p : Int) / 25 - 12)) = A x + ((p : Int) % 25 - 12) then 1 else 0
theorem meetAll_s {r x : Nat} {σ s0 : Hp} {A : Int → Int} {k : Hp → Prop} {base : Nat → Int} (hR : RW σ r) (hx : x ≤ 11) (hA : 0 ≤ A x ∧ A x ≤ 11) (hB : ∀ p, p < 625 → 0 ≤ base p ∧ base p ≤ 100) (hk : ∀ s, Off P45 σ s → (∀ p, p < 625 → s 5 p = base p + hp1 A (ra σ r) x 12 p) → k s) (ho : Off P45 σ s0) (h0 : ∀ p, p < 625 → s0 5 p = base p) : wX1_meetAll x (A x) r s0 k := by
  have hnb := hR.1
  have key : ∀ (q c : Nat) (s : Hp), (c : Int) + q = σ (29 + r) 0 → Off P45 σ s → (∀ p, p < 625 → s 5 p = base p + hp1 A (ra σ r) x c p) → wX1_meetAll_3 k (q + 1) x (A x) r c s := by
    intro q
    induction q with
    | zero =>
      intro c s hc hs he
      have e1 : s (29 + r) = σ (29 + r) := hs _ (by unfold P45; omega)
      refine ⟨zr (by omega) (by omega), by rw [e1]; exact zr (by omega) (by omega), fun _ => hk s hs (fun p hp => ?_), fun hx => by rw [e1] at hx; omega⟩
      rw [he p hp]
      congr 1
      unfold hp1
      by_cases hb : ra σ r ((x : Int) + ((p : Int) / 25 - 12)) = 15
      · rw [if_neg (fun h => h.2.1 hb), if_neg (fun h => h.2.1 hb)]
      · have := ra_v hR ((x : Int) + ((p : Int) / 25 - 12))
        have hlt : (x : Int) + ((p : Int) / 25 - 12) < c := by omega
        by_cases hq : ra σ r ((x : Int) + ((p : Int) / 25 - 12)) = A x + ((p : Int) % 25 - 12)
        · rw [if_pos ⟨hlt, hb, hq⟩, if_pos ⟨by omega, hb, hq⟩]
        · rw [if_neg (fun h => hq h.2.2), if_neg (fun h => hq h.2.2)]
    | succ q ih =>
      intro c s hc hs he
      have e1 : s (29 + r) = σ (29 + r) := hs _ (by unfold P45; omega)
      have e2 : s (36 + r) = σ (36 + r) := hs _ (by unfold P45; omega)
      have er := ra_eq e1 e2
      have hRs := RW_eq hR e1 e2
      have hrb := ra_v hR (c : Int)
      have hm2 := hR.2.1
      refine ⟨zr (by omega) (by omega), by rw [e1]; exact zr (by omega) (by omega), fun hx => by rw [e1] at hx; omega, fun _ => ?_⟩
      refine lineAt_s hRs.1 (zr (by omega) (by omega)) ?_
      rw [er]
      refine mbr hRs (zr (by omega) (by omega)) (fun e => ?_) (fun e => ?_)
      · have := ih (c + 1) s (by omega) hs (fun p hp => by
          rw [he p hp]
          congr 1
          rw [er] at e
          unfold hp1
          by_cases hb : (x : Int) + ((p : Int) / 25 - 12) = c
          · rw [hb, e]
            rw [if_neg (fun h => h.2.1 rfl), if_neg (fun h => h.2.1 rfl)]
          · by_cases hq : (x : Int) + ((p : Int) / 25 - 12) < c ∧ ra σ r ((x : Int) + ((p : Int) / 25 - 12)) ≠ 15 ∧ ra σ r ((x : Int) + ((p : Int) / 25 - 12)) = A x + ((p : Int) % 25 - 12)
            · rw [if_pos hq, if_pos ⟨by omega, hq.2⟩]
            · rw [if_neg hq, if_neg (fun h => hq ⟨by omega, h.2⟩)])
        rw [show ((c + 1 : Nat) : Int) = (c : Int) + 1 by omega] at this
        exact this
      rw [er] at e
      generalize hy : ra σ r (c : Int) = y at *
      refine isMove_br (zr (by omega) (by omega)) (fun h => by omega) (fun _ _ => ?_)
      refine isMove_br (zr (by omega) (by omega)) (fun h => by omega) (fun _ _ => ?_)
      refine ⟨⟨by omega, by omega⟩, ?_⟩
      have := ih (c + 1) (zst s 5 (((c : Int) - x + 12) * 25 + (y - A x) + 12).toNat (s 5 (((c : Int) - x + 12) * 25 + (y - A x) + 12).toNat + 1)) (by omega) (hs.st (Or.inr rfl)) (fun p hp => by
        by_cases hpp : p = (((c : Int) - x + 12) * 25 + (y - A x) + 12).toNat
        · rw [← hpp, zst_s, he p hp]
          have d1 : (x : Int) + ((p : Int) / 25 - 12) = c := by omega
          have d2 : A x + ((p : Int) % 25 - 12) = y := by omega
          unfold hp1
          rw [d1, d2, hy, if_neg (fun h => by omega), if_pos ⟨by omega, e, rfl⟩]
          omega
        · rw [zst_n (Or.inr hpp), he p hp]
          congr 1
          unfold hp1
          by_cases hb : (x : Int) + ((p : Int) / 25 - 12) = c
          · rw [hb, hy]
            rw [if_neg (fun h => by omega), if_neg (fun h => by omega)]
          · by_cases hq : (x : Int) + ((p : Int) / 25 - 12) < c ∧ ra σ r ((x : Int) + ((p : Int) / 25 - 12)) ≠ 15 ∧ ra σ r ((x : Int) + ((p : Int) / 25 - 12)) = A x + ((p : Int) % 25 - 12)
            · rw [if_pos hq, if_pos ⟨by omega, hq.2⟩]
            · rw [if_neg hq, if_neg (fun h => hq ⟨by omega, h.2⟩)])
      rw [show ((c + 1 : Nat) : Int) = (c : Int) + 1 by omega] at this
      exact this
  refine ⟨_, key (σ (29 + r) 0).toNat 0 s0 (by omega) ho (fun p hp => ?_)⟩
  rw [h0 p hp]
  unfold hp1
  by_cases hb : ra σ r ((x : Int) + ((p : Int) / 25 - 12)) = 15
  · rw [if_neg (fun h => h.2.1 hb), Int.add_zero]
  · have := ra_v hR ((x : Int) + ((p : Int) / 25 - 12))
    rw [if_neg (fun h => by omega), Int.add_zero]
/-- the first greatest, and the squares -/
def bf (f : Nat → Int) (e : Int) : Nat → Int × Int
  | 0 => (-1, 0)
  | i + 1 => if (i : Int) = e then bf f e i else if f i ≤ (bf f e i).1 then bf f e i else (f i, i)
def sq (f : Nat → Int) (e : Int) (i : Nat) : Int := if (i : Int) = e then 0 else f i * f i
theorem bf_b {f : Nat → Int} {e : Int} : ∀ i : Nat, (∀ j, j < i → 0 ≤ f j ∧ f j ≤ 12) → -1 ≤ (bf f e i).1 ∧ (bf f e i).1 ≤ 12 ∧ 0 ≤ (bf f e i).2 ∧ ((bf f e i).2 < i ∨ i = 0)
  | 0, _ => ⟨show (-1 : Int) ≤ -1 by decide, show (-1 : Int) ≤ 12 by decide, show (0 : Int) ≤ 0 by decide, Or.inr rfl⟩
  | i + 1, h => by
    have ih := bf_b (f := f) (e := e) i (fun j hj => h j (by omega))
    have hi := h i (by omega)
    by_cases c1 : (i : Int) = e
    · rw [show bf f e (i + 1) = bf f e i from if_pos c1]
      by_cases hz : i = 0
      · subst hz
        have e0 : (bf f e 0).2 = 0 := rfl
        rw [e0] at *
        omega
      · omega
    · by_cases c2 : f i ≤ (bf f e i).1
      · rw [show bf f e (i + 1) = bf f e i from (if_neg c1).trans (if_pos c2)]
        by_cases hz : i = 0
        · subst hz
          have e0 : (bf f e 0).2 = 0 := rfl
          rw [e0] at *
          omega
        · omega
      · rw [show bf f e (i + 1) = (f i, (i : Int)) from (if_neg c1).trans (if_neg c2)]
        show -1 ≤ f i ∧ f i ≤ 12 ∧ 0 ≤ (i : Int) ∧ ((i : Int) < (i + 1 : Nat) ∨ i + 1 = 0)
        omega
theorem weigh_s {σ : Hp} {e : Int} {k : Hp → Prop} (he : zrg e) (hb : ∀ p, p < 625 → 0 ≤ σ 5 p ∧ σ 5 p ≤ 12) (hk : ∀ s, Off P45 σ s → s 4 1 = (bf (σ 5) e 625).1 → s 4 2 = (bf (σ 5) e 625).2 → s 4 3 = zs (sq (σ 5) e) 625 → k s) : wX1_weigh e σ k := by
  have key : ∀ (q i : Nat) (s : Hp), i + q = 625 → Off P45 σ s → s 5 = σ 5 → s 4 1 = (bf (σ 5) e i).1 → s 4 2 = (bf (σ 5) e i).2 → s 4 3 = zs (sq (σ 5) e) i → wX1_weigh_17 k (q + 1) e i s := by
    intro q
    induction q with
    | zero =>
      intro i s hi hs h5 h1 h2 h3
      obtain rfl : i = 625 := by omega
      exact ⟨zr (by omega) (by omega), zrg_d rfl, fun _ => hk s hs h1 h2 h3, fun hc => absurd (by decide) hc⟩
    | succ q ih =>
      intro i s hi hs h5 h1 h2 h3
      have bb := bf_b (f := σ 5) (e := e) i (fun j hj => hb j (by omega))
      have hbi := hb i (by omega)
      refine ⟨zr (by omega) (by omega), zrg_d rfl, fun hc => ?_, fun _ => ⟨he, fun hc => ?_, fun hc => ⟨⟨by omega, by omega⟩, ?_, ?_, fun hc2 => ?_, fun hc2 => ?_⟩⟩⟩
      · have : ((625 : Nat) : Int) = 625 := rfl
        omega
      · have := ih (i + 1) s (by omega) hs h5 (by rw [h1, show bf (σ 5) e (i + 1) = bf (σ 5) e i from if_pos hc]) (by rw [h2, show bf (σ 5) e (i + 1) = bf (σ 5) e i from if_pos hc]) (by
          rw [h3, show zs (sq (σ 5) e) (i + 1) = zs (sq (σ 5) e) i + sq (σ 5) e i from rfl, show sq (σ 5) e i = 0 from if_pos hc, Int.add_zero])
        rw [show ((i + 1 : Nat) : Int) = (i : Int) + 1 by omega] at this
        exact this
      · rw [zst_np (by decide), h5, Int.toNat_natCast]
        exact zr (by omega) (by omega)
      · rw [zst_n (Or.inr (by decide)), h1]
        exact zr (by omega) (by omega)
      all_goals rw [zst_np (show (5 : Nat) ≠ 4 by decide), zst_n (show (4 : Nat) ≠ 4 ∨ (1 : Nat) ≠ 3 from Or.inr (by decide)), h5, h1, Int.toNat_natCast] at hc2
      all_goals rw [Int.toNat_natCast, h5, h3]
      all_goals rw [show zs (sq (σ 5) e) i + σ 5 i * σ 5 i = zs (sq (σ 5) e) (i + 1) by rw [show zs (sq (σ 5) e) (i + 1) = zs (sq (σ 5) e) i + sq (σ 5) e i from rfl, show sq (σ 5) e i = σ 5 i * σ 5 i from if_neg hc]]
      · have eb : bf (σ 5) e (i + 1) = bf (σ 5) e i := (if_neg hc).trans (if_pos hc2)
        have := ih (i + 1) (zst s 4 3 (zs (sq (σ 5) e) (i + 1))) (by omega) (hs.st (Or.inl rfl)) (by rw [zst_np (by decide), h5]) (by rw [zst_n (Or.inr (by decide)), h1, eb]) (by rw [zst_n (Or.inr (by decide)), h2, eb]) (by rw [zst_s])
        rw [show ((i + 1 : Nat) : Int) = (i : Int) + 1 by omega] at this
        exact this
      · have eb : bf (σ 5) e (i + 1) = (σ 5 i, (i : Int)) := (if_neg hc).trans (if_neg hc2)
        rw [zst_np (show (5 : Nat) ≠ 4 by decide), h5]
        have := ih (i + 1) (zst (zst (zst s 4 3 (zs (sq (σ 5) e) (i + 1))) 4 1 (σ 5 i)) 4 2 i) (by omega) (((hs.st (Or.inl rfl)).st (Or.inl rfl)).st (Or.inl rfl)) (by rw [zst_np (by decide), zst_np (by decide), zst_np (by decide), h5]) (by rw [zst_n (Or.inr (by decide)), zst_s, eb]) (by rw [zst_s, eb]) (by rw [zst_n (Or.inr (by decide)), zst_n (Or.inr (by decide)), zst_s])
        rw [show ((i + 1 : Nat) : Int) = (i : Int) + 1 by omega] at this
        exact this
  refine ⟨_, key 625 0 _ (by decide) ((((Off.rf P45 σ).st (Or.inl rfl)).st (Or.inl rfl)).st (Or.inl rfl)) ?_ ?_ ?_ ?_⟩
  · rw [zst_np (by decide), zst_np (by decide), zst_np (by decide)]
  · rw [zst_n (Or.inr (by decide)), zst_n (Or.inr (by decide)), zst_s]; rfl
  · rw [zst_n (Or.inr (by decide)), zst_s]; rfl
  · rw [zst_s]; rfl
theorem hm_b {A B : Int → Int} {n : Int} (hn : n ≤ 12) (p : Nat) : 0 ≤ hm A B n p ∧ hm A B n p ≤ 12 := by
  have := zs_b (f := hi1 A B ((p : Int) / 25 - 12) ((p : Int) % 25 - 12)) (c := 1) (by decide) n.toNat (fun i _ => hi1_b _ _ _ _ i)
  unfold hm
  omega
theorem bf_congr {f g : Nat → Int} {e : Int} : ∀ i : Nat, (∀ j, j < i → f j = g j) → bf f e i = bf g e i
  | 0, _ => rfl
  | i + 1, h => by
    show (if (i : Int) = e then bf f e i else if f i ≤ (bf f e i).1 then bf f e i else (f i, (i : Int))) = (if (i : Int) = e then bf g e i else if g i ≤ (bf g e i).1 then bf g e i else (g i, (i : Int)))
    rw [bf_congr i (fun j hj => h j (by omega)), h i (by omega)]
theorem lookAt_s {r1 r2 : Nat} {w e : Int} {σ : Hp} {k : Hp → Prop} (hR1 : RW σ r1) (hR2 : RW σ r2) (hw : (w = 0 ∧ e = -1) ∨ (w = 1 ∧ e = 312)) (hk : ∀ s, Off P45 σ s → s 4 1 = (bf (hm (ra σ r1) (ra σ r2) (σ (29 + r1) 0)) e 625).1 → s 4 2 = (bf (hm (ra σ r1) (ra σ r2) (σ (29 + r1) 0)) e 625).2 → s 4 3 = zs (sq (hm (ra σ r1) (ra σ r2) (σ (29 + r1) 0)) e) 625 → k s) : wX1_lookAt r1 r2 w σ k := by
  have hnb := hR1.1
  unfold wX1_lookAt
  refine fill_s (by decide) ?_
  have key : ∀ (q x : Nat) (s : Hp), (x : Int) + q = σ (29 + r1) 0 → Off P45 σ s → (∀ p, p < 625 → s 5 p = zs (hi1 (ra σ r1) (ra σ r2) ((p : Int) / 25 - 12) ((p : Int) % 25 - 12)) x) → wX1_lookAt_11 k (q + 1) r1 r2 w x s := by
    intro q
    induction q with
    | zero =>
      intro x s hx hs h5
      have e1 : s (29 + r1) = σ (29 + r1) := hs _ (by unfold P45; omega)
      have hx2 : (σ (29 + r1) 0).toNat = x := by omega
      have h5' : ∀ p, p < 625 → s 5 p = hm (ra σ r1) (ra σ r2) (σ (29 + r1) 0) p := fun p hp => by rw [h5 p hp]; unfold hm; rw [hx2]
      have he : zrg e := zr (by omega) (by omega)
      have wg : wX1_weigh e s k := by
        refine weigh_s he (fun p hp => by rw [h5' p hp]; exact hm_b hnb.2 p) (fun t ht t1 t2 t3 => hk t (hs.tr ht) ?_ ?_ ?_)
        · rw [t1, bf_congr 625 h5']
        · rw [t2, bf_congr 625 h5']
        · rw [t3]
          refine zs_congr 625 (fun i hi => ?_)
          unfold sq
          rw [h5' i hi]
      refine ⟨zr (by omega) (by omega), by rw [e1]; exact zr (by omega) (by omega), fun _ => ⟨zr (by omega) (by omega), fun hw0 => ?_, fun hw0 => ?_⟩, fun hx => by rw [e1] at hx; omega⟩
      · obtain rfl : e = -1 := by omega
        exact wg
      · obtain rfl : e = 312 := by omega
        exact wg
    | succ q ih =>
      intro x s hx hs h5
      have e1 : s (29 + r1) = σ (29 + r1) := hs _ (by unfold P45; omega)
      have e2 : s (36 + r1) = σ (36 + r1) := hs _ (by unfold P45; omega)
      have er := ra_eq e1 e2
      have hRs := RW_eq hR1 e1 e2
      have f1 : s (29 + r2) = σ (29 + r2) := hs _ (by unfold P45; omega)
      have f2 : s (36 + r2) = σ (36 + r2) := hs _ (by unfold P45; omega)
      have fr := ra_eq f1 f2
      have hRt := RW_eq hR2 f1 f2
      have hm2 := hR1.2.1
      have hrv := ra_v hR1 (x : Int)
      refine ⟨zr (by omega) (by omega), by rw [e1]; exact zr (by omega) (by omega), fun hx => by rw [e1] at hx; omega, fun _ => ?_⟩
      refine mbr hRs (zr (by omega) (by omega)) (fun e => ?_) (fun e => ?_)
      · have := ih (x + 1) s (by omega) hs (fun p hp => by
          rw [h5 p hp, show zs (hi1 (ra σ r1) (ra σ r2) ((p : Int) / 25 - 12) ((p : Int) % 25 - 12)) (x + 1) = zs (hi1 (ra σ r1) (ra σ r2) ((p : Int) / 25 - 12) ((p : Int) % 25 - 12)) x + hi1 (ra σ r1) (ra σ r2) ((p : Int) / 25 - 12) ((p : Int) % 25 - 12) x from rfl]
          rw [er] at e
          rw [show hi1 (ra σ r1) (ra σ r2) ((p : Int) / 25 - 12) ((p : Int) % 25 - 12) x = 0 from if_neg (fun h => h.1 e), Int.add_zero])
        rw [show ((x + 1 : Nat) : Int) = (x : Int) + 1 by omega] at this
        exact this
      · refine lineAt_s hRs.1 (zr (by omega) (by omega)) ?_
        rw [er]
        rw [er] at e
        refine meetAll_s (σ := s) (A := ra σ r1) (base := fun p => s 5 p) hRt (by omega) (by omega) (fun p hp => ?_) (fun t ht t5 => ?_) (Off.rf _ _) (fun _ _ => rfl)
        · have := zs_b (f := hi1 (ra σ r1) (ra σ r2) ((p : Int) / 25 - 12) ((p : Int) % 25 - 12)) (c := 1) (by decide) x (fun i _ => hi1_b _ _ _ _ i)
          show 0 ≤ s 5 p ∧ s 5 p ≤ 100
          rw [h5 p hp]
          omega
        · have := ih (x + 1) t (by omega) (hs.tr ht) (fun p hp => by
            rw [t5 p hp, h5 p hp, show zs (hi1 (ra σ r1) (ra σ r2) ((p : Int) / 25 - 12) ((p : Int) % 25 - 12)) (x + 1) = zs (hi1 (ra σ r1) (ra σ r2) ((p : Int) / 25 - 12) ((p : Int) % 25 - 12)) x + hi1 (ra σ r1) (ra σ r2) ((p : Int) / 25 - 12) ((p : Int) % 25 - 12) x from rfl, fr]
            congr 1
            unfold hp1 hi1
            by_cases hb : ra σ r2 ((x : Int) + ((p : Int) / 25 - 12)) ≠ 15 ∧ ra σ r2 ((x : Int) + ((p : Int) / 25 - 12)) = ra σ r1 x + ((p : Int) % 25 - 12)
            · have := ra_v hR2 ((x : Int) + ((p : Int) / 25 - 12))
              have := hR2.1
              rw [if_pos ⟨by omega, hb⟩, if_pos ⟨e, hb⟩]
            · rw [if_neg (fun h => hb h.2), if_neg (fun h => hb h.2)])
          rw [show ((x + 1 : Nat) : Int) = (x : Int) + 1 by omega] at this
          exact this
  refine ⟨_, key (σ (29 + r1) 0).toNat 0 _ (by omega) ((Off.rf P45 σ).fill (Or.inr rfl)) (fun p hp => ?_)⟩
  rw [zfill_i hp]
  rfl
