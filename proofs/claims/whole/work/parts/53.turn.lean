/-! turn() -/
theorem isSquare_m {v : Int} {σ : Hp} {k : Int → Hp → Prop} (h0 : 0 ≤ v) (h5 : v ≤ 5) (hr : MW σ v.toNat) (ht : ∀ s, Off P24 σ s → σ 18 v.toNat = σ 19 v.toNat → SqA (fun x => ma σ v.toNat x) (σ 18 v.toNat).toNat → k 1 s) (hf : ∀ s, Off P24 σ s → ¬ (σ 18 v.toNat = σ 19 v.toNat ∧ SqA (fun x => ma σ v.toNat x) (σ 18 v.toNat).toNat) → k 0 s) : wX7_isSquare v σ k := by
  have hnb := hr.1
  have hmb := hr.2.1
  have hw : ∀ s, Off P24 σ s → s 18 v.toNat = σ 18 v.toNat := fun s hs => by rw [hs 18 (by unfold P24; omega)]
  have hat : ∀ (s : Hp) (x : Nat) (K : Int → Hp → Prop), Off P24 σ s → K (ma σ v.toNat x) s → (x : Nat) < 12 → wX7_at v x s K := fun s x K hs hk hx => by
    have e18 : s 18 = σ 18 := hs 18 (by unfold P24; omega)
    have e20 : s 20 = σ 20 := hs 20 (by unfold P24; omega)
    refine at_s h0 h5 (by rw [e18]; exact hr.1) (zr (by omega) (by omega)) ?_
    have : ma s v.toNat x = ma σ v.toNat x := by
      unfold ma
      rw [e18, e20]
    rw [this]
    exact hk
  have l0 : ¬ (σ 18 v.toNat = σ 19 v.toNat ∧ SqA (fun x => ma σ v.toNat x) (σ 18 v.toNat).toNat) → ∀ (q x : Nat) (s : Hp), (x : Int) + q = σ 18 v.toNat → Off P24 σ s → wX7_isSquare_23 k (q + 1) v 0 x s := by
    intro hno q
    induction q with
    | zero =>
      intro x s hx hs
      have hw := hw s hs
      exact ⟨⟨by omega, by omega⟩, zr (by omega) (by omega), zr (by omega) (by omega), fun _ => ⟨Or.inl rfl, hf s hs hno⟩, fun hc => by omega⟩
    | succ q ih =>
      intro x s hx hs
      have hw := hw s hs
      refine ⟨⟨by omega, by omega⟩, zr (by omega) (by omega), zr (by omega) (by omega), fun hc => by omega, fun _ => hat s x _ hs ⟨⟨by omega, by omega⟩, zrg_d rfl, fun _ => ?_, fun hc => absurd rfl hc⟩ (by omega)⟩
      have ih := ih (x + 1) (zst s 24 (x : Int).toNat (ma σ v.toNat x)) (by omega) (hs.st rfl)
      rw [show ((x + 1 : Nat) : Int) = (x : Int) + 1 by omega] at ih
      exact ih
  have l1 : σ 18 v.toNat = σ 19 v.toNat → ∀ (q x : Nat) (s : Hp), (x : Int) + q = σ 18 v.toNat → Off P24 σ s → (∀ j, j < x → s 24 j = ma σ v.toNat j) → SqA (fun x => ma σ v.toNat x) x → wX7_isSquare_23 k (q + 1) v 1 x s := by
    intro hnm q
    induction q with
    | zero =>
      intro x s hx hs hj hsq
      have hw := hw s hs
      have hxn : (σ 18 v.toNat).toNat = x := by omega
      exact ⟨⟨by omega, by omega⟩, zr (by omega) (by omega), zr (by omega) (by omega), fun _ => ⟨Or.inr rfl, ht s hs hnm (by rw [hxn]; exact hsq)⟩, fun hc => by omega⟩
    | succ q ih =>
      intro x s hx hs hj hsq
      have hw := hw s hs
      have hs' : Off P24 σ (zst s 24 x (ma σ v.toNat x)) := hs.st rfl
      have l0' := fun hno => l0 hno q (x + 1) (zst s 24 x (ma σ v.toNat x)) (by omega) hs'
      have ih := ih (x + 1) (zst s 24 x (ma σ v.toNat x)) (by omega) hs'
      rw [show ((x + 1 : Nat) : Int) = (x : Int) + 1 by omega] at ih l0'
      refine ⟨⟨by omega, by omega⟩, zr (by omega) (by omega), zr (by omega) (by omega), fun hc => by omega, fun _ => hat s x _ hs ⟨⟨by omega, by omega⟩, zrg_d rfl, fun hc => absurd hc (by decide), fun _ => ?_⟩ (by omega)⟩
      rw [Int.toNat_natCast, zst_s]
      have rb := ma_b hr (x : Int)
      refine ⟨zr (by omega) (by omega), fun hc => l0' (fun h => h.2.1 x (by omega) (show ma σ v.toNat x = 15 by omega)), fun hc => ?_⟩
      have hsj : ∀ j, j ≤ x → zst s 24 x (ma σ v.toNat x) 24 j = ma σ v.toNat j := fun j hj2 => by
        by_cases e : j = x
        · subst e; rw [zst_s]
        · rw [zst_n (Or.inr e), hj j (by omega)]
      refine isUnlike_s (by omega) (fun j hj2 => by
        rw [hsj j hj2]
        have := ma_b hr (j : Int)
        exact zr (by omega) (by omega)) (fun hall => b1e (ih (fun j hj2 => hsj j (by omega)) ⟨fun j hj2 => ?_, fun i j hi hj2 e => ?_⟩)) (fun hno => b0e (l0' (fun h => hno (fun j hj2 e => ?_))))
      · by_cases e : j = x
        · subst e; show ma σ v.toNat j ≠ 15; omega
        · exact hsq.1 j (by omega)
      · have hall' : ∀ j, j < x → ma σ v.toNat j ≠ ma σ v.toNat x := fun j hj3 => by
          have := hall j hj3
          rw [hsj j (by omega), hsj x (by omega)] at this
          exact this
        have e' : ma σ v.toNat i = ma σ v.toNat j := e
        by_cases e1 : i = x
        · by_cases e2 : j = x
          · omega
          · subst e1
            exact absurd e'.symm (hall' j (by omega))
        · by_cases e2 : j = x
          · subst e2
            exact absurd e' (hall' i (by omega))
          · exact hsq.2 i j (by omega) (by omega) e
      · rw [hsj j (by omega), hsj x (by omega)] at e
        have := h.2.2 j x (by omega) (by omega) e
        omega
  refine ⟨⟨by omega, by omega⟩, by exact zr (by omega) (by omega), by exact zr (by omega) (by omega), fun hc => ⟨_, l0 (fun h => hc h.1) (σ 18 v.toNat).toNat 0 σ (by omega) (Off.rf _ _)⟩, fun hc => ⟨_, l1 ?_ (σ 18 v.toNat).toNat 0 σ (by omega) (Off.rf _ _) (fun j hj => absurd hj (by omega)) ⟨fun j hj => absurd hj (by omega), fun i j hi => absurd hi (by omega)⟩⟩⟩
  exact Classical.not_not.mp hc
def pt (A : Nat → Int) (N : Nat) (w : Int) : Nat → Nat → Int × Int
  | 0, x => (if w < 4 then (x : Int) else (N : Int) - 1 - x, A x)
  | j + 1, x => ((pt A N w j x).2, (N : Int) - 1 - (pt A N w j x).1)
theorem pt_r {A : Nat → Int} {N : Nat} {w : Int} (hA : ∀ x, x < N → 0 ≤ A x ∧ A x < N) : ∀ (j x : Nat), x < N → (0 ≤ (pt A N w j x).1 ∧ (pt A N w j x).1 < N) ∧ (0 ≤ (pt A N w j x).2 ∧ (pt A N w j x).2 < N)
  | 0, x, hx => by
    refine ⟨?_, hA x hx⟩
    show 0 ≤ (if w < 4 then (x : Int) else (N : Int) - 1 - x) ∧ (if w < 4 then (x : Int) else (N : Int) - 1 - x) < N
    split <;> omega
  | j + 1, x, hx => by
    have ih := pt_r (w := w) hA j x hx
    refine ⟨ih.2, ?_⟩
    show 0 ≤ (N : Int) - 1 - (pt A N w j x).1 ∧ (N : Int) - 1 - (pt A N w j x).1 < N
    omega
theorem pt_i {A : Nat → Int} {N : Nat} {w : Int} (hA : ∀ i j, i < N → j < N → A i = A j → i = j) : ∀ (j x y : Nat), x < N → y < N → ((pt A N w j x).1 = (pt A N w j y).1 → x = y) ∧ ((pt A N w j x).2 = (pt A N w j y).2 → x = y)
  | 0, x, y, hx, hy => by
    refine ⟨fun e => ?_, hA x y hx hy⟩
    have e' : (if w < 4 then (x : Int) else (N : Int) - 1 - x) = (if w < 4 then (y : Int) else (N : Int) - 1 - y) := e
    split at e' <;> omega
  | j + 1, x, y, hx, hy => by
    have ih := pt_i (w := w) hA j x y hx hy
    refine ⟨ih.2, fun e => ih.1 ?_⟩
    have e' : (N : Int) - 1 - (pt A N w j x).1 = (N : Int) - 1 - (pt A N w j y).1 := e
    omega
theorem pt_s {A : Nat → Int} {N : Nat} {w : Int} (h1 : ∀ x, x < N → 0 ≤ A x ∧ A x < N) (h2 : ∀ i j, i < N → j < N → A i = A j → i = j) (j u : Nat) (hu : u < N) : ∃ x, x < N ∧ (pt A N w j x).1 = u := by
  obtain ⟨x, hx, e⟩ := php_surj N (fun x => (pt A N w j x).1.toNat) (fun x hx => by
    have := pt_r (w := w) h1 j x hx
    show (pt A N w j x).1.toNat < N
    omega) (fun x y hx hy e => (pt_i (w := w) h2 j x y hx hy).1 (by
    have a := pt_r (w := w) h1 j x hx
    have b := pt_r (w := w) h1 j y hy
    have e' : (pt A N w j x).1.toNat = (pt A N w j y).1.toNat := e
    omega)) u hu
  have a := pt_r (w := w) h1 j x hx
  have e' : (pt A N w j x).1.toNat = u := e
  exact ⟨x, hx, by omega⟩
/-- a row laid out along the points -/
def Gr (A : Nat → Int) (N : Nat) (w : Int) (j : Nat) (G : Nat → Int) : Prop := ∀ x, x < N → G (pt A N w j x).1.toNat = (pt A N w j x).2
theorem Gr_u {A : Nat → Int} {N : Nat} {w : Int} {j : Nat} {F G : Nat → Int} (h1 : ∀ x, x < N → 0 ≤ A x ∧ A x < N) (h2 : ∀ i j, i < N → j < N → A i = A j → i = j) (hF : Gr A N w j F) (hG : Gr A N w j G) (u : Nat) (hu : u < N) : F u = G u := by
  obtain ⟨x, hx, e⟩ := pt_s (w := w) h1 h2 j u hu
  have a := hF x hx
  have b := hG x hx
  rw [e, Int.toNat_natCast] at a b
  rw [a, b]
theorem Gr_r {A : Nat → Int} {N : Nat} {w : Int} {j : Nat} {F : Nat → Int} (h1 : ∀ x, x < N → 0 ≤ A x ∧ A x < N) (h2 : ∀ i j, i < N → j < N → A i = A j → i = j) (hF : Gr A N w j F) (u : Nat) (hu : u < N) : 0 ≤ F u ∧ F u < N := by
  obtain ⟨x, hx, e⟩ := pt_s (w := w) h1 h2 j u hu
  have a := hF x hx
  rw [e, Int.toNat_natCast] at a
  rw [a]
  exact (pt_r (w := w) h1 j x hx).2
theorem Gr_i {A : Nat → Int} {N : Nat} {w : Int} {j : Nat} {F : Nat → Int} (h1 : ∀ x, x < N → 0 ≤ A x ∧ A x < N) (h2 : ∀ i j, i < N → j < N → A i = A j → i = j) (hF : Gr A N w j F) (u v : Nat) (hu : u < N) (hv : v < N) (e : F u = F v) : u = v := by
  obtain ⟨x, hx, ex⟩ := pt_s (w := w) h1 h2 j u hu
  obtain ⟨y, hy, ey⟩ := pt_s (w := w) h1 h2 j v hv
  have a := hF x hx
  have b := hF y hy
  rw [ex, Int.toNat_natCast] at a
  rw [ey, Int.toNat_natCast] at b
  have := (pt_i (w := w) h2 j x y hx hy).2 (by rw [← a, ← b, e])
  subst this
  omega
def P6 (q : Nat) : Prop := q = 35 ∨ q = 42
theorem turnInto_s {r N J : Nat} {w : Int} {σ : Hp} {k : Hp → Prop} (hr : r < 6) (hw : 0 ≤ w ∧ w ≤ 7) (hJ : w % 4 = J) (hR : RW σ r) (hN : σ (29 + r) 0 = N) (h1 : ∀ x : Nat, x < N → 0 ≤ ra σ r x ∧ ra σ r x < N) (h2 : ∀ i j : Nat, i < N → j < N → ra σ r i = ra σ r j → i = j) (hk : ∀ s, Off P6 σ s → s 35 0 = N → s 35 1 = N → Gr (fun x => ra σ r x) N w J (s 42) → k s) : wX6_turnInto 6 r w σ k := by
  have hnb := hR.1
  have hz : zand w 3 = J := by
    rw [show (3 : Int) = ((3 : Nat) : Int) from rfl, zand_m w 2 (by decide) 3 rfl]
    exact hJ
  unfold wX6_turnInto
  show wX3_shape 6 (σ (29 + r) 0) (σ (29 + r) 0) σ _
  rw [hN]
  refine shape_s (by omega) (by omega) (by omega) (by omega) ?_
  have key : ∀ (q x : Nat) (s : Hp), x + q = N → Off P6 σ s → s 35 0 = N → s 35 1 = N → (∀ i, i < x → s 42 (pt (fun x => ra σ r x) N w J i).1.toNat = (pt (fun x => ra σ r x) N w J i).2) → wX6_turnInto_14 k (q + 1) 6 r w N x s := by
    intro q
    induction q with
    | zero =>
      intro x s hx hs e0 e1 hg
      obtain rfl : x = N := by omega
      exact ⟨zr (by omega) (by omega), zr (by omega) (by omega), fun _ => hk s hs e0 e1 hg, fun hc => by omega⟩
    | succ q ih =>
      intro x s hx hs e0 e1 hg
      have a1 : s (29 + r) = σ (29 + r) := hs _ (by unfold P6; omega)
      have a2 : s (36 + r) = σ (36 + r) := hs _ (by unfold P6; omega)
      have pr := fun j => pt_r (A := fun x => ra σ r x) (w := w) h1 j x (by omega)
      have body : ∀ (q2 j : Nat), j + q2 = J → wX6_turnInto_49 k (fun r0 r1 v2 v3 v4 σ => wX6_turnInto_14 k (q + 1) r0 r1 v2 v3 v4 σ) (q2 + 1) 6 r w N x (pt (fun x => ra σ r x) N w j x).1 (pt (fun x => ra σ r x) N w j x).2 j s := by
        intro q2
        induction q2 with
        | zero =>
          intro j hj
          obtain rfl : j = J := by omega
          refine ⟨zr (by omega) (by omega), by rw [hz]; exact zr (by omega) (by omega), fun _ => ?_, fun hc => by rw [hz] at hc; omega⟩
          have b := pr j
          refine put_s (r := 6) (by rw [show s (29 + 6) 0 = s 35 0 from rfl, e0]; omega) (by rw [show s (29 + 6) 1 = s 35 1 from rfl, e1]; omega) b.1.1 (by rw [show s (29 + 6) 0 = s 35 0 from rfl, e0]; exact b.1.2) (zr (by omega) (by omega)) ?_
          rw [show s (29 + 6) 1 = s 35 1 from rfl, e1, if_pos b.2]
          have ih := ih (x + 1) (zst s (36 + 6) (pt (fun x => ra σ r x) N w j x).1.toNat (pt (fun x => ra σ r x) N w j x).2) (by omega) (hs.st (Or.inr rfl)) (by rw [zst_np (by decide), e0]) (by rw [zst_np (by decide), e1]) (fun i hi => by
            by_cases e : i = x
            · subst e
              exact zst_s _ _ _ _
            · rw [zst_n (Or.inr (fun e2 => e ((pt_i (w := w) h2 j i x (by omega) (by omega)).1 (by
                have c := pt_r (A := fun x => ra σ r x) (w := w) h1 j i (by omega)
                omega)))), hg i (by omega)])
          rw [show ((x + 1 : Nat) : Int) = (x : Int) + 1 by omega] at ih
          exact ih
        | succ q2 ih2 =>
          intro j hj
          have ih2 := ih2 (j + 1) (by omega)
          rw [show ((j + 1 : Nat) : Int) = (j : Int) + 1 by omega] at ih2
          exact ⟨zr (by omega) (by omega), by rw [hz]; exact zr (by omega) (by omega), fun hc => by rw [hz] at hc; omega, fun _ => ih2⟩
      refine ⟨zr (by omega) (by omega), zr (by omega) (by omega), fun hc => by omega, fun _ => ⟨zr (by omega) (by omega), fun hc => ?_, fun hc => ?_⟩⟩
      · unfold wX6_turnInto_36
        refine lineAt_s (by rw [a1]; exact hR.1) (zr (by omega) (by omega)) ⟨J + 1, ?_⟩
        rw [ra_eq a1 a2]
        have := body J 0 (by omega)
        rw [show (pt (fun x => ra σ r x) N w 0 x).1 = (x : Int) from if_pos hc] at this
        exact this
      · unfold wX6_turnInto_36
        refine lineAt_s (by rw [a1]; exact hR.1) (zr (by omega) (by omega)) ⟨J + 1, ?_⟩
        rw [ra_eq a1 a2]
        have := body J 0 (by omega)
        rw [show (pt (fun x => ra σ r x) N w 0 x).1 = (N : Int) - 1 - x from if_neg hc] at this
        exact this
  refine ⟨_, key N 0 _ (by omega) (((Off.rf P6 σ).st (Or.inl rfl)).st (Or.inl rfl) |>.fill (Or.inr rfl)) ?_ ?_ (fun i hi => absurd hi (by omega))⟩
  · rw [zfill_p (by decide), zst_n (Or.inr (by decide)), zst_s]
  · rw [zfill_p (by decide), zst_s]
