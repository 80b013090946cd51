/-! powers() -/
def SQ (f : Nat → Int) (N : Nat) : Prop := (∀ x, x < N → 0 ≤ f x ∧ f x < N) ∧ ∀ i j, i < N → j < N → f i = f j → i = j
theorem SQ.v {f : Nat → Int} {N : Nat} (h : SQ f N) (h1 : 1 ≤ N) (h2 : N ≤ 12) : VRow N N f := ⟨⟨by omega, by omega⟩, ⟨by omega, by omega⟩, fun x hx => Or.inl (h.1 x (by omega))⟩
theorem SQ_cl {f : Nat → Int} {N : Nat} (hN : N ≤ 12) : SqA (fun x => cl N (f x)) N ↔ SQ f N := by
  have hcl : ∀ x, (0 ≤ f x ∧ f x < N) → cl N (f x) = f x := fun x h => if_pos h
  have hc15 : ∀ x, ¬ (0 ≤ f x ∧ f x < N) → cl N (f x) = 15 := fun x h => if_neg h
  constructor
  · intro h
    have hr : ∀ x, x < N → 0 ≤ f x ∧ f x < N := fun x hx => Classical.byContradiction (fun hc => h.1 x hx (hc15 x hc))
    refine ⟨hr, fun i j hi hj e => h.2 i j hi hj ?_⟩
    show cl N (f i) = cl N (f j)
    rw [e]
  · intro h
    refine ⟨fun x hx => ?_, fun i j hi hj e => h.2 i j hi hj ?_⟩
    · show cl N (f x) ≠ 15
      rw [hcl x (h.1 x hx)]
      have := h.1 x hx
      omega
    · have e' : cl N (f i) = cl N (f j) := e
      rw [hcl i (h.1 i hi), hcl j (h.1 j hj)] at e'
      exact e'
theorem SqA_congr {A B : Nat → Int} {n : Nat} (h : ∀ x, x < n → A x = B x) : SqA A n ↔ SqA B n := by
  unfold SqA
  constructor
  · intro ⟨h1, h2⟩
    refine ⟨fun x hx => by rw [← h x hx]; exact h1 x hx, fun i j hi hj e => h2 i j hi hj ?_⟩
    rw [h i hi, h j hj]; exact e
  · intro ⟨h1, h2⟩
    refine ⟨fun x hx => by rw [h x hx]; exact h1 x hx, fun i j hi hj e => h2 i j hi hj ?_⟩
    rw [← h i hi, ← h j hj]; exact e
theorem CSet.tr {σ s s' : Hp} {k : Nat} {n m : Int} {A : Nat → Int} (hk : k < 6) (h : CSet σ s k n m A) (hs : Same s s') : CSet σ s' k n m A := by
  obtain ⟨h1, h2, h3, h4⟩ := h
  refine ⟨fun p j hp a b => by rw [hs p j hp, h1 p j hp a b], ?_, ?_, fun x hx => ?_⟩
  · rw [hs (29 + k) 0 (by unfold keep; omega), h2]
  · rw [hs (29 + k) 1 (by unfold keep; omega), h3]
  · rw [hs (36 + k) x (by unfold keep; omega), h4 x hx]
theorem CSet.congr {σ s : Hp} {k : Nat} {n m : Int} {A B : Nat → Int} (h : CSet σ s k n m A) (e : ∀ x : Nat, (x : Int) < n → A x = B x) : CSet σ s k n m B := ⟨h.1, h.2.1, h.2.2.1, fun x hx => by rw [h.2.2.2 x hx, e x hx]⟩
/-- the spare row, filled -/
theorem spare_RW {σ : Hp} {N M : Nat} {f : Nat → Int} (h1 : 1 ≤ N) (h2 : N ≤ 12) (h3 : 1 ≤ M) (h4 : M ≤ 12) : RW (pf σ 6 N M f N) 6 := by
  unfold RW
  rw [pf_n, pf_m]
  refine ⟨⟨by omega, by omega⟩, ⟨by omega, by omega⟩, fun x hx => ?_⟩
  rw [pf_l (by omega)]
  exact cl_v (by omega)
theorem spare_ra {σ : Hp} {N M x : Nat} {f : Nat → Int} (hx : x < N) : ra (pf σ 6 N M f N) 6 x = cl M (f x) := by
  unfold ra
  rw [pf_n, if_pos (by omega), Int.toNat_natCast, pf_l hx]
theorem spare_same {σ : Hp} {N M i : Nat} {f : Nat → Int} : Same σ (pf σ 6 N M f i) := fun p j hk => by
  rw [pf_o (by unfold keep at hk; omega) (by unfold keep at hk; omega)]
theorem spare_copy {σ : Hp} {r N M : Nat} {f : Nat → Int} {k : Hp → Prop} (hr : r < 6) (h1 : 1 ≤ N) (h2 : N ≤ 12) (h3 : 1 ≤ M) (h4 : M ≤ 12) (hk : ∀ s, CSet σ s r N M (fun x => cl M (f x)) → k s) : wX3_copyFrom r 6 (pf σ 6 N M f N) k := by
  refine copyFrom_s (by omega) (by omega) (by omega) (spare_RW h1 h2 h3 h4) pf_n pf_m (hk _ ?_)
  have hp := pf_set (σ := pf σ 6 N M f N) (r := r) (n := N) (m := M) (f := fun x => ra (pf σ 6 N M f N) 6 x) (i := N) rfl (by omega)
  refine ⟨fun p j hkp a b => by rw [hp.1 p j hkp a b, spare_same p j hkp], hp.2.1, hp.2.2.1, fun x hx => ?_⟩
  rw [hp.2.2.2 x hx]
  show cl M (ra (pf σ 6 N M f N) 6 x) = cl M (f x)
  rw [spare_ra (by omega), cl_id (cl_v (by omega)) (by omega)]
theorem keepSquare_s {σ : Hp} {r N : Nat} {f : Nat → Int} {k : Int → Hp → Prop} (hr : r < 6) (h1 : 1 ≤ N) (h2 : N ≤ 12) (hS : SQ f N → ∀ s, CSet σ s r N N f → k N s) (hF : ¬ SQ f N → ∀ s, Same σ s → k (-2) s) : wX6_keepSquare r (pf σ 6 N N f N) k := by
  have hsq : SqA (fun x => ra (pf σ 6 N N f N) 6 x) N ↔ SQ f N := by
    rw [← SQ_cl h2]
    exact SqA_congr (fun x hx => spare_ra hx)
  unfold wX6_keepSquare
  refine isSquare_s (spare_RW h1 h2 h1 h2) (fun _ hq => b1n ?_) (fun hq => b0n ?_)
  · rw [pf_n, Int.toNat_natCast, hsq] at hq
    refine spare_copy hr h1 h2 h1 h2 (fun s hs => ?_)
    show k (s (29 + r) 0) s
    rw [hs.2.1]
    refine hS hq s (hs.congr (fun x hx => if_pos (hq.1 x (by omega))))
  · refine hF (fun hq2 => hq ⟨by rw [pf_n, pf_m], ?_⟩) _ spare_same
    rw [pf_n, Int.toNat_natCast, hsq]
    exact hq2
theorem made_s {s : Hp} {v : Int} {N : Nat} {f : Nat → Int} {k : Int → Hp → Prop} (h0 : 0 ≤ v) (h5 : v ≤ 5) (h1 : 1 ≤ N) (h2 : N ≤ 12) (hl : ∀ x, x < N → s 24 x = f x) (hz : ∀ x, x < N → zrg (f x)) (hS : SQ f N → k N (mf s v.toNat N N f N)) (hF : ¬ SQ f N → k (-2) s) : wX7_made v N s k := by
  have set : SQ f N → ∀ (q i : Nat), i + q = N → wX7_made_58 k (q + 1) v N i (mf s v.toNat N N f i) := by
    intro hq q
    induction q with
    | zero =>
      intro i hi
      obtain rfl : i = N := by omega
      exact ⟨zr (by omega) (by omega), zr (by omega) (by omega), fun _ => hS hq, fun hc => by omega⟩
    | succ q ih =>
      intro i hi
      have ih := ih (i + 1) (by omega)
      refine ⟨zr (by omega) (by omega), zr (by omega) (by omega), fun hc => by omega, fun _ => ⟨⟨by omega, by omega⟩, ⟨by omega, by omega⟩, ?_⟩⟩
      rw [Int.toNat_natCast, mf_o (by decide), hl i (by omega), show (12 * v + (i : Int)).toNat = 12 * v.toNat + i by omega, mf_step]
      rw [show ((i + 1 : Nat) : Int) = (i : Int) + 1 by omega] at ih
      exact ih
  have key : ∀ (q x : Nat), x + q = N → (∀ i, i < x → 0 ≤ f i ∧ f i < N) → (∀ i j, i < x → j < x → f i = f j → i = j) → wX7_made_2 k (q + 1) v N x s := by
    intro q
    induction q with
    | zero =>
      intro x hx a b
      obtain rfl : x = N := by omega
      refine ⟨zr (by omega) (by omega), zr (by omega) (by omega), fun _ => ⟨⟨by omega, by omega⟩, ?_⟩, fun hc => by omega⟩
      rw [mf_0 s v.toNat x x f]
      exact ⟨_, set ⟨a, b⟩ x 0 (by omega)⟩
    | succ q ih =>
      intro x hx a b
      have ih := ih (x + 1) (by omega)
      refine ⟨zr (by omega) (by omega), zr (by omega) (by omega), fun hc => by omega, fun _ => ⟨⟨by omega, by omega⟩, ?_⟩⟩
      rw [Int.toNat_natCast, hl x (by omega)]
      refine ⟨hz x (by omega), zr (by omega) (by omega), ibr (hz x (by omega)) (zrg_d rfl) (zr (by omega) (by omega)) (fun hc => hF (fun hq => ?_)) (fun c1 c2 => ?_)⟩
      · have := hq.1 x (by omega)
        omega
      refine isUnlike_s (by omega) (fun j hj => by rw [hl j (by omega)]; exact hz j (by omega)) (fun hall => b1n ?_) (fun hno => b0n (hF (fun hq => hno (fun j hj e => ?_))))
      · rw [show ((x + 1 : Nat) : Int) = (x : Int) + 1 by omega] at ih
        have hall' : ∀ j, j < x → f j ≠ f x := fun j hj => by
          have := hall j hj
          rw [hl j (by omega), hl x (by omega)] at this
          exact this
        refine ih (fun i hi => ?_) (fun i j hi hj e => ?_)
        · by_cases e : i = x
          · subst e; omega
          · exact a i (by omega)
        · by_cases e1 : i = x
          · by_cases e2 : j = x
            · omega
            · subst e1
              exact absurd e.symm (hall' j (by omega))
          · by_cases e2 : j = x
            · subst e2
              exact absurd e (hall' i (by omega))
            · exact b i j (by omega) (by omega) e
      · rw [hl j (by omega), hl x (by omega)] at e
        have := hq.2 j x (by omega) (by omega) e
        omega
  exact ⟨_, key N 0 (by omega) (fun i hi => absurd hi (by omega)) (fun i j hi => absurd hi (by omega))⟩
def Pr (v : Int) : Prop := v = 3 ∨ v = 5 ∨ v = 7 ∨ v = 11 ∨ v = 13
theorem told_br {v : Int} {σ : Hp} {F T : Hp → Prop} (hv : zrg v) (hf : ¬ Pr v → F σ) (ht : Pr v → T σ) : wX6_isToldPrime v σ (fun a s => zrg a ∧ ((a = 0 → F s) ∧ (¬ (a = 0) → T s))) :=
  ⟨hv, fun h => b1e (ht (Or.inl h)), fun n1 => ⟨fun h => b1e (ht (Or.inr (Or.inl h))), fun n2 => ⟨fun h => b1e (ht (Or.inr (Or.inr (Or.inl h)))), fun n3 => ⟨fun h => b1e (ht (Or.inr (Or.inr (Or.inr (Or.inl h))))), fun n4 => ⟨fun n5 => b0e (hf (by unfold Pr; omega)), fun n5 => b1e (ht (by unfold Pr; omega))⟩⟩⟩⟩⟩
theorem prime_br {v : Int} {σ : Hp} {F T : Hp → Prop} (hv : zrg v) (hf : ¬ Pr v → F σ) (ht : Pr v → T σ) : wX7_isPrime v σ (fun a s => zrg a ∧ ((a = 0 → F s) ∧ (¬ (a = 0) → T s))) :=
  ⟨hv, fun h => b1e (ht (Or.inl h)), fun n1 => ⟨fun h => b1e (ht (Or.inr (Or.inl h))), fun n2 => ⟨fun h => b1e (ht (Or.inr (Or.inr (Or.inl h)))), fun n3 => ⟨fun h => b1e (ht (Or.inr (Or.inr (Or.inr (Or.inl h))))), fun n4 => ⟨fun n5 => b0e (hf (by unfold Pr; omega)), fun n5 => b1e (ht (by unfold Pr; omega))⟩⟩⟩⟩⟩
def pw (p a : Int) : Nat → Int
  | 0 => 1
  | e + 1 => (pw p a e * a) % p
theorem pw_b {p a : Int} (hp : 3 ≤ p) : ∀ e : Nat, 0 ≤ pw p a e ∧ pw p a e < p
  | 0 => ⟨show (0 : Int) ≤ 1 by decide, show (1 : Int) < p by omega⟩
  | _ + 1 => md_b _ (by omega)
theorem mul_b {a b : Int} (ha : 0 ≤ a ∧ a ≤ 13) (hb : 0 ≤ b ∧ b ≤ 13) : 0 ≤ a * b ∧ a * b ≤ 169 := by
  have h : a * b ≤ 13 * 13 := Int.mul_le_mul ha.2 hb.2 hb.1 (by decide)
  exact ⟨Int.mul_nonneg ha.1 hb.1, by omega⟩
theorem powerBy_s {p a : Int} {e : Nat} {σ : Hp} {k : Int → Hp → Prop} (hp : 3 ≤ p ∧ p ≤ 13) (ha : 0 ≤ a ∧ a ≤ 13) (he : e ≤ 100) (hk : k (pw p a e) σ) : wX6_powerBy a e p σ k := by
  have key : ∀ (q i : Nat), i + q = e → wX6_powerBy_5 k (q + 1) a e p (pw p a i) i σ := by
    intro q
    induction q with
    | zero =>
      intro i hi
      obtain rfl : i = e := by omega
      exact ⟨zr (by omega) (by omega), zr (by omega) (by omega), fun _ => hk, fun hc => by omega⟩
    | succ q ih =>
      intro i hi
      have ih := ih (i + 1) (by omega)
      rw [show ((i + 1 : Nat) : Int) = (i : Int) + 1 by omega] at ih
      have pb := pw_b (p := p) (a := a) hp.1 i
      have mb := mul_b (a := pw p a i) (b := a) (by omega) ha
      exact ⟨zr (by omega) (by omega), zr (by omega) (by omega), fun hc => by omega, fun _ => rest_s (zr (by omega) (by omega)) (zr (by omega) (by omega)) (by omega) ih⟩
  exact ⟨_, key e 0 (by omega)⟩
theorem power_s {p a : Int} {e : Nat} {σ : Hp} {k : Int → Hp → Prop} (hp : 3 ≤ p ∧ p ≤ 13) (ha : 0 ≤ a ∧ a ≤ 13) (he : e ≤ 100) (hk : k (pw p a e) σ) : wX7_power p a e σ k := by
  have key : ∀ (q i : Nat), i + q = e → wX7_power_5 k (q + 1) p a e (pw p a i) i σ := by
    intro q
    induction q with
    | zero =>
      intro i hi
      obtain rfl : i = e := by omega
      exact ⟨zr (by omega) (by omega), zr (by omega) (by omega), fun _ => hk, fun hc => by omega⟩
    | succ q ih =>
      intro i hi
      have ih := ih (i + 1) (by omega)
      have pb := pw_b (p := p) (a := a) hp.1 i
      have mb := mul_b (a := pw p a i) (b := a) (by omega) ha
      rw [show ((i + 1 : Nat) : Int) = (i : Int) + 1 by omega, show pw p a (i + 1) = (pw p a i * a) % p from rfl, ← Int.tmod_eq_emod_of_nonneg mb.1] at ih
      exact ⟨zr (by omega) (by omega), zr (by omega) (by omega), fun hc => by omega, fun _ => ⟨zr (by omega) (by omega), zr (by omega) (by omega), by omega, ih⟩⟩
  exact ⟨_, key e 0 (by omega)⟩
theorem T_powers {K : Hp → Prop} (hK : ∀ σ, Inv σ → K σ) {v1 v2 v3 v4 : Int} (h1 : zrg v1) (h2 : zrg v2) (h3 : zrg v3) (h4 : zrg v4) {σ : Hp} (hI : Inv σ) : wX6_powers v1 v2 v3 v4 σ (fun a s => wX7_powers v1 v2 v3 v4 s (fun b t => zrg a ∧ zrg b ∧ ((a = b → K t) ∧ (¬ (a = b) → False)))) := by
  have fok : zrg (-1) ∧ zrg (-1) ∧ (((-1 : Int) = -1 → K σ) ∧ (¬ ((-1 : Int) = -1) → False)) := fin rfl (zrg_d rfl) (hK _ hI)
  have bad : ¬ (Pr v1 ∧ 2 ≤ v2 ∧ v2 ≤ v1 - 1 ∧ 0 ≤ v3 ∧ v3 ≤ v1 - 2 ∧ 0 ≤ v4 ∧ v4 ≤ 5) → wX7_powers v1 v2 v3 v4 σ (fun b t => zrg (-1) ∧ zrg b ∧ (((-1) = b → K t) ∧ (¬ ((-1) = b) → False))) := fun hb => by
    refine prime_br h1 (fun _ => fok) (fun hp => ⟨h2, ?_⟩)
    have hpb : 3 ≤ v1 ∧ v1 ≤ 13 := by unfold Pr at hp; omega
    refine ⟨zr (by omega) (by omega), ibr h2 (zrg_d rfl) (zr (by omega) (by omega)) (fun _ => fok) (fun c1 c2 => ⟨h3, zr (by omega) (by omega), ?_⟩)⟩
    refine ibr h3 (zrg_d rfl) (zr (by omega) (by omega)) (fun _ => fok) (fun d1 d2 => ?_)
    exact isRow_brn h4 (fun _ => fok) (fun e1 e2 => absurd ⟨hp, c1, c2, d1, d2, e1, e2⟩ hb)
  unfold wX6_powers
  refine rowAt_br h4 (fun hc => ?_) (fun e1 e2 => ?_)
  · have bad' := bad (by omega)
    refine told_br h1 (fun _ => bad') (fun hp => ?_)
    have hpb : 3 ≤ v1 ∧ v1 ≤ 13 := by unfold Pr at hp; omega
    refine wbr h2 (zrg_d rfl) (zr (by omega) (by omega)) (fun _ => bad') (fun _ _ => ?_)
    exact wbr h3 (zrg_d rfl) (zr (by omega) (by omega)) (fun _ => bad') (fun _ _ => bad')
  refine told_br h1 (fun hp => bad (fun h => hp h.1)) (fun hp => ?_)
  have hpb : 3 ≤ v1 ∧ v1 ≤ 13 := by unfold Pr at hp; omega
  refine wbr h2 (zrg_d rfl) (zr (by omega) (by omega)) (fun hc => bad (by omega)) (fun c1 c2 => ?_)
  refine wbr h3 (zrg_d rfl) (zr (by omega) (by omega)) (fun hc => bad (by omega)) (fun d1 d2 => ?_)
  obtain ⟨N, hN⟩ : ∃ N : Nat, v1 - 1 = (N : Int) := ⟨(v1 - 1).toNat, by omega⟩
  obtain ⟨e, he⟩ : ∃ e : Nat, v3 = (e : Int) := ⟨v3.toNat, by omega⟩
  rw [hN]
  subst he
  refine shape_pf (fun x => pw v1 v2 (e + x) - 1) (by omega) (by omega) (by omega) (by omega) ?_
  refine powerBy_s hpb (by omega) (by omega) ?_
  have ref : ∀ (z : Int) (s : Hp), (SQ (fun x => pw v1 v2 (e + x) - 1) N → z = N ∧ CSet σ s v4.toNat N N (fun x => pw v1 v2 (e + x) - 1)) → (¬ SQ (fun x => pw v1 v2 (e + x) - 1) N → z = -2 ∧ Same σ s) → wX7_powers v1 v2 e v4 s (fun b t => zrg z ∧ zrg b ∧ ((z = b → K t) ∧ (¬ (z = b) → False))) := fun z s zS zF => by
    have z34 : zrg (e : Int) := h3
    refine prime_br h1 (fun hc => absurd hp hc) (fun _ => ⟨h2, zr (by omega) (by omega), ?_⟩)
    refine ibr h2 (zrg_d rfl) (zr (by omega) (by omega)) (fun _ => by omega) (fun _ _ => ⟨z34, zr (by omega) (by omega), ?_⟩)
    refine ibr z34 (zrg_d rfl) (zr (by omega) (by omega)) (fun _ => by omega) (fun _ _ => ?_)
    refine isRow_brn h4 (fun _ => by omega) (fun _ _ => ?_)
    have key : ∀ (q x : Nat) (t : Hp), x + q = N → Off P24 s t → (∀ j, j < x → t 24 j = pw v1 v2 (e + j) - 1) → wX7_powers_48 (fun b t => zrg z ∧ zrg b ∧ ((z = b → K t) ∧ (¬ (z = b) → False))) (q + 1) v1 v2 e v4 x t := by
      intro q
      induction q with
      | zero =>
        intro x t hx ht hj
        obtain rfl : x = N := by omega
        have hst : Same s t := ht.same (fun p j hk => by unfold keep at hk; unfold P24; omega)
        refine ⟨zr (by omega) (by omega), zr (by omega) (by omega), fun _ => ?_, fun hc => by omega⟩
        rw [hN]
        refine made_s (f := fun x => pw v1 v2 (e + x) - 1) e1 e2 (by omega) (by omega) hj (fun j _ => by
          have := pw_b (p := v1) (a := v2) hpb.1 (e + j)
          show zrg (pw v1 v2 (e + j) - 1)
          exact zr (by omega) (by omega)) (fun hq => ?_) (fun hq => ?_)
        · obtain ⟨z1, z2⟩ := zS hq
          exact fin z1 (zr (by omega) (by omega)) (hK _ (hI.set (by omega) (hq.v (by omega) (by omega)) (z2.tr (by omega) hst) (mf_set rfl (by omega))))
        · obtain ⟨z1, z2⟩ := zF hq
          exact fin z1 (zr (by omega) (by omega)) (hK _ (hI.same (z2.tr hst)))
      | succ q ih =>
        intro x t hx ht hj
        refine ⟨zr (by omega) (by omega), zr (by omega) (by omega), fun hc => by omega, fun _ => ?_⟩
        rw [show (x : Int) + (e : Int) = ((e + x : Nat) : Int) by omega]
        refine power_s hpb (by omega) (by omega) ⟨⟨by omega, by omega⟩, ?_⟩
        have ih := ih (x + 1) (zst t 24 x (pw v1 v2 (e + x) - 1)) (by omega) (ht.st rfl) (fun j hj2 => by
          by_cases e : j = x
          · subst e; rw [zst_s]
          · rw [zst_n (Or.inr e), hj j (by omega)])
        rw [show ((x + 1 : Nat) : Int) = (x : Int) + 1 by omega] at ih
        exact ih
    exact ⟨_, key N 0 s (by omega) (Off.rf _ _) (fun j hj => absurd hj (by omega))⟩
  have key : ∀ (q x : Nat), x + q = N → wX6_powers_71 (fun a s => wX7_powers v1 v2 e v4 s (fun b t => zrg a ∧ zrg b ∧ ((a = b → K t) ∧ (¬ (a = b) → False)))) (q + 1) v1 v2 v4.toNat N (pw v1 v2 (e + x)) x (pf σ 6 N N (fun x => pw v1 v2 (e + x) - 1) x) := by
    intro q
    induction q with
    | zero =>
      intro x hx
      obtain rfl : x = N := by omega
      refine ⟨zr (by omega) (by omega), zr (by omega) (by omega), fun _ => ?_, fun hc => by omega⟩
      exact keepSquare_s (by omega) (by omega) (by omega) (fun hq s hs => ref _ s (fun _ => ⟨rfl, hs⟩) (fun hn => absurd hq hn)) (fun hn s hs => ref _ s (fun hq => absurd hq hn) (fun _ => ⟨rfl, hs⟩))
    | succ q ih =>
      intro x hx
      have pb := pw_b (p := v1) (a := v2) hpb.1 (e + x)
      have mb := mul_b (a := pw v1 v2 (e + x)) (b := v2) (by omega) (by omega)
      refine ⟨zr (by omega) (by omega), zr (by omega) (by omega), fun hc => by omega, fun _ => ?_⟩
      refine put_pf (by omega) (by omega) (by omega) (by omega) (by omega) (zr (by omega) (by omega)) rfl ?_
      refine rest_s (zr (by omega) (by omega)) h1 (by omega) ?_
      have ih := ih (x + 1) (by omega)
      rw [show ((x + 1 : Nat) : Int) = (x : Int) + 1 by omega] at ih
      exact ih
  exact ⟨_, key N 0 (by omega)⟩
