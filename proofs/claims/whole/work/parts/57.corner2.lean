/-! corner(): setting on, and both -/
theorem setOn_s {r n : Nat} {X Y : Int} {σ : Hp} {k : Int → Hp → Prop} (hr : r < 6) (hX : X = 0 ∨ X = 1) (hY : Y = 0 ∨ Y = 1) (hR : RW σ r) (hN : σ (29 + r) 0 = n) (h1 : ∀ x : Nat, x < n → 0 ≤ ra σ r x ∧ ra σ r x < n) (h2 : ∀ i j : Nat, i < n → j < n → ra σ r i = ra σ r j → i = j) (hF : 12 ≤ n → k (-2) σ) (hk : n < 12 → ∀ s, CSet σ s r ((n + 1 : Nat) : Int) ((n + 1 : Nat) : Int) (cf (ra σ r) n X Y 1) → k ((n + 1 : Nat) : Int) s) : wX6_setOn r X Y σ k := by
  have hnb := hR.1
  have zX : zrg X := zr (by omega) (by omega)
  have zY : zrg Y := zr (by omega) (by omega)
  have rng := fun x hx => cf_range (A := ra σ r) (v3 := 1) (M := n + 1) hX hY h1 h2 (Or.inr ⟨by decide, rfl⟩) x hx
  have cfn : ∀ u : Nat, ¬ ((X = 1 ∧ (u : Int) = n) ∨ (X = 0 ∧ u = 0)) → cf (ra σ r) n X Y 1 u = ra σ r ((u : Int) - (1 - X)) + (1 - Y) := fun u hu => (if_neg (by decide)).trans (if_neg hu)
  have cfc : ∀ u : Nat, ((X = 1 ∧ (u : Int) = n) ∨ (X = 0 ∧ u = 0)) → cf (ra σ r) n X Y 1 u = if Y = 1 then (n : Int) else 0 := fun u hu => (if_neg (by decide)).trans (if_pos hu)
  have loop : n < 12 → ∀ (q x : Nat) (s : Hp), x + q = n → Off P6 σ s → s 35 0 = ((n + 1 : Nat) : Int) → s 35 1 = ((n + 1 : Nat) : Int) → (∀ u : Nat, u < n + 1 → ((X = 1 ∧ (u : Int) = n) ∨ (X = 0 ∧ u = 0)) ∨ (1 - X ≤ u ∧ (u : Int) < x + (1 - X)) → s 42 u = cf (ra σ r) n X Y 1 u) → wX6_setOn_83 k (q + 1) r n (1 - X) (1 - Y) x s := by
    intro hn q
    induction q with
    | zero =>
      intro x s hx hs s0 s1 hg
      obtain rfl : x = n := by omega
      refine ⟨zr (by omega) (by omega), zr (by omega) (by omega), fun _ => ?_, fun hc => by omega⟩
      have all : ∀ u, u < x + 1 → s 42 u = cf (ra σ r) x X Y 1 u := fun u hu => hg u hu (by omega)
      have hR6 : RW s 6 := ⟨by show 1 ≤ s 35 0 ∧ s 35 0 ≤ 12; omega, by show 1 ≤ s 35 1 ∧ s 35 1 ≤ 12; omega, fun y hy => Or.inl (by
        have hy' : (y : Int) < s 35 0 := hy
        have a := all y (by omega)
        have b := rng y (by omega)
        show 0 ≤ s 42 y ∧ s 42 y < s 35 1
        omega)⟩
      refine copyFrom_s (N := x + 1) (m := ((x + 1 : Nat) : Int)) (by omega) (by omega) (by omega) hR6 s0 s1 ?_
      have hp := pf_set (σ := s) (r := r) (n := ((x + 1 : Nat) : Int)) (m := ((x + 1 : Nat) : Int)) (f := fun y => ra s 6 y) (i := x + 1) rfl (by omega)
      have hC : CSet σ (pf s r ((x + 1 : Nat) : Int) ((x + 1 : Nat) : Int) (fun y => ra s 6 y) (x + 1)) r ((x + 1 : Nat) : Int) ((x + 1 : Nat) : Int) (cf (ra σ r) x X Y 1) := by
        refine ⟨fun p j hk a b => ?_, hp.2.1, hp.2.2.1, fun y hy => ?_⟩
        · rw [hp.1 p j hk a b, hs p (by unfold keep at hk; unfold P6; omega)]
        · rw [hp.2.2.2 y hy]
          have e6 : ra s 6 y = cf (ra σ r) x X Y 1 y := by
            unfold ra
            rw [if_pos (by rw [show s (29 + 6) 0 = s 35 0 from rfl, s0]; omega), Int.toNat_natCast]
            exact all y (by omega)
          show cl ((x + 1 : Nat) : Int) (ra s 6 y) = _
          rw [e6]
          exact if_pos (rng y (by omega))
      show k (pf s r ((x + 1 : Nat) : Int) ((x + 1 : Nat) : Int) (fun y => ra s 6 y) (x + 1) (29 + r) 0) _
      rw [hC.2.1]
      exact hk hn _ hC
    | succ q ih =>
      intro x s hx hs s0 s1 hg
      have a1 : s (29 + r) = σ (29 + r) := hs _ (by unfold P6; omega)
      have a2 : s (36 + r) = σ (36 + r) := hs _ (by unfold P6; omega)
      refine ⟨zr (by omega) (by omega), zr (by omega) (by omega), fun hc => by omega, fun _ => ?_⟩
      refine lineAt_s (by rw [a1]; exact hR.1) (zr (by omega) (by omega)) ?_
      rw [ra_eq a1 a2]
      have b := h1 x (by omega)
      refine put_s (r := 6) (by rw [show s (29 + 6) 0 = s 35 0 from rfl, s0]; omega) (by rw [show s (29 + 6) 1 = s 35 1 from rfl, s1]; omega) (by omega) (by rw [show s (29 + 6) 0 = s 35 0 from rfl, s0]; omega) (zr (by omega) (by omega)) ?_
      rw [show s (29 + 6) 1 = s 35 1 from rfl, s1, if_pos (by omega)]
      have ih := ih (x + 1) (zst s (36 + 6) ((x : Int) + (1 - X)).toNat (ra σ r x + (1 - Y))) (by omega) (hs.st (Or.inr rfl)) (by rw [zst_np (by decide), s0]) (by rw [zst_np (by decide), s1]) (fun u hu hc => by
        by_cases e : u = ((x : Int) + (1 - X)).toNat
        · rw [← e]
          rw [cfn u (by omega), show (u : Int) - (1 - X) = (x : Int) by omega]
          exact zst_s _ _ _ _
        · rw [zst_n (Or.inr e)]
          exact hg u hu (by omega))
      rw [show ((x + 1 : Nat) : Int) = (x : Int) + 1 by omega] at ih
      exact ih
  have s77 : n < 12 → ∀ c l : Int, c = (if X = 0 then 0 else (n : Int)) → l = (if Y = 0 then 0 else (n : Int)) → wX6_setOn_77 k r n (1 - X) (1 - Y) l c 6 (zfill (zst (zst σ (29 + 6) 0 ((n : Int) + 1)) (29 + 6) 1 ((n : Int) + 1)) (36 + 6) 12 15) := fun hn c l hc hl => by
    unfold wX6_setOn_77
    have e1 : ((n + 1 : Nat) : Int) = (n : Int) + 1 := by omega
    have z0 : zfill (zst (zst σ (29 + 6) 0 ((n : Int) + 1)) (29 + 6) 1 ((n : Int) + 1)) (36 + 6) 12 15 35 0 = (n : Int) + 1 := by rw [zfill_p (by decide), zst_n (Or.inr (by decide)), zst_s]
    have z1 : zfill (zst (zst σ (29 + 6) 0 ((n : Int) + 1)) (29 + 6) 1 ((n : Int) + 1)) (36 + 6) 12 15 35 1 = (n : Int) + 1 := by rw [zfill_p (by decide), zst_s]
    have zo : Off P6 σ (zfill (zst (zst σ (29 + 6) 0 ((n : Int) + 1)) (29 + 6) 1 ((n : Int) + 1)) (36 + 6) 12 15) := (((Off.rf P6 σ).st (Or.inl rfl)).st (Or.inl rfl)).fill (Or.inr rfl)
    generalize zfill (zst (zst σ (29 + 6) 0 ((n : Int) + 1)) (29 + 6) 1 ((n : Int) + 1)) (36 + 6) 12 15 = s at *
    have hcb : 0 ≤ c ∧ c < (n : Int) + 1 := by split at hc <;> omega
    have hlb : 0 ≤ l ∧ l < (n : Int) + 1 := by split at hl <;> omega
    refine put_s (r := 6) (by rw [show s (29 + 6) 0 = s 35 0 from rfl, z0]; omega) (by rw [show s (29 + 6) 1 = s 35 1 from rfl, z1]; omega) hcb.1 (by rw [show s (29 + 6) 0 = s 35 0 from rfl, z0]; exact hcb.2) (zr (by omega) (by omega)) ?_
    rw [show s (29 + 6) 1 = s 35 1 from rfl, z1, if_pos hlb]
    refine ⟨_, loop hn n 0 _ (by omega) (zo.st (Or.inr rfl)) (by rw [zst_np (by decide), z0, e1]) (by rw [zst_np (by decide), z1, e1]) (fun u hu hcu => ?_)⟩
    have hu0 : (X = 1 ∧ (u : Int) = n) ∨ (X = 0 ∧ u = 0) := by omega
    have huc : u = c.toNat := by split at hc <;> omega
    rw [cfc u hu0, huc, show (42 : Nat) = 36 + 6 from rfl, zst_s, hl]
    rcases hY with e | e
    · rw [if_pos e, if_neg (by omega)]
    · rw [if_neg (by omega), if_pos e]
  have s36 : n < 12 → wX6_setOn_36 k r X Y n (1 - X) (1 - Y) σ := fun hn => by
    unfold wX6_setOn_36
    refine shape_s (by omega) (by omega) (by omega) (by omega) ⟨zX, fun e => ⟨zY, fun e2 => ?_, fun e2 => ?_⟩, fun e => ⟨zY, fun e2 => ?_, fun e2 => ?_⟩⟩
    · exact s77 hn 0 0 (if_pos e).symm (if_pos e2).symm
    · exact s77 hn 0 n (if_pos e).symm (if_neg e2).symm
    · exact s77 hn n 0 (if_neg e).symm (if_pos e2).symm
    · exact s77 hn n n (if_neg e).symm (if_neg e2).symm
  show zrg (σ (29 + r) 0) ∧ _
  rw [hN]
  refine ⟨zr (by omega) (by omega), fun hc => ?_, fun hc => hF (by omega)⟩
  have go := s36 (by omega)
  refine ⟨zX, fun e => ⟨zY, fun e2 => ?_, fun e2 => ?_⟩, fun e => ⟨zY, fun e2 => ?_, fun e2 => ?_⟩⟩
  · rw [show (1 : Int) - X = 1 by omega, show (1 : Int) - Y = 1 by omega] at go; exact go
  · rw [show (1 : Int) - X = 1 by omega, show (1 : Int) - Y = 0 by omega] at go; exact go
  · rw [show (1 : Int) - X = 0 by omega, show (1 : Int) - Y = 1 by omega] at go; exact go
  · rw [show (1 : Int) - X = 0 by omega, show (1 : Int) - Y = 0 by omega] at go; exact go
theorem cf_v3 {A : Int → Int} {n X Y v3 : Int} (h : v3 ≠ 0) : cf A n X Y v3 = cf A n X Y 1 := by
  funext x
  unfold cf
  rw [if_neg h, if_neg (show ¬ ((1 : Int) = 0) by decide)]
theorem and2 : ∀ v, v < 4 → zand ((v : Nat) : Int) 2 = 2 * ((v / 2 : Nat) : Int) := fun v hv => by
  rw [show (2 : Int) = ((2 : Nat) : Int) from rfl, z_and (by omega)]
  rcases (show v = 0 ∨ v = 1 ∨ v = 2 ∨ v = 3 by omega) with rfl | rfl | rfl | rfl <;> rfl
theorem T_corner {K : Hp → Prop} (hK : ∀ σ, Inv σ → K σ) {v1 v2 v3 : Int} (h1 : zrg v1) (h2 : zrg v2) (h3 : zrg v3) {σ : Hp} (hI : Inv σ) : wX6_corner v1 v2 v3 σ (fun a s => wX7_corner v1 v2 v3 s (fun b t => zrg a ∧ zrg b ∧ ((a = b → K t) ∧ (¬ (a = b) → False)))) := by
  have fok : zrg (-1) ∧ zrg (-1) ∧ (((-1 : Int) = -1 → K σ) ∧ (¬ ((-1 : Int) = -1) → False)) := fin rfl (zrg_d rfl) (hK _ hI)
  have bad : v1 < 0 ∨ 5 < v1 ∨ v2 < 0 ∨ 3 < v2 → wX7_corner v1 v2 v3 σ (fun b t => zrg (-1) ∧ zrg b ∧ (((-1) = b → K t) ∧ (¬ ((-1) = b) → False))) := fun hb => by
    refine isRow_br h1 (fun _ => fok) (fun a1 a2 => ⟨h2, ?_⟩)
    exact ibrn h2 (zrg_d rfl) (zrg_d rfl) (fun _ => fok) (fun d1 d2 => by omega)
  unfold wX6_corner
  refine rowAt_br h1 (fun hc => bad (by omega)) (fun a1 a2 => ?_)
  refine wbrn h2 (zrg_d rfl) (zrg_d rfl) (fun hc => bad (by omega)) (fun d1 d2 => ?_)
  have hr := hI.row a1 a2
  have hv6 : v1.toNat < 6 := by omega
  have hnb := hr.1.1
  obtain ⟨X, Y, hX, hY, hXY⟩ : ∃ X Y : Int, (X = 0 ∨ X = 1) ∧ (Y = 0 ∨ Y = 1) ∧ v2 = X + 2 * Y := ⟨v2 % 2, v2 / 2, by omega, by omega, by omega⟩
  have htm : Int.tmod v2 2 = X := by rw [Int.tmod_eq_emod_of_nonneg (by omega)]; omega
  have zd1 : zand v2 1 = X := by
    rw [show (1 : Int) = ((1 : Nat) : Int) from rfl, zand_m v2 1 (by decide) 1 rfl]
    show v2 % 2 = X
    omega
  have zd2 : zand v2 2 = 2 * Y := by
    have := and2 v2.toNat (by omega)
    rw [show ((v2.toNat : Nat) : Int) = v2 by omega] at this
    omega
  obtain ⟨n, hN⟩ : ∃ n : Nat, σ (29 + v1.toNat) 0 = (n : Int) := ⟨(σ (29 + v1.toNat) 0).toNat, by omega⟩
  -- the reference, where the row is a square
  have refm : ∀ (s : Hp) (z : Int), s 18 = σ 18 → s 19 = σ 19 → s 20 = σ 20 → σ (29 + v1.toNat) 0 = σ (29 + v1.toNat) 1 → SqA (fun x => ra σ v1.toNat x) (σ (29 + v1.toNat) 0).toNat → (∀ t, Off P24 s t → (v3 = 0 → (n < 2 ∨ ra σ v1.toNat (if X = 0 then 0 else (n : Int) - 1) ≠ (if Y = 0 then 0 else (n : Int) - 1)) → z = -2 ∧ K t) ∧ (v3 ≠ 0 → 12 ≤ n → z = -2 ∧ K t) ∧ (∀ M : Nat, 1 ≤ M ∧ M ≤ 12 → (v3 = 0 ∧ M + 1 = n ∧ ra σ v1.toNat (if X = 0 then 0 else (n : Int) - 1) = (if Y = 0 then 0 else (n : Int) - 1)) ∨ (v3 ≠ 0 ∧ M = n + 1) → z = M ∧ K (mf t v1.toNat M M (cf (ra σ v1.toNat) n X Y v3) M))) → wX7_corner v1 v2 v3 s (fun b t => zrg z ∧ zrg b ∧ ((z = b → K t) ∧ (¬ (z = b) → False))) := fun s z s18 s19 s20 hnm hq hz => by
    have hMs : MW s v1.toNat := MW_eq hr.mw s18 s19 s20
    have ems : ∀ x : Int, ma s v1.toNat x = ra σ v1.toNat x := fun x => by rw [ma_eq s18 s20, hr.mra]
    have hN18 : s 18 v1.toNat = n := by rw [s18, hr.2.1, hN]
    have hN19 : s 19 v1.toNat = n := by rw [s19, hr.2.2.1, ← hnm, hN]
    have hsqm : SqA (fun x => ma s v1.toNat x) (s 18 v1.toNat).toNat := by
      rw [hN18, Int.toNat_natCast]
      rw [hN, Int.toNat_natCast] at hq
      exact (SqA_congr (fun x hx => ems x)).mpr hq
    have zfin : ∀ (w : Int) (t : Hp), z = w → zrg w → K t → zrg z ∧ zrg w ∧ ((z = w → K t) ∧ (¬ (z = w) → False)) := fun w t e hw hk => by
      subst e; exact fin rfl hw hk
    have c58 : ∀ c l : Int, c = (if X = 0 then 0 else (n : Int) - 1) → l = (if Y = 0 then 0 else (n : Int) - 1) → wX7_corner_58 (fun b t => zrg z ∧ zrg b ∧ ((z = b → K t) ∧ (¬ (z = b) → False))) v1 v2 v3 n c l s := fun c l hc hl => by
      unfold wX7_corner_58
      refine isSquare_m a1 a2 hMs (fun t ht _ _ => b1e ?_) (fun t ht hno => absurd ⟨by rw [hN18, hN19], hsqm⟩ hno)
      have t18 : t 18 = s 18 := ht 18 (by unfold P24; omega)
      have t19 : t 19 = s 19 := ht 19 (by unfold P24; omega)
      have t20 : t 20 = s 20 := ht 20 (by unfold P24; omega)
      have hMt := MW_eq hMs t18 t19 t20
      have emt : ∀ x : Int, ma t v1.toNat x = ra σ v1.toNat x := fun x => by rw [ma_eq t18 t20, ems]
      obtain ⟨z1, z2, z3⟩ := hz t ht
      have hcb : -1 ≤ c ∧ c ≤ 12 := by split at hc <;> omega
      have hlb : -1 ≤ l ∧ l ≤ 12 := by split at hl <;> omega
      have run : ∀ M : Nat, 1 ≤ M ∧ M ≤ 12 → (v3 = 0 ∧ M + 1 = n ∧ ra σ v1.toNat (if X = 0 then 0 else (n : Int) - 1) = (if Y = 0 then 0 else (n : Int) - 1)) ∨ (v3 ≠ 0 ∧ M = n + 1) → wX7_corner_103 (fun b t => zrg z ∧ zrg b ∧ ((z = b → K t) ∧ (¬ (z = b) → False))) v1 v2 v3 n t := fun M hM1 hM2 => by
        refine c103_s (A := ra σ v1.toNat) (M := M) a1 a2 hX hY hXY h3 hMt emt (by omega) (by omega) hM1 (fun y hy => ?_)
        obtain ⟨e1, e2⟩ := (hz y (ht.tr hy)).2.2 M hM1 hM2
        exact zfin _ _ e1 (zr (by omega) (by omega)) e2
      refine ⟨h3, fun e => ⟨zr (by omega) (by omega), fun hc2 => ?_, fun hc2 => ?_⟩, fun e => ⟨zr (by omega) (by omega), fun hc2 => run (n + 1) (by omega) (Or.inr ⟨e, rfl⟩), fun hc2 => ?_⟩⟩
      · obtain ⟨e1, e2⟩ := z1 e (Or.inl (by omega))
        exact zfin _ _ e1 (zrg_d rfl) e2
      · refine at_s a1 a2 hMt.1 (zr (by omega) (by omega)) ?_
        rw [emt]
        have rb := ra_b hr.1 c
        refine ⟨zr (by omega) (by omega), zr (by omega) (by omega), fun he => run (n - 1) (by omega) (Or.inl ⟨e, by omega, by rw [← hc, ← hl]; exact he⟩), fun he => ?_⟩
        obtain ⟨e1, e2⟩ := z1 e (Or.inr (by rw [← hc, ← hl]; exact he))
        exact zfin _ _ e1 (zrg_d rfl) e2
      · obtain ⟨e1, e2⟩ := z2 e (by omega)
        exact zfin _ _ e1 (zrg_d rfl) e2
    refine isRow_br h1 (fun hc => by omega) (fun _ _ => ⟨h2, ?_⟩)
    refine ibrn h2 (zrg_d rfl) (zrg_d rfl) (fun hc => by omega) (fun _ _ => ⟨⟨by omega, by omega⟩, ?_⟩)
    rw [htm, hN18]
    refine ⟨zr (by omega) (by omega), fun e => ⟨h2, fun e2 => ?_, fun e2 => ?_⟩, fun e => ⟨h2, fun e2 => ?_, fun e2 => ?_⟩⟩
    · exact c58 _ _ (if_neg e).symm (if_neg (by omega)).symm
    · exact c58 _ _ (if_neg e).symm (if_pos (by omega)).symm
    · exact c58 _ _ (if_pos (by omega)).symm (if_neg (by omega)).symm
    · exact c58 _ _ (if_pos (by omega)).symm (if_pos (by omega)).symm
  have p24 : ∀ {s t : Hp}, Off P24 s t → Same s t := fun ht => ht.same (fun p j hk => by unfold keep at hk; unfold P24; omega)
  refine isSquare_s hr.1 (fun hnm hq => b1n ?_) (fun hno => b0n ?_)
  · obtain ⟨q1, q2⟩ := sq_facts hr.1 hN hnm hq
    have neg2 : ((v3 = 0 ∧ (n < 2 ∨ ra σ v1.toNat (if X = 0 then 0 else (n : Int) - 1) ≠ (if Y = 0 then 0 else (n : Int) - 1))) ∨ (v3 ≠ 0 ∧ 12 ≤ n)) → wX7_corner v1 v2 v3 σ (fun b t => zrg (-2) ∧ zrg b ∧ (((-2) = b → K t) ∧ (¬ ((-2) = b) → False))) := fun hb => by
      refine refm σ (-2) rfl rfl rfl hnm hq (fun t ht => ⟨fun _ _ => ⟨rfl, hK _ (hI.same (p24 ht))⟩, fun _ _ => ⟨rfl, hK _ (hI.same (p24 ht))⟩, fun M hM1 hM2 => ?_⟩)
      exfalso
      rcases hb with ⟨e, hb⟩ | ⟨e, hb⟩
      · rcases hM2 with ⟨_, hM3, hM4⟩ | ⟨hM3, _⟩
        · rcases hb with hb | hb
          · omega
          · exact hb hM4
        · exact hM3 e
      · rcases hM2 with ⟨hM3, _⟩ | ⟨_, hM3⟩
        · exact e hM3
        · omega
    have c58 : wX6_corner_58 (fun a s => wX7_corner v1 v2 v3 s (fun b t => zrg a ∧ zrg b ∧ ((a = b → K t) ∧ (¬ (a = b) → False)))) v3 v1.toNat X Y σ := by
      refine ⟨h3, fun e => ?_, fun e => ?_⟩
      · refine takeOff_s (M := n - 1) hv6 hX hY hr.1 hN q1 q2 (by omega) (fun hb => neg2 (Or.inl ⟨e, hb⟩)) (fun hn2 hc s hs => ?_)
        have rng := fun x hx => cf_range (A := ra σ v1.toNat) (v3 := 0) (M := n - 1) hX hY q1 q2 (Or.inl ⟨rfl, by omega, hc⟩) x hx
        refine refm s _ (hs.m 18 (by omega)) (hs.m 19 (by omega)) (hs.m 20 (by omega)) hnm hq (fun t ht => ⟨fun _ hb => ?_, fun hne => absurd e hne, fun M hM1 hM2 => ?_⟩)
        · rcases hb with hb | hb
          · omega
          · exact absurd hc hb
        · obtain rfl : M = n - 1 := by omega
          refine ⟨rfl, hK _ ?_⟩
          rw [e]
          exact hI.set hv6 ⟨by omega, by omega, fun x hx => Or.inl (rng x (by omega))⟩ (hs.tr hv6 (p24 ht)) (mf_set rfl (by omega))
      · refine setOn_s hv6 hX hY hr.1 hN q1 q2 (fun hb => neg2 (Or.inr ⟨e, hb⟩)) (fun hn2 s hs => ?_)
        have rng := fun x hx => cf_range (A := ra σ v1.toNat) (v3 := 1) (M := n + 1) hX hY q1 q2 (Or.inr ⟨by decide, rfl⟩) x hx
        refine refm s _ (hs.m 18 (by omega)) (hs.m 19 (by omega)) (hs.m 20 (by omega)) hnm hq (fun t ht => ⟨fun e0 => absurd e0 e, fun _ hb => by omega, fun M hM1 hM2 => ?_⟩)
        obtain rfl : M = n + 1 := by omega
        refine ⟨rfl, hK _ ?_⟩
        rw [cf_v3 e]
        exact hI.set hv6 ⟨by omega, by omega, fun x hx => Or.inl (rng x (by omega))⟩ (hs.tr hv6 (p24 ht)) (mf_set rfl (by omega))
    rw [zd1]
    have c45 : wX6_corner_45 (fun a s => wX7_corner v1 v2 v3 s (fun b t => zrg a ∧ zrg b ∧ ((a = b → K t) ∧ (¬ (a = b) → False)))) v2 v3 v1.toNat X σ := by
      unfold wX6_corner_45
      rw [zd2]
      refine ⟨zr (by omega) (by omega), fun e => ?_, fun e => ?_⟩
      · rw [show Y = 0 by omega] at c58; exact c58
      · rw [show Y = 1 by omega] at c58; exact c58
    refine ⟨zr (by omega) (by omega), fun e => ?_, fun e => ?_⟩
    · rw [e] at c45; exact c45
    · rw [show X = 1 by omega] at c45; exact c45
  · have c58 : ∀ c l : Int, wX7_corner_58 (fun b t => zrg (-2) ∧ zrg b ∧ (((-2) = b → K t) ∧ (¬ ((-2) = b) → False))) v1 v2 v3 (σ 18 v1.toNat) c l σ := fun c l => by
      unfold wX7_corner_58
      exact isSquare_r a1 a2 hr (fun t ht c1 c2 => absurd ⟨c1, c2⟩ hno) (fun t ht _ => b0e (fin rfl (zrg_d rfl) (hK _ (hI.same (p24 ht)))))
    refine isRow_br h1 (fun hc => by omega) (fun _ _ => ⟨h2, ?_⟩)
    refine ibrn h2 (zrg_d rfl) (zrg_d rfl) (fun hc => by omega) (fun _ _ => ⟨⟨by omega, by omega⟩, ?_⟩)
    rw [htm]
    exact ⟨zr (by omega) (by omega), fun e => ⟨h2, fun e2 => c58 _ _, fun e2 => c58 _ _⟩, fun e => ⟨h2, fun e2 => c58 _ _, fun e2 => c58 _ _⟩⟩
