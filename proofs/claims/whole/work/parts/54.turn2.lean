/-! turn(): the reference, and both -/
def P78 (q : Nat) : Prop := q = 27 ∨ q = 28
theorem turns_64_s {N : Nat} {w v4 : Int} {s : Hp} {k : Hp → Prop} {K53 : Int → Int → Int → Hp → Prop} (hN : 1 ≤ N ∧ N ≤ 12) (h1 : ∀ x, x < N → 0 ≤ s 27 x ∧ s 27 x < N) (h2 : ∀ i j, i < N → j < N → s 27 i = s 27 j → i = j) (hK : ∀ t, Off P78 s t → (∀ x, x < N → t 27 (s 27 x).toNat = (N : Int) - 1 - x) → K53 w N (v4 + 1) t) : ∀ (q x : Nat) (t : Hp), x + q = N → Off P78 s t → t 27 = s 27 → (∀ i, i < x → t 28 (s 27 i).toNat = (N : Int) - 1 - i) → wX7_turns_64 k K53 (q + 1) w N v4 x t := by
  intro q
  induction q with
  | zero =>
    intro x t hx ht h27 hg
    obtain rfl : x = N := by omega
    have cp : ∀ (q y : Nat) (u : Hp), y + q = x → Off P78 s u → u 28 = t 28 → (∀ i, i < y → u 27 i = t 28 i) → wX7_turns_97 k K53 (q + 1) w x v4 y u := by
      intro q
      induction q with
      | zero =>
        intro y u hy hu h28 hc
        obtain rfl : y = x := by omega
        refine ⟨zr (by omega) (by omega), zr (by omega) (by omega), fun _ => hK u hu (fun i hi => ?_), fun hc => by omega⟩
        have := h1 i hi
        rw [hc _ (by omega)]
        exact hg i hi
      | succ q ih =>
        intro y u hy hu h28 hc
        refine ⟨zr (by omega) (by omega), zr (by omega) (by omega), fun hc => by omega, fun _ => ⟨⟨by omega, by omega⟩, ?_⟩⟩
        rw [Int.toNat_natCast, h28]
        have ih := ih (y + 1) (zst u 27 y (t 28 y)) (by omega) (hu.st (Or.inl rfl)) (by rw [zst_np (by decide), h28]) (fun i hi => by
          by_cases e : i = y
          · subst e; rw [zst_s]
          · rw [zst_n (Or.inr e), hc i (by omega)])
        rw [show ((y + 1 : Nat) : Int) = (y : Int) + 1 by omega] at ih
        exact ih
    exact ⟨zr (by omega) (by omega), zr (by omega) (by omega), fun _ => ⟨_, cp x 0 t (by omega) ht rfl (fun i hi => absurd hi (by omega))⟩, fun hc => by omega⟩
  | succ q ih =>
    intro x t hx ht h27 hg
    have b := h1 x (by omega)
    refine ⟨zr (by omega) (by omega), zr (by omega) (by omega), fun hc => by omega, fun _ => ⟨⟨by omega, by omega⟩, ?_⟩⟩
    rw [Int.toNat_natCast, h27]
    refine ⟨⟨by omega, by omega⟩, ?_⟩
    have ih := ih (x + 1) (zst t 28 (s 27 x).toNat ((N : Int) - 1 - x)) (by omega) (ht.st (Or.inr rfl)) (by rw [zst_np (by decide), h27]) (fun i hi => by
      by_cases e : i = x
      · subst e; rw [zst_s]
      · have c := h1 i (by omega)
        rw [zst_n (Or.inr (fun e2 => e (h2 i x (by omega) (by omega) (by omega)))), hg i (by omega)])
    rw [show ((x + 1 : Nat) : Int) = (x : Int) + 1 by omega] at ih
    exact ih
theorem turns_s {v w : Int} {N J : Nat} {s : Hp} {A : Nat → Int} {k : Hp → Prop} (h0 : 0 ≤ v) (h5 : v ≤ 5) (hw : 0 ≤ w ∧ w ≤ 7) (hJ : w % 4 = J) (hm : MW s v.toNat) (hN : s 18 v.toNat = N) (hA : ∀ x : Nat, x < N → ma s v.toNat x = A x) (h1 : ∀ x, x < N → 0 ≤ A x ∧ A x < N) (h2 : ∀ i j, i < N → j < N → A i = A j → i = j) (hk : ∀ t, Off P78 s t → Gr A N w J (t 27) → k t) : wX7_turns v w s k := by
  have hnb := hm.1
  have htm : Int.tmod w 4 = J := by rw [Int.tmod_eq_emod_of_nonneg hw.1]; exact hJ
  have rot : ∀ (q j : Nat) (t : Hp), j + q = J → Off P78 s t → Gr A N w j (t 27) → wX7_turns_53 k (q + 1) w N j t := by
    intro q
    induction q with
    | zero =>
      intro j t hj ht hg
      obtain rfl : j = J := by omega
      exact ⟨zr (by omega) (by omega), zr (by omega) (by omega), by rw [htm]; exact zr (by omega) (by omega), fun _ => hk t ht hg, fun hc => by rw [htm] at hc; omega⟩
    | succ q ih =>
      intro j t hj ht hg
      refine ⟨zr (by omega) (by omega), zr (by omega) (by omega), by rw [htm]; exact zr (by omega) (by omega), fun hc => by rw [htm] at hc; omega, fun _ => ⟨N + 1, ?_⟩⟩
      refine turns_64_s (s := t) (by omega) (Gr_r h1 h2 hg) (Gr_i h1 h2 hg) (fun u hu hu2 => ?_) N 0 t (by omega) (Off.rf _ _) rfl (fun i hi => absurd hi (by omega))
      have ih := ih (j + 1) u (by omega) (ht.tr hu) (fun x hx => by
        have b := pt_r (w := w) h1 j x hx
        have := hu2 (pt A N w j x).1.toNat (by omega)
        rw [hg x hx] at this
        show u 27 (pt A N w j x).2.toNat = (N : Int) - 1 - (pt A N w j x).1
        rw [this]
        omega)
      rw [show ((j + 1 : Nat) : Int) = (j : Int) + 1 by omega] at ih
      exact ih
  have first : ∀ (q x : Nat) (t : Hp), x + q = N → Off P78 s t → (∀ i, i < x → t 27 i = A (if w < 4 then i else N - 1 - i)) → wX7_turns_10 k (q + 1) v w N x t := by
    intro q
    induction q with
    | zero =>
      intro x t hx ht hg
      obtain rfl : x = N := by omega
      refine ⟨zr (by omega) (by omega), zr (by omega) (by omega), fun _ => ⟨_, rot J 0 t (by omega) ht (fun y hy => ?_)⟩, fun hc => by omega⟩
      show t 27 (if w < 4 then (y : Int) else (x : Int) - 1 - y).toNat = A y
      by_cases c : w < 4
      · rw [if_pos c, Int.toNat_natCast, hg y hy, if_pos c]
      · rw [if_neg c, hg _ (by omega), if_neg c]
        congr 1
        omega
    | succ q ih =>
      intro x t hx ht hg
      have e18 : t 18 = s 18 := ht 18 (by unfold P78; omega)
      have e20 : t 20 = s 20 := ht 20 (by unfold P78; omega)
      have ema : ∀ y : Int, ma t v.toNat y = ma s v.toNat y := fun y => by unfold ma; rw [e18, e20]
      have go : ∀ y : Nat, y < N → A y = A (if w < 4 then x else N - 1 - x) → wX7_turns_40 k (fun v1 v2 v3 v4 σ => wX7_turns_10 k (q + 1) v1 v2 v3 v4 σ) v w N x y v x t := fun y hy e => by
        unfold wX7_turns_40
        refine at_s h0 h5 (by rw [e18]; exact hm.1) (zr (by omega) (by omega)) ⟨⟨by omega, by omega⟩, ?_⟩
        rw [ema, hA y hy, Int.toNat_natCast]
        have ih := ih (x + 1) (zst t 27 x (A y)) (by omega) (ht.st (Or.inl rfl)) (fun i hi => by
          by_cases e2 : i = x
          · subst e2; rw [zst_s, e]
          · rw [zst_n (Or.inr e2), hg i (by omega)])
        rw [show ((x + 1 : Nat) : Int) = (x : Int) + 1 by omega] at ih
        exact ih
      refine ⟨zr (by omega) (by omega), zr (by omega) (by omega), fun hc => by omega, fun _ => ⟨zr (by omega) (by omega), fun hc => ?_, fun hc => ?_⟩⟩
      · exact go x (by omega) (by rw [if_pos (by omega)])
      · rw [show (N : Int) - 1 - x = ((N - 1 - x : Nat) : Int) by omega]
        exact go (N - 1 - x) (by omega) (by rw [if_neg (by omega)])
  refine ⟨⟨by omega, by omega⟩, ?_⟩
  rw [hN]
  exact ⟨_, first N 0 s (by omega) (Off.rf _ _) (fun i hi => absurd hi (by omega))⟩
theorem zst_id (s : Hp) (p j : Nat) : zst s p j (s p j) = s := by
  funext q t
  by_cases h : q = p ∧ t = j
  · obtain ⟨rfl, rfl⟩ := h
    exact zst_s _ _ _ _
  · exact zst_n (by omega)
theorem mf_id {s : Hp} {k : Nat} {n m : Int} (f : Nat → Int) (h1 : s 18 k = n) (h2 : s 19 k = m) : mf s k n m f 0 = s := by
  rw [← mf_0, ← h1, zst_id, ← h2, zst_id]
/-- what a square row is, in both -/
theorem sq_facts {σ : Hp} {r N : Nat} (hR : RW σ r) (hN : σ (29 + r) 0 = N) (hnm : σ (29 + r) 0 = σ (29 + r) 1) (hq : SqA (fun x => ra σ r x) (σ (29 + r) 0).toNat) : (∀ x : Nat, x < N → 0 ≤ ra σ r x ∧ ra σ r x < N) ∧ ∀ i j : Nat, i < N → j < N → ra σ r i = ra σ r j → i = j := by
  rw [hN, Int.toNat_natCast] at hq
  refine ⟨fun x hx => ?_, fun i j hi hj e => hq.2 i j hi hj e⟩
  rcases ra_v hR (x : Int) with h | h
  · omega
  · exact absurd h (hq.1 x hx)
theorem MW_eq {σ s : Hp} {k : Nat} (h : MW σ k) (e1 : s 18 = σ 18) (e2 : s 19 = σ 19) (e3 : s 20 = σ 20) : MW s k := by
  unfold MW
  rw [e1, e2, e3]
  exact h
theorem ma_eq {σ s : Hp} {k : Nat} (e1 : s 18 = σ 18) (e3 : s 20 = σ 20) : ma s k = ma σ k := by
  funext x
  unfold ma
  rw [e1, e3]
theorem CSet.m {σ s : Hp} {r : Nat} {n m : Int} {A : Nat → Int} (h : CSet σ s r n m A) (p : Nat) (hp : 18 ≤ p ∧ p ≤ 20) : s p = σ p := funext (fun j => h.1 p j (by unfold keep; omega) (by omega) (by omega))
theorem T_turn {K : Hp → Prop} (hK : ∀ σ, Inv σ → K σ) {v1 v2 : Int} (h1 : zrg v1) (h2 : zrg v2) {σ : Hp} (hI : Inv σ) : wX6_turn v1 v2 σ (fun a s => wX7_turn v1 v2 s (fun b t => zrg a ∧ zrg b ∧ ((a = b → K t) ∧ (¬ (a = b) → False)))) := by
  have fok : zrg (-1) ∧ zrg (-1) ∧ (((-1 : Int) = -1 → K σ) ∧ (¬ ((-1 : Int) = -1) → False)) := fin rfl (zrg_d rfl) (hK _ hI)
  have bad : v1 < 0 ∨ 5 < v1 ∨ v2 < 0 ∨ 7 < v2 → wX7_turn v1 v2 σ (fun b t => zrg (-1) ∧ zrg b ∧ (((-1) = b → K t) ∧ (¬ ((-1) = b) → False))) := fun hb => by
    refine isRow_br h1 (fun _ => fok) (fun a1 a2 => ⟨h2, ?_⟩)
    exact ibrn h2 (zrg_d rfl) (zrg_d rfl) (fun _ => fok) (fun d1 d2 => by omega)
  unfold wX6_turn
  refine rowAt_br h1 (fun hc => bad (by omega)) (fun a1 a2 => ?_)
  refine wbrn h2 (zrg_d rfl) (zrg_d rfl) (fun hc => bad (by omega)) (fun d1 d2 => ?_)
  have hr := hI.row a1 a2
  have hv6 : v1.toNat < 6 := by omega
  have hnb := hr.1.1
  refine isSquare_s hr.1 (fun hnm hq => b1n ?_) (fun hno => b0n ?_)
  · obtain ⟨N, hN⟩ : ∃ N : Nat, σ (29 + v1.toNat) 0 = (N : Int) := ⟨(σ (29 + v1.toNat) 0).toNat, by omega⟩
    obtain ⟨J, hJ⟩ : ∃ J : Nat, v2 % 4 = (J : Int) := ⟨(v2 % 4).toNat, by omega⟩
    obtain ⟨q1, q2⟩ := sq_facts hr.1 hN hnm hq
    refine turnInto_s hv6 ⟨d1, d2⟩ hJ hr.1 hN q1 q2 (fun s hs s0 s1 sg => ?_)
    have sr := Gr_r (A := fun x => ra σ v1.toNat x) q1 q2 sg
    have hR6 : RW s 6 := ⟨by show 1 ≤ s 35 0 ∧ s 35 0 ≤ 12; omega, by show 1 ≤ s 35 1 ∧ s 35 1 ≤ 12; omega, fun x hx => Or.inl (by
      have hx' : (x : Int) < s 35 0 := hx
      have := sr x (by omega)
      show 0 ≤ s 42 x ∧ s 42 x < s 35 1
      omega)⟩
    refine copyFrom_s (N := N) (m := N) (by omega) (by omega) (by omega) hR6 s0 s1 ?_
    have hp := pf_set (σ := s) (r := v1.toNat) (n := N) (m := N) (f := fun x => ra s 6 x) (i := N) rfl (by omega)
    have hC : CSet σ (pf s v1.toNat N N (fun x => ra s 6 x) N) v1.toNat N N (s 42) := by
      refine ⟨fun p j hk a b => ?_, hp.2.1, hp.2.2.1, fun x hx => ?_⟩
      · rw [hp.1 p j hk a b, hs p (by unfold keep at hk; unfold P6; omega)]
      · rw [hp.2.2.2 x hx]
        have e6 : ra s 6 x = s 42 x := by
          unfold ra
          rw [if_pos (by rw [show s (29 + 6) 0 = s 35 0 from rfl, s0]; omega), Int.toNat_natCast]
        show cl N (ra s 6 x) = s 42 x
        rw [e6]
        exact if_pos (sr x (by omega))
    generalize pf s v1.toNat N N (fun x => ra s 6 x) N = u at *
    show wX7_turn v1 v2 u (fun b t => zrg (u (29 + v1.toNat) 0) ∧ zrg b ∧ ((u (29 + v1.toNat) 0 = b → K t) ∧ (¬ (u (29 + v1.toNat) 0 = b) → False)))
    rw [hC.2.1]
    have u18 := hC.m 18 (by omega)
    have u19 := hC.m 19 (by omega)
    have u20 := hC.m 20 (by omega)
    have hMu : MW u v1.toNat := MW_eq hr.mw u18 u19 u20
    have emu : ∀ x : Int, ma u v1.toNat x = ra σ v1.toNat x := fun x => by rw [ma_eq u18 u20, hr.mra]
    have hN18 : u 18 v1.toNat = N := by rw [u18, hr.2.1, hN]
    have hN19 : u 19 v1.toNat = N := by rw [u19, hr.2.2.1, ← hnm, hN]
    refine isRow_br h1 (fun hc => by omega) (fun _ _ => ⟨h2, ?_⟩)
    refine ibrn h2 (zrg_d rfl) (zrg_d rfl) (fun hc => by omega) (fun _ _ => ?_)
    have hsqm : SqA (fun x => ma u v1.toNat x) (u 18 v1.toNat).toNat := by
      rw [hN18, Int.toNat_natCast]
      rw [hN, Int.toNat_natCast] at hq
      exact (SqA_congr (fun x hx => emu x)).mpr hq
    refine isSquare_m a1 a2 hMu (fun t ht _ _ => b1n ?_) (fun t ht hno => absurd ⟨by rw [hN18, hN19], hsqm⟩ hno)
    have t18 : t 18 = u 18 := ht 18 (by unfold P24; omega)
    have t19 : t 19 = u 19 := ht 19 (by unfold P24; omega)
    have t20 : t 20 = u 20 := ht 20 (by unfold P24; omega)
    refine turns_s (A := fun x => ra σ v1.toNat x) a1 a2 ⟨d1, d2⟩ hJ (MW_eq hMu t18 t19 t20) (by rw [t18, hN18]) (fun x hx => by rw [ma_eq t18 t20, emu]) q1 q2 (fun y hy yg => ?_)
    have y18 : y 18 = t 18 := hy 18 (by unfold P78; omega)
    have y19 : y 19 = t 19 := hy 19 (by unfold P78; omega)
    have huy : Same u y := (ht.same (fun p j hk => by unfold keep at hk; unfold P24; omega)).tr (hy.same (fun p j hk => by unfold keep at hk; unfold P78; omega))
    have eq := Gr_u (A := fun x => ra σ v1.toNat x) q1 q2 sg yg
    have key : ∀ (q x : Nat), x + q = N → wX7_turn_40 (fun b t => zrg (N : Int) ∧ zrg b ∧ (((N : Int) = b → K t) ∧ (¬ ((N : Int) = b) → False))) (q + 1) v1 x (mf y v1.toNat N N (s 42) x) := by
      intro q
      have m18 : ∀ x, mf y v1.toNat N N (s 42) x 18 v1.toNat = N := fun x => by simp [mf]
      induction q with
      | zero =>
        intro x hx
        obtain rfl : x = N := by omega
        refine ⟨⟨by omega, by omega⟩, zr (by omega) (by omega), by rw [m18]; exact zr (by omega) (by omega), fun _ => ?_, fun hc => by rw [m18] at hc; omega⟩
        rw [m18]
        exact fin rfl (zr (by omega) (by omega)) (hK _ (hI.set hv6 ⟨by omega, by omega, fun x hx => Or.inl (sr x (by omega))⟩ (hC.tr hv6 huy) (mf_set rfl (by omega))))
      | succ q ih =>
        intro x hx
        refine ⟨⟨by omega, by omega⟩, zr (by omega) (by omega), by rw [m18]; exact zr (by omega) (by omega), fun hc => by rw [m18] at hc; omega, fun _ => ⟨⟨by omega, by omega⟩, ⟨by omega, by omega⟩, ?_⟩⟩
        rw [Int.toNat_natCast, mf_o (by decide), ← eq x (by omega), show (12 * v1 + (x : Int)).toNat = 12 * v1.toNat + x by omega, mf_step]
        have ih := ih (x + 1) (by omega)
        rw [show ((x + 1 : Nat) : Int) = (x : Int) + 1 by omega] at ih
        exact ih
    have st := key N 0 (by omega)
    rw [mf_id (s 42) (by rw [y18, t18, hN18]) (by rw [y19, t19, hN19])] at st
    exact ⟨_, st⟩
  · refine isRow_br h1 (fun hc => by omega) (fun _ _ => ⟨h2, ?_⟩)
    refine ibrn h2 (zrg_d rfl) (zrg_d rfl) (fun hc => by omega) (fun _ _ => ?_)
    refine isSquare_r a1 a2 hr (fun t ht c1 c2 => absurd ⟨c1, c2⟩ hno) (fun t ht _ => b0n ?_)
    exact fin rfl (zrg_d rfl) (hK _ (hI.same (ht.same (fun p j hk => by unfold keep at hk; unfold P24; omega))))
