/-! lay(), at last -/
theorem IRow.of_eq {σ σ' : Hp} {k : Nat} (h : IRow σ k) (e1 : ∀ j, σ' (29 + k) j = σ (29 + k) j) (e2 : ∀ j, σ' (36 + k) j = σ (36 + k) j) (e3 : σ' 18 k = σ 18 k) (e4 : σ' 19 k = σ 19 k) (e5 : ∀ x, x < 12 → σ' 20 (12 * k + x) = σ 20 (12 * k + x)) : IRow σ' k := by
  obtain ⟨⟨h1, h2, h3⟩, h4, h5, h6⟩ := h
  refine ⟨⟨by rw [e1]; exact h1, by rw [e1]; exact h2, fun x hx => ?_⟩, ?_, ?_, fun x hx => ?_⟩
  · rw [e1] at hx; rw [e1, e2]; exact h3 x hx
  · rw [e1, e3]; exact h4
  · rw [e1, e4]; exact h5
  · rw [e1] at hx; rw [e2, e5 x (by omega)]; exact h6 x hx
theorem IText.of_eq {σ σ' : Hp} (h : IText σ) (e1 : σ' 2 1 = σ 2 1) (e2 : σ' 17 3 = σ 17 3) (e3 : ∀ i, σ' 3 i = σ 3 i) (e4 : ∀ i, σ' 21 i = σ 21 i) : IText σ' := by
  obtain ⟨h1, h2, h3⟩ := h
  refine ⟨by rw [e1]; exact h1, by rw [e1, e2]; exact h2, fun i hi => ?_⟩
  rw [e1] at hi
  rw [e3, e4]
  exact h3 i hi
theorem IEcho.of_eq {σ σ' : Hp} (h : IEcho σ) (e1 : σ' 12 2 = σ 12 2) (e2 : σ' 17 5 = σ 17 5) (e3 : ∀ i, σ' 13 i = σ 13 i) (e4 : ∀ i, σ' 14 i = σ 14 i) (e5 : ∀ i, σ' 22 i = σ 22 i) (e6 : ∀ i, σ' 23 i = σ 23 i) : IEcho σ' := by
  obtain ⟨h1, h2, h3, h4⟩ := h
  refine ⟨by rw [e1]; exact h1, by rw [e1, e2]; exact h2, fun i hi => ?_, fun i j hi hj => ?_⟩
  · rw [e1] at hi
    rw [e3, e4, e5, e6]
    exact h3 i hi
  · rw [e1] at hi hj
    rw [e3, e4, e3, e4]
    exact h4 i j hi hj
theorem mlay_chk {m : Int} {R : Nat} {s : Hp} {kk : Int → Hp → Prop} (hm1 : 1 ≤ m) (hm2 : m ≤ 12) (hR6 : R ≤ 6) (hR : s 17 12 = (R : Int)) (hw : ∀ k, k < R → 1 ≤ s 26 k ∧ s 26 k ≤ 12) (hv : ∀ k, k < R → ∀ x : Nat, (x : Int) < s 26 k → 0 ≤ s 25 (12 * k + x) ∧ s 25 (12 * k + x) ≤ 15) (hbad : ∀ k, k < R → ∀ x : Nat, (x : Int) < s 26 k → m ≤ s 25 (12 * k + x) ∧ s 25 (12 * k + x) ≤ 14 → kk (-2) s) (hok : (∀ k, k < R → ∀ x : Nat, (x : Int) < s 26 k → ¬ (m ≤ s 25 (12 * k + x) ∧ s 25 (12 * k + x) ≤ 14)) → ∃ n, wX7_lay_88 kk n m 0 s) : ∀ (q k : Nat), k + q = R → (∀ i, i < k → ∀ x : Nat, (x : Int) < s 26 i → ¬ (m ≤ s 25 (12 * i + x) ∧ s 25 (12 * i + x) ≤ 14)) → wX7_lay_28 kk (q + 1) m k s := by
  intro q
  induction q with
  | zero =>
    intro k hkq hd
    obtain rfl : k = R := by omega
    unfold wX7_lay_28
    rw [hR]
    exact ⟨zr (by omega) (by omega), zr (by omega) (by omega), fun _ => hok hd, fun hc => by omega⟩
  | succ q ih =>
    intro k hkq hd
    unfold wX7_lay_28
    rw [hR]
    refine ⟨zr (by omega) (by omega), zr (by omega) (by omega), fun hc => by omega, fun _ => ⟨_, mlay_in (k := (k : Int)) (s := s) (by omega) (by omega) hm1 hm2 ?_ ?_ ?_ ?_ (s 26 (k : Int).toNat).toNat 0 (by omega) (fun y hy => by omega)⟩⟩
    · rw [Int.toNat_natCast]; exact hw k (by omega)
    · rw [Int.toNat_natCast]; exact hv k (by omega)
    · rw [Int.toNat_natCast]; exact hbad k (by omega)
    · rw [Int.toNat_natCast]
      intro hn
      have := ih (k + 1) (by omega) (fun i hi x hx => by
        rcases Nat.lt_or_ge i k with hlt | hge
        · exact hd i hlt x hx
        · rw [show i = k by omega] at hx ⊢; exact hn x hx)
      rw [show ((k + 1 : Nat) : Int) = (k : Int) + 1 by omega] at this
      exact this
theorem T_lay {K : Hp → Prop} (hK : ∀ σ, Inv σ → K σ) {v1 : Int} (h1 : zrg v1) {σ : Hp} (hI : Inv σ) : wX6_lay v1 σ (fun a s => wX7_lay v1 s (fun b t => zrg a ∧ zrg b ∧ ((a = b → K t) ∧ (¬ (a = b) → False)))) := by
  have hT := hI.2.1
  have hl := hT.1
  have hM := hT.m
  have hX : XText σ (σ 3) (σ 2 1).toNat := ⟨by omega, by omega, fun i hi => ⟨(hT.2.2 i (by omega)).1, rfl⟩⟩
  unfold wX6_lay
  refine wbrn h1 (zrg_d rfl) (zrg_d rfl) (fun hc => ?_) (fun a1 a2 => ?_)
  · exact ⟨h1, ibrn h1 (zrg_d rfl) (zrg_d rfl) (fun _ => fin rfl (zrg_d rfl) (hK _ hI)) (fun b1 b2 => by omega)⟩
  rcases tg_or (σ 3) (σ 2 1).toNat with hall | ⟨i0, c1, c2, c3⟩
  · have bd := t_bd (σ 3) (σ 2 1).toNat hall
    by_cases h0 : tC (σ 3) (σ 2 1).toNat = 0
    · -- no fault
      refine ⟨_, xff_n (k := _) hT (fun j hj => hall j (by omega)) ?_ (σ 2 1).toNat 0 (by omega)⟩
      rw [if_pos (by omega)]
      refine ⟨zrg_d rfl, fun hc => absurd rfl hc, fun _ => highest_s hX ?_⟩
      have mxl := mx_lt (σ 3) (m := v1) (by omega) (σ 2 1).toNat
      by_cases hlt : mx (σ 3) (σ 2 1).toNat < v1
      · have hokb := mxl.2.mp hlt
        refine ⟨zr (by omega) (by omega), h1, fun _ => ?_, fun hc => absurd hlt hc⟩
        have cl0 : CL σ σ (σ 3) v1 0 := ⟨fun p j _ _ => rfl, fun j hj => by omega⟩
        have hx := xlay (k := fun a s => wX7_lay v1 s (fun b t => zrg a ∧ zrg b ∧ ((a = b → K t) ∧ (¬ (a = b) → False)))) hX hall a1 a2 hokb (fun s hs => ?_) (σ 2 1).toNat 0 σ (by omega) cl0
        · exact ⟨_, hx⟩
        · -- the reference on s
          generalize hb : σ 3 = b at *
          generalize hlen : (σ 2 1).toNat = len at *
          have soM : ∀ p j, p < 29 → s p j = σ p j := fun p j hp => hs.1 p j (by omega) (by omega)
          have hMs : MText s b len := by
            obtain ⟨m1, m2, m3⟩ := hM
            refine ⟨by rw [soM 17 3 (by decide)]; exact m1, m2, fun i hi => ?_⟩
            rw [soM 21 i (by decide)]
            exact m3 i hi
          refine ⟨h1, ibrn h1 (zrg_d rfl) (zrg_d rfl) (fun hc => by omega) (fun _ _ => ?_)⟩
          refine ⟨_, mff_n hMs hall (fun u hu => ?_) len 0 _ (by omega) (RS_0 s b)⟩
          rw [if_pos (by omega)]
          refine ⟨zrg_d rfl, fun _ => ?_, fun hc => absurd rfl hc⟩
          obtain ⟨rd1, rd2⟩ := mread hall h0 hu
          obtain ⟨R, hRe⟩ : ∃ R : Nat, tE b len = (R : Int) := ⟨(tE b len).toNat, by omega⟩
          have hR : u 17 12 = (R : Int) := hu.2.1.trans hRe
          have hw : ∀ k, k < R → 1 ≤ u 26 k ∧ u 26 k ≤ 12 := fun k hk => by
            obtain ⟨p, q1, q2, q3, q4, q5, q6⟩ := rd1 k (by omega)
            rw [q4]; exact q5
          have hv : ∀ k, k < R → ∀ x : Nat, (x : Int) < u 26 k → 0 ≤ u 25 (12 * k + x) ∧ (u 25 (12 * k + x) < v1 ∨ u 25 (12 * k + x) = 15) := fun k hk x hx => by
            obtain ⟨p, q1, q2, q3, q4, q5, q6⟩ := rd1 k (by omega)
            rw [q4] at hx
            obtain ⟨j, r1, r2, r3⟩ := q6 x hx
            rw [r3]
            have := lo_b (b j)
            have := hokb j r1
            omega
          refine ⟨_, mlay_chk a1 a2 (by omega) hR hw (fun k hk x hx => by have := hv k hk x hx; omega) (fun k hk x hx hc => by have := hv k hk x hx; omega) (fun _ => ⟨_, mlay_all (by omega) hR hw (fun t ht => ?_) R 0 u (by omega) ⟨fun p j _ _ => rfl, fun i hi => by omega⟩⟩) R 0 (by omega) (fun i hi => by omega)⟩
          -- the end
          refine fin hRe (zr (by omega) (by omega)) (hK _ ?_)
          have tu : ∀ p j, p ≠ 18 → p ≠ 19 → p ≠ 20 → t p j = u p j := fun p j c1 c2 c3 => ht.1 p j (by omega) (by omega)
          have us : ∀ p j, p ≠ 25 → p ≠ 26 → (p ≠ 17 ∨ j ≠ 12) → u p j = s p j := hu.1
          have tS : ∀ p j, (p ≠ 18 ∧ p ≠ 19 ∧ p ≠ 20 ∧ p ≠ 25 ∧ p ≠ 26) → (p ≠ 17 ∨ j ≠ 12) → t p j = s p j := fun p j c1 c2 => (tu p j c1.1 c1.2.1 c1.2.2.1).trans (us p j c1.2.2.2.1 c1.2.2.2.2 c2)
          refine ⟨fun k hk => ?_, ?_, ?_⟩
          · by_cases hkR : k < R
            · obtain ⟨p, q1, q2, q3, q4, q5, q6⟩ := rd1 k (by omega)
              obtain ⟨g1, g2, g3⟩ := hs.2 p q1 q2
              have bp := t_bd b p (fun j hj => hall j (by omega))
              rw [q3, Int.toNat_natCast] at g1 g2 g3
              obtain ⟨f1, f2, f3⟩ := ht.2 k hkR
              have e0 : t (29 + k) 0 = tC b p := (tS _ _ (by omega) (by omega)).trans g1
              have e1 : t (29 + k) 1 = v1 := (tS _ _ (by omega) (by omega)).trans g2
              have e2 : ∀ x : Nat, (x : Int) < tC b p → t (36 + k) x = u 25 (12 * k + x) := fun x hx => by
                rw [tS _ _ (by omega) (by omega), g3 x hx]
                obtain ⟨j, r1, r2, r3⟩ := q6 x hx
                rw [r3, show p - (tC b p).toNat + x = j by omega]
              refine ⟨⟨by rw [e0]; exact q5, by rw [e1]; omega, fun x hx => ?_⟩, by rw [e0, f1, q4], by rw [e1, f2], fun x hx => ?_⟩
              · rw [e0] at hx
                have := hv k hkR x (by rw [q4]; exact hx)
                rw [e1, e2 x hx]
                omega
              · rw [e0] at hx
                rw [e2 x hx, f3 x (by rw [q4]; exact hx)]
            · have tk : ∀ p j, 18 ≤ p → p ≤ 20 → u p j = σ p j := fun p j c1 c2 => (us p j (by omega) (by omega) (by omega)).trans (soM p j (by omega))
              refine (hI.1 k hk).of_eq (fun j => ?_) (fun j => ?_) ?_ ?_ (fun x hx => ?_)
              · rw [tS _ j (by omega) (by omega)]
                exact hs.1 _ j (by omega) (by omega)
              · rw [tS _ j (by omega) (by omega)]
                exact hs.1 _ j (by omega) (by omega)
              · rw [ht.1 18 k (by omega) (by omega)]; exact tk 18 k (by omega) (by omega)
              · rw [ht.1 19 k (by omega) (by omega)]; exact tk 19 k (by omega) (by omega)
              · rw [ht.1 20 _ (by omega) (by omega)]; exact tk 20 _ (by omega) (by omega)
          · have tx : ∀ p j, p < 29 → (p ≠ 18 ∧ p ≠ 19 ∧ p ≠ 20 ∧ p ≠ 25 ∧ p ≠ 26) → (p ≠ 17 ∨ j ≠ 12) → t p j = σ p j := fun p j c0 c1 c2 => (tS p j c1 c2).trans (soM p j c0)
            exact hT.of_eq (tx 2 1 (by decide) (by decide) (by decide)) (tx 17 3 (by decide) (by decide) (by decide)) (fun i => tx 3 i (by decide) (by decide) (Or.inl (by decide))) (fun i => tx 21 i (by decide) (by decide) (Or.inl (by decide)))
          · have tx : ∀ p j, p < 29 → (p ≠ 18 ∧ p ≠ 19 ∧ p ≠ 20 ∧ p ≠ 25 ∧ p ≠ 26) → (p ≠ 17 ∨ j ≠ 12) → t p j = σ p j := fun p j c0 c1 c2 => (tS p j c1 c2).trans (soM p j c0)
            exact hI.2.2.of_eq (tx 12 2 (by decide) (by decide) (by decide)) (tx 17 5 (by decide) (by decide) (by decide)) (fun i => tx 13 i (by decide) (by decide) (Or.inl (by decide))) (fun i => tx 14 i (by decide) (by decide) (Or.inl (by decide))) (fun i => tx 22 i (by decide) (by decide) (Or.inl (by decide))) (fun i => tx 23 i (by decide) (by decide) (Or.inl (by decide)))
      · -- a line beyond m
        refine ⟨zr (by omega) (by omega), h1, fun hc => absurd hc hlt, fun _ => ?_⟩
        refine ⟨h1, ibrn h1 (zrg_d rfl) (zrg_d rfl) (fun hc => by omega) (fun _ _ => ?_)⟩
        refine ⟨_, mff_n hM hall (fun u hu => ?_) (σ 2 1).toNat 0 _ (by omega) (RS_0 σ (σ 3))⟩
        rw [if_pos (by omega)]
        refine ⟨zrg_d rfl, fun _ => ?_, fun hc => absurd rfl hc⟩
        obtain ⟨rd1, rd2⟩ := mread hall h0 hu
        obtain ⟨R, hRe⟩ : ∃ R : Nat, tE (σ 3) (σ 2 1).toNat = (R : Int) := ⟨(tE (σ 3) (σ 2 1).toNat).toNat, by omega⟩
        have hR : u 17 12 = (R : Int) := hu.2.1.trans hRe
        have hw : ∀ k, k < R → 1 ≤ u 26 k ∧ u 26 k ≤ 12 := fun k hk => by
          obtain ⟨p, q1, q2, q3, q4, q5, q6⟩ := rd1 k (by omega)
          rw [q4]; exact q5
        have hv : ∀ k, k < R → ∀ x : Nat, (x : Int) < u 26 k → 0 ≤ u 25 (12 * k + x) ∧ u 25 (12 * k + x) ≤ 15 := fun k hk x hx => by
          obtain ⟨p, q1, q2, q3, q4, q5, q6⟩ := rd1 k (by omega)
          rw [q4] at hx
          obtain ⟨j, r1, r2, r3⟩ := q6 x hx
          rw [r3]
          have := lo_b (σ 3 j)
          omega
        have fok : zrg (-2) ∧ zrg (-2) ∧ (((-2 : Int) = -2 → K u) ∧ (¬ ((-2 : Int) = -2) → False)) := fin rfl (zrg_d rfl) (hK _ (hI.same hu.same))
        refine ⟨_, mlay_chk a1 a2 (by omega) hR hw hv (fun k hk x hx hc => fok) (fun hnone => ?_) R 0 (by omega) (fun i hi => by omega)⟩
        exfalso
        refine hlt (mxl.2.mpr (fun j hj => ?_))
        have hlo := lo_b (σ 3 j)
        by_cases h5 : σ 3 j = 59
        · left; rw [h5]; rfl
        · obtain ⟨r1, r2, r3, r4⟩ := rd2 j hj h5
          have bj := t_bd (σ 3) j (fun q hq => hall q (by omega))
          have := hnone (tE (σ 3) j).toNat (by omega) (tC (σ 3) j).toNat (by omega)
          rw [r4] at this
          omega
    · refine ⟨_, xff_n (k := _) hT (fun j hj => hall j (by omega)) ?_ (σ 2 1).toNat 0 (by omega)⟩
      rw [if_neg (by omega)]
      refine ⟨zr (by omega) (by omega), fun _ => ?_, fun hc => by omega⟩
      refine ⟨h1, ibrn h1 (zrg_d rfl) (zrg_d rfl) (fun hc => by omega) (fun _ _ => ?_)⟩
      refine ⟨_, mff_n hM hall (fun u hu => ?_) (σ 2 1).toNat 0 _ (by omega) (RS_0 σ (σ 3))⟩
      rw [if_neg (by omega)]
      exact ⟨zr (by omega) (by omega), fun hc => by omega, fun _ => fin rfl (zrg_d rfl) (hK _ (hI.same hu.same))⟩
  · refine ⟨_, xff_f (k := _) hT (by omega) c2 c3 ?_ (σ 2 1).toNat 0 (by omega) (by omega)⟩
    refine ⟨zr (by omega) (by omega), fun _ => ?_, fun hc => by omega⟩
    refine ⟨h1, ibrn h1 (zrg_d rfl) (zrg_d rfl) (fun hc => by omega) (fun _ _ => ?_)⟩
    refine ⟨_, mff_f hM c1 c2 c3 (fun u hu => ?_) (σ 2 1).toNat 0 _ (by omega) (by omega) (RS_0 σ (σ 3))⟩
    exact ⟨zr (by omega) (by omega), fun hc => by omega, fun _ => fin rfl (zrg_d rfl) (hK _ (hI.same hu.same))⟩
