/-! like() -/
theorem gr_ex {A : Nat → Int} {N : Nat} {w : Int} {j : Nat} (h1 : ∀ x, x < N → 0 ≤ A x ∧ A x < N) (h2 : ∀ i j, i < N → j < N → A i = A j → i = j) : ∃ G, Gr A N w j G := by
  refine ⟨fun u => if h : ∃ x, x < N ∧ (pt A N w j x).1 = u then (pt A N w j (Classical.choose h)).2 else 0, fun x hx => ?_⟩
  have b := pt_r (w := w) h1 j x hx
  have hex : ∃ y, y < N ∧ (pt A N w j y).1 = ((pt A N w j x).1.toNat : Nat) := ⟨x, hx, by omega⟩
  have hc := Classical.choose_spec hex
  show (if h : ∃ y, y < N ∧ (pt A N w j y).1 = ((pt A N w j x).1.toNat : Nat) then (pt A N w j (Classical.choose h)).2 else 0) = _
  rw [dif_pos hex, (pt_i (w := w) h2 j (Classical.choose hex) x hc.1 hx).1 (by rw [hc.2]; omega)]
def nq (C : Nat → Int) (j i : Nat) : Int := if C i = C j then 1 else 0
def nw (C : Nat → Int) (j : Nat) : Int := if zs (nq C j) j = 0 then 1 else 0
theorem nq_b (C : Nat → Int) (j n : Nat) : 0 ≤ zs (nq C j) n ∧ zs (nq C j) n ≤ 1 * n := zs_b (by decide) n (fun i _ => by unfold nq; split <;> omega)
theorem isNew_s {C : Nat → Int} {s : Hp} {j : Nat} {k : Int → Hp → Prop} (hj : j < 8) (hC : ∀ i, i ≤ j → s 16 i = C i) (hz : ∀ i, zrl (C i)) (hk : k (nw C j) s) : wX6_isNewTurning j s k := by
  have key : ∀ (q i : Nat), i + q = j → zs (nq C j) i = 0 → wX6_isNewTurning_2 k (q + 1) j i s := by
    intro q
    induction q with
    | zero =>
      intro i hi h0
      obtain rfl : i = j := by omega
      rw [show nw C i = 1 from if_pos h0] at hk
      exact ⟨zr (by omega) (by omega), zr (by omega) (by omega), fun _ => hk, fun hc => by omega⟩
    | succ q ih =>
      intro i hi h0
      refine ⟨zr (by omega) (by omega), zr (by omega) (by omega), fun hc => by omega, fun _ => ⟨⟨by omega, by omega⟩, ⟨by omega, by omega⟩, ?_⟩⟩
      rw [Int.toNat_natCast, Int.toNat_natCast, hC i (by omega), hC j (by omega)]
      have es : zs (nq C j) (i + 1) = zs (nq C j) i + nq C j i := rfl
      refine ⟨hz i, hz j, fun hc => ?_, fun hc => ?_⟩
      · have ih := ih (i + 1) (by omega) (by rw [es, h0, show nq C j i = 0 from if_neg hc]; rfl)
        rw [show ((i + 1 : Nat) : Int) = (i : Int) + 1 by omega] at ih
        exact ih
      · have e1 : nq C j i = 1 := if_pos (Classical.not_not.mp hc)
        have mono := zs_mono (h := nq C j) (fun y => by unfold nq; split <;> omega) (j - (i + 1)) (i + 1)
        rw [show i + 1 + (j - (i + 1)) = j by omega] at mono
        rw [show nw C j = 0 from if_neg (by omega)] at hk
        exact hk
  exact ⟨_, key j 0 (by omega) rfl⟩
theorem code_s {t : Hp} {N : Nat} {k : Int → Hp → Prop} (hN : N ≤ 12) (hb : ∀ x, x < N → 0 ≤ t 27 x ∧ t 27 x ≤ 15) (hk : k (pk (t 27) N) t) : wX7_code N t k := by
  have key : ∀ (q x : Nat), x + q = N → wX7_code_5 k (q + 1) N (pk (t 27) x) x t := by
    intro q
    induction q with
    | zero =>
      intro x hx
      obtain rfl : x = N := by omega
      exact ⟨zr (by omega) (by omega), zr (by omega) (by omega), fun _ => hk, fun hc => by omega⟩
    | succ q ih =>
      intro x hx
      have b := hb x (by omega)
      have ih := ih (x + 1) (by omega)
      rw [show ((x + 1 : Nat) : Int) = (x : Int) + 1 by omega] at ih
      refine ⟨zr (by omega) (by omega), zr (by omega) (by omega), fun hc => by omega, fun _ => ⟨⟨by omega, by omega⟩, ?_⟩⟩
      rw [Int.toNat_natCast]
      exact ⟨zr (by omega) (by omega), ih⟩
  exact ⟨_, key N 0 (by omega)⟩
def P616 (q : Nat) : Prop := q = 16 ∨ q = 35 ∨ q = 42
theorem like_x {σ : Hp} {r N : Nat} {C : Nat → Int} {k : Int → Hp → Prop} (hr : r < 6) (hR : RW σ r) (hN : σ (29 + r) 0 = N) (h1 : ∀ x : Nat, x < N → 0 ≤ ra σ r x ∧ ra σ r x < N) (h2 : ∀ i j : Nat, i < N → j < N → ra σ r i = ra σ r j → i = j) (hC : ∀ j : Nat, j < 8 → ∀ G, Gr (fun x => ra σ r x) N j (j % 4) G → pk G N = C j) (hz : ∀ i, zrl (C i)) (hk : ∀ s, Off P616 σ s → k (zs (nw C) 8) s) : ∃ M, wX6_like_27 k M r 0 0 σ := by
  have hnb := hR.1
  have key : ∀ (q j : Nat) (s : Hp), j + q = 8 → Off P616 σ s → (∀ i, i < j → s 16 i = C i) → wX6_like_27 k (q + 1) r (zs (nw C) j) j s := by
    intro q
    induction q with
    | zero =>
      intro j s hj hs hc
      obtain rfl : j = 8 := by omega
      exact ⟨zr (by omega) (by omega), zrg_d rfl, fun _ => hk s hs, fun hc => absurd (by decide) hc⟩
    | succ q ih =>
      intro j s hj hs hc
      have a1 : s (29 + r) = σ (29 + r) := hs _ (by unfold P616; omega)
      have a2 : s (36 + r) = σ (36 + r) := hs _ (by unfold P616; omega)
      have er := ra_eq a1 a2
      refine ⟨zr (by omega) (by omega), zrg_d rfl, fun hc => ?_, fun _ => ?_⟩
      · have : ((8 : Nat) : Int) = 8 := rfl
        omega
      refine turnInto_s (N := N) (J := j % 4) hr (by omega) (by omega) (RW_eq hR a1 a2) (by rw [a1, hN]) (by rw [er]; exact h1) (by rw [er]; exact h2) (fun u hu u0 u1 ug => ?_)
      rw [er] at ug
      have sr := Gr_r (A := fun x => ra σ r x) h1 h2 ug
      have hR6 : RW u 6 := ⟨by show 1 ≤ u 35 0 ∧ u 35 0 ≤ 12; omega, by show 1 ≤ u 35 1 ∧ u 35 1 ≤ 12; omega, fun x hx => Or.inl (by
        have hx' : (x : Int) < u 35 0 := hx
        have := sr x (by omega)
        show 0 ≤ u 42 x ∧ u 42 x < u 35 1
        omega)⟩
      refine packed_s hR6 ⟨⟨by omega, by omega⟩, ?_⟩
      have ep : pk (fun x => ra u 6 x) (u (29 + 6) 0).toNat = C j := by
        rw [show u (29 + 6) 0 = u 35 0 from rfl, u0, Int.toNat_natCast, ← hC j (by omega) _ ug]
        refine pk_congr N (fun x hx => ?_)
        show ra u 6 x = u 42 x
        unfold ra
        rw [if_pos (by rw [show u (29 + 6) 0 = u 35 0 from rfl, u0]; omega), Int.toNat_natCast]
      rw [ep, Int.toNat_natCast]
      have hu' : Off P616 s u := fun q hq => hu q (fun h => hq (Or.inr h))
      have hcs : ∀ i, i ≤ j → zst u 16 j (C j) 16 i = C i := fun i hi => by
        by_cases e : i = j
        · subst e; rw [zst_s]
        · rw [zst_n (Or.inr e), hu 16 (by unfold P6; omega), hc i (by omega)]
      have ih := ih (j + 1) (zst u 16 j (C j)) (by omega) ((hs.tr hu').st (Or.inl rfl)) (fun i hi => hcs i (by omega))
      rw [show ((j + 1 : Nat) : Int) = (j : Int) + 1 by omega, show zs (nw C) (j + 1) = zs (nw C) j + nw C j from rfl] at ih
      refine isNew_s (C := C) (by omega) hcs hz ?_
      by_cases e : zs (nq C j) j = 0
      · rw [show nw C j = 1 from if_pos e] at *
        exact b1e ih
      · rw [show nw C j = 0 from if_neg e] at *
        rw [Int.add_zero] at ih
        exact b0e ih
  exact ⟨_, key 8 0 σ (by omega) (Off.rf _ _) (fun i hi => absurd hi (by omega))⟩
theorem like_r {σ : Hp} {v : Int} {N : Nat} {A C : Nat → Int} {k : Int → Hp → Prop} (h0 : 0 ≤ v) (h5 : v ≤ 5) (hm : MW σ v.toNat) (hN : σ 18 v.toNat = N) (hA : ∀ x : Nat, x < N → ma σ v.toNat x = A x) (h1 : ∀ x, x < N → 0 ≤ A x ∧ A x < N) (h2 : ∀ i j, i < N → j < N → A i = A j → i = j) (hC : ∀ j : Nat, j < 8 → ∀ G, Gr A N j (j % 4) G → pk G N = C j) (hz : ∀ i, zrl (C i)) (hk : ∀ s, Off P78 σ s → k (zs (nw C) 8) s) : ∃ M, wX7_like_24 k M v 0 0 σ := by
  have hnb := hm.1
  have tc : ∀ (j : Nat) (s : Hp) (k : Int → Hp → Prop), j < 8 → Off P78 σ s → (∀ t, Off P78 σ t → k (C j) t) → wX7_turns v j s (fun σ3 => (0 ≤ v ∧ v < 6) ∧ wX7_code (σ3 18 v.toNat) σ3 k) := fun j s k hj hs hk => by
    have s18 : s 18 = σ 18 := hs 18 (by unfold P78; omega)
    have s19 : s 19 = σ 19 := hs 19 (by unfold P78; omega)
    have s20 : s 20 = σ 20 := hs 20 (by unfold P78; omega)
    refine turns_s (A := A) (J := j % 4) h0 h5 (by omega) (by omega) (MW_eq hm s18 s19 s20) (by rw [s18, hN]) (fun x hx => by rw [ma_eq s18 s20]; exact hA x hx) h1 h2 (fun t ht tg => ⟨⟨by omega, by omega⟩, ?_⟩)
    rw [ht 18 (by unfold P78; omega), s18, hN]
    have tr := Gr_r h1 h2 tg
    refine code_s (by omega) (fun x hx => by have := tr x hx; omega) ?_
    rw [hC j hj _ tg]
    exact hk t (hs.tr ht)
  have inner : ∀ (j : Nat) (K24 : Int → Int → Int → Hp → Prop) (b : Int), j < 8 → (∀ s, Off P78 σ s → K24 v (b + nw C j) ((j : Int) + 1) s) → ∀ (q i : Nat) (s : Hp), i + q = j → Off P78 σ s → wX7_like_54 k K24 (q + 1) v b j (C j) (if zs (nq C j) i = 0 then 1 else 0) i s := by
    intro j K24 b hj hK q
    induction q with
    | zero =>
      intro i s hi hs
      obtain rfl : i = j := by omega
      have hK := hK s hs
      refine ⟨zr (by omega) (by omega), zr (by omega) (by omega), fun _ => ?_, fun hc => by omega⟩
      by_cases e : zs (nq C i) i = 0
      · rw [show nw C i = 1 from if_pos e] at hK
        rw [if_pos e]
        exact ⟨zrg_d rfl, fun h => absurd h (by decide), fun _ => hK⟩
      · rw [show nw C i = 0 from if_neg e] at hK
        rw [if_neg e]
        exact ⟨zrg_d rfl, fun _ => hK, fun h => absurd rfl h⟩
    | succ q ih =>
      intro i s hi hs
      have es : zs (nq C j) (i + 1) = zs (nq C j) i + nq C j i := rfl
      have nb := nq_b C j i
      have ih := fun s => ih (i + 1) s (by omega)
      rw [show ((i + 1 : Nat) : Int) = (i : Int) + 1 by omega, es] at ih
      refine ⟨zr (by omega) (by omega), zr (by omega) (by omega), fun hc => by omega, fun _ => ?_⟩
      by_cases e : zs (nq C j) i = 0
      · rw [if_pos e]
        have s18 : s 18 = σ 18 := hs 18 (by unfold P78; omega)
        have s19 : s 19 = σ 19 := hs 19 (by unfold P78; omega)
        have s20 : s 20 = σ 20 := hs 20 (by unfold P78; omega)
        refine turns_s (A := A) (J := i % 4) h0 h5 (by omega) (by omega) (MW_eq hm s18 s19 s20) (by rw [s18, hN]) (fun x hx => by rw [ma_eq s18 s20]; exact hA x hx) h1 h2 (fun t ht tg => ⟨zrg_d rfl, fun h => absurd h (by decide), fun _ => ⟨⟨by omega, by omega⟩, ?_⟩⟩)
        rw [ht 18 (by unfold P78; omega), s18, hN]
        have tr := Gr_r h1 h2 tg
        refine code_s (by omega) (fun x hx => by have := tr x hx; omega) ?_
        rw [hC i (by omega) _ tg]
        refine ⟨hz i, hz j, fun hc => ?_, fun hc => ?_⟩
        · have ih := ih t (hs.tr ht)
          rw [e, show nq C j i = 1 from if_pos hc, if_neg (by decide)] at ih
          exact ih
        · have ih := ih t (hs.tr ht)
          rw [e, show nq C j i = 0 from if_neg hc, if_pos (by decide)] at ih
          exact ih
      · rw [if_neg e]
        have s18 : s 18 = σ 18 := hs 18 (by unfold P78; omega)
        have s19 : s 19 = σ 19 := hs 19 (by unfold P78; omega)
        have s20 : s 20 = σ 20 := hs 20 (by unfold P78; omega)
        refine turns_s (A := A) (J := i % 4) h0 h5 (by omega) (by omega) (MW_eq hm s18 s19 s20) (by rw [s18, hN]) (fun x hx => by rw [ma_eq s18 s20]; exact hA x hx) h1 h2 (fun t ht tg => ⟨zrg_d rfl, fun _ => ?_, fun h => absurd rfl h⟩)
        have ih := ih t (hs.tr ht)
        rw [if_neg (by
          have : nq C j i = 0 ∨ nq C j i = 1 := by unfold nq; split <;> omega
          omega)] at ih
        exact ih
  have key : ∀ (q j : Nat) (s : Hp), j + q = 8 → Off P78 σ s → wX7_like_24 k (q + 1) v (zs (nw C) j) j s := by
    intro q
    induction q with
    | zero =>
      intro j s hj hs
      obtain rfl : j = 8 := by omega
      exact ⟨zr (by omega) (by omega), fun _ => hk s hs, fun hc => absurd (by decide) hc⟩
    | succ q ih =>
      intro j s hj hs
      refine ⟨zr (by omega) (by omega), fun hc => by omega, fun _ => ?_⟩
      refine tc j s _ (by omega) hs (fun t ht => ⟨j + 1, ?_⟩)
      refine inner j _ _ (by omega) (fun u hu => ?_) j 0 t (by omega) ht
      have ih := ih (j + 1) u (by omega) hu
      rw [show ((j + 1 : Nat) : Int) = (j : Int) + 1 by omega] at ih
      exact ih
  exact ⟨_, key 8 0 σ (by omega) (Off.rf _ _)⟩
theorem T_like {K : Hp → Prop} (hK : ∀ σ, Inv σ → K σ) {v1 : Int} (h1 : zrg v1) {σ : Hp} (hI : Inv σ) : wX6_like v1 σ (fun a s => wX7_like v1 s (fun b t => zrg a ∧ zrg b ∧ ((a = b → K t) ∧ (¬ (a = b) → False)))) := by
  unfold wX6_like
  refine rowAt_br h1 (fun hc => isRow_brn h1 (fun _ => fin rfl (zrg_d rfl) (hK _ hI)) (fun _ _ => by omega)) (fun a1 a2 => ?_)
  have hr := hI.row a1 a2
  have hv6 : v1.toNat < 6 := by omega
  have hnb := hr.1.1
  refine isSquare_s hr.1 (fun hnm hq => b1n ?_) (fun hno => b0n ?_)
  · obtain ⟨N, hN⟩ : ∃ N : Nat, σ (29 + v1.toNat) 0 = (N : Int) := ⟨(σ (29 + v1.toNat) 0).toNat, by omega⟩
    obtain ⟨q1, q2⟩ := sq_facts hr.1 hN hnm hq
    obtain ⟨C, hC, hz⟩ : ∃ C : Nat → Int, (∀ j : Nat, j < 8 → ∀ G, Gr (fun x => ra σ v1.toNat x) N j (j % 4) G → pk G N = C j) ∧ ∀ i, zrl (C i) := by
      have ex : ∀ j : Nat, ∃ G, Gr (fun x => ra σ v1.toNat x) N j (j % 4) G := fun j => gr_ex q1 q2
      refine ⟨fun j => pk (Classical.choose (ex j)) N, fun j _ G hG => ?_, fun j => ?_⟩
      · exact pk_congr N (fun u hu => Gr_u (A := fun x => ra σ v1.toNat x) q1 q2 hG (Classical.choose_spec (ex j)) u hu)
      · have tr := Gr_r (A := fun x => ra σ v1.toNat x) q1 q2 (Classical.choose_spec (ex j))
        have pb := pk_b (f := Classical.choose (ex j)) N (fun u hu => by have := tr u hu; omega)
        have p12 := pwr_12 N (by omega)
        show zrl (pk (Classical.choose (ex j)) N)
        exact ⟨by omega, by omega⟩
    have zb := zs_b (f := nw C) (c := 1) (by decide) 8 (fun i _ => by unfold nw; split <;> omega)
    refine like_x hv6 hr.1 hN q1 q2 hC hz (fun s hs => ?_)
    have hIs : Inv s := hI.same (hs.same (fun p j hk => by unfold keep at hk; unfold P616; omega))
    have hrs := hIs.row a1 a2
    have s1 := hs (29 + v1.toNat) (by unfold P616; omega)
    have s2 := hs (36 + v1.toNat) (by unfold P616; omega)
    refine isRow_brn h1 (fun hc => by omega) (fun _ _ => ?_)
    refine isSquare_r a1 a2 hrs (fun t ht _ _ => b1n ?_) (fun t ht hno => ?_)
    · have t18 : t 18 = s 18 := ht 18 (by unfold P24; omega)
      have t19 : t 19 = s 19 := ht 19 (by unfold P24; omega)
      have t20 : t 20 = s 20 := ht 20 (by unfold P24; omega)
      refine like_r (A := fun x => ra σ v1.toNat x) a1 a2 (MW_eq hrs.mw t18 t19 t20) (by rw [t18, hrs.2.1, s1, hN]) (fun x hx => by rw [ma_eq t18 t20, hrs.mra, ra_eq s1 s2]) q1 q2 hC hz (fun u hu => ?_)
      exact fin rfl (zr (by omega) (by omega)) (hK _ ((hIs.same (ht.same (fun p j hk => by unfold keep at hk; unfold P24; omega))).same (hu.same (fun p j hk => by unfold keep at hk; unfold P78; omega))))
    · refine absurd ⟨by rw [s1]; exact hnm, ?_⟩ hno
      rw [ra_eq s1 s2, s1]
      exact hq
  · refine isRow_brn h1 (fun hc => by omega) (fun _ _ => ?_)
    refine isSquare_r a1 a2 hr (fun t ht c1 c2 => absurd ⟨c1, c2⟩ hno) (fun t ht _ => b0n ?_)
    exact fin rfl (zrg_d rfl) (hK _ (hI.same (ht.same (fun p j hk => by unfold keep at hk; unfold P24; omega))))
