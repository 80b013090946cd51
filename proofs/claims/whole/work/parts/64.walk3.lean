/-! the search: the class's walk -/
theorem mk_congr {A B : Nat → Int} : ∀ x : Nat, (∀ j, j < x → A j = B j) → mk A x = mk B x
  | 0, _ => rfl
  | x + 1, h => by
    show mk A x ||| 2 ^ (A x).toNat = mk B x ||| 2 ^ (B x).toNat
    rw [mk_congr x (fun j hj => h j (by omega)), h x (by omega)]
theorem flip_on {σ t : Hp} {H L : Nat → Int} {n m x y : Nat} {kind one w p : Int} {k : Hp → Prop} (hm : 1 ≤ m ∧ m ≤ 12) (hkd : kind = 0 ∨ kind = 1) (hx : x < 12) (hy : y < m) (hL : LBz m L x) (ht : WS σ t H n m kind one w p L x) (hk : ∀ u, WS σ u H n m kind one w p (upz L x y) (x + 1) → k u) : wX4_flipSteps x (zst t 7 x y) k := by
  obtain ⟨t0, t3, t4, t5, t6, t7, t8, tl, ts, ta⟩ := ht
  have hm' : 1 ≤ (m : Int) ∧ (m : Int) ≤ 12 := by omega
  have z6 : zst t 7 x (y : Int) 6 = t 6 := zst_np (by decide)
  have z7 : ∀ j, j ≤ x → zst t 7 x (y : Int) 7 j = upz L x y j := fun j hj => by
    by_cases e : j = x
    · subst e; rw [zst_s, upz_s]
    · rw [zst_n (Or.inr e), upz_n e, tl j (by omega)]
  have z8 : zst t 7 x (y : Int) 8 = t 8 := zst_np (by decide)
  refine flip_s (a := fun d => st m kind L d x) hm' hkd (by rw [z6, t4]) (by rw [z6, t5]) hx (fun j hj => ?_) (fun d h1 h2 => ⟨by rw [z8, ts d h1 (by omega)], st_lt hm' x hL⟩) (fun u hu hu8 hu9 => hk u ?_)
  · rw [z7 j hj]
    by_cases e : j = x
    · subst e; rw [upz_s]; omega
    · rw [upz_n e]; exact hL j (by omega)
  · have u6 : u 6 = t 6 := by rw [hu 6 (by unfold P8; omega), z6]
    have cg : ∀ d, st m kind (upz L x y) d x = st m kind L d x := fun d => st_congr x (fun j hj => upz_n (by omega))
    refine ⟨(t0.st (by unfold keep; omega)).tr (hu.same (fun p j hk => by unfold keep at hk; unfold P8; omega)), by rw [u6, t3], by rw [u6, t4], by rw [u6, t5], by rw [u6, t6], by rw [u6, t7], by rw [u6, t8], fun j hj => ?_, fun d h1 h2 => ?_, fun j hj => ?_⟩
    · rw [hu 7 (by unfold P8; omega), z7 j (by omega)]
    · by_cases hd : d ≤ x
      · rw [hu8 d h1 hd, z7 x (Nat.le_refl _), z7 (x - d) (by omega), show st m kind (upz L x y) d (x + 1) = st m kind (upz L x y) d x ^^^ sb m kind (upz L x y x - upz L x y (x - d)) from if_pos hd, cg]
      · rw [hu9 d (by omega), z8, ts d h1 h2, show st m kind (upz L x y) d (x + 1) = st m kind (upz L x y) d x from if_neg hd, cg]
    · rw [hu 9 (by unfold P8; omega), zst_np (by decide), ta j hj]
theorem flip_off {σ t : Hp} {H L : Nat → Int} {n m x y : Nat} {kind one w p : Int} {k : Hp → Prop} (hm : 1 ≤ m ∧ m ≤ 12) (hkd : kind = 0 ∨ kind = 1) (hx : x < 12) (hL : LBz m (upz L x y) (x + 1)) (ht : WS σ t H n m kind one w p (upz L x y) (x + 1)) (hk : ∀ u, WS σ u H n m kind one w p L x → k u) : wX4_flipSteps x t k := by
  obtain ⟨t0, t3, t4, t5, t6, t7, t8, tl, ts, ta⟩ := ht
  have hm' : 1 ≤ (m : Int) ∧ (m : Int) ≤ 12 := by omega
  refine flip_s (a := fun d => st m kind (upz L x y) d (x + 1)) hm' hkd t4 t5 hx (fun j hj => ?_) (fun d h1 h2 => ⟨ts d h1 (by omega), st_lt hm' (x + 1) hL⟩) (fun u hu hu8 hu9 => hk u ?_)
  · rw [tl j (by omega)]
    exact hL j (by omega)
  · have u6 : u 6 = t 6 := hu 6 (by unfold P8; omega)
    have cg : ∀ d, st m kind (upz L x y) d x = st m kind L d x := fun d => st_congr x (fun j hj => upz_n (by omega))
    refine ⟨t0.tr (hu.same (fun p j hk => by unfold keep at hk; unfold P8; omega)), by rw [u6, t3], by rw [u6, t4], by rw [u6, t5], by rw [u6, t6], by rw [u6, t7], by rw [u6, t8], fun j hj => ?_, fun d h1 h2 => ?_, fun j hj => ?_⟩
    · rw [hu 7 (by unfold P8; omega), tl j (by omega), upz_n (by omega)]
    · by_cases hd : d ≤ x
      · rw [hu8 d h1 hd, tl x (by omega), tl (x - d) (by omega), show st m kind (upz L x y) d (x + 1) = st m kind (upz L x y) d x ^^^ sb m kind (upz L x y x - upz L x y (x - d)) from if_pos hd, Nat.xor_assoc, Nat.xor_self, Nat.xor_zero, cg]
      · rw [hu9 d (by omega), ts d h1 h2, show st m kind (upz L x y) d (x + 1) = st m kind (upz L x y) d x from if_neg hd, cg]
    · rw [hu 9 (by unfold P8; omega), ta j hj]
theorem walk_s {σ : Hp} {H : Nat → Int} {n m : Nat} {kind one w : Int} (hm : 1 ≤ m ∧ m ≤ 12) (hn : n ≤ 12) (hkd : kind = 0 ∨ kind = 1) (hone : one = 0 ∨ one = 1) (hw : zrg w) (hH : ∀ x, x < n → H x = 15 ∨ (0 ≤ H x ∧ H x < m)) : ∀ (r x dp : Nat) (L : Nat → Int) (s : Hp) (p : Int) (k : Int → Hp → Prop), r + 1 ≤ dp → x + (r + 1) = n → 0 ≤ p → (0 ≤ w → p ≤ w) → LBz m L x → LPz m kind L x → WS σ s H n m kind one w p L x → p + ((sols H m kind one (r + 1) x L).length : Int) ≤ 1073741824 → ((w < 0 ∨ ((sols H m kind one (r + 1) x L).length : Int) ≤ w - p) → ∀ t, WS σ t H n m kind one w (p + ((sols H m kind one (r + 1) x L).length : Int)) L x → k 0 t) → (0 ≤ w → ∀ t F, (sols H m kind one (r + 1) x L)[(w - p).toNat]? = some F → FD σ t n m F → k 1 t) → wX4_walk dp x (tk one L x) s k := by
  intro r
  induction r with
  | zero =>
    intro x dp L s p k hdp hxn hp hpw hL hP hs hB hN hY
    obtain ⟨d, rfl⟩ : ∃ d, dp = d + 1 := ⟨dp - 1, by omega⟩
    show wX4_walk_0 (wX4_walk d) x (tk one L x) s k
    have hs' := hs
    obtain ⟨s0, s3, s4, s5, s6, s7, s8, sl, ss, sa⟩ := hs'
    unfold wX4_walk_0
    rw [s3]
    refine wbr (zr (by omega) (by omega)) (zrg_d rfl) (zr (by omega) (by omega)) (fun hc => by omega) (fun _ _ => ⟨zr (by omega) (by omega), fun _ => ?_, fun hc => by omega⟩)
    refine free_s hm (by omega) (hH x (by omega)) hL sl (fun d h1 h2 => ss d h1 (by omega)) (sa x (by omega)) ?_
    rw [s3]
    refine ⟨zr (by omega) (by omega), fun hc => by omega, fun _ => ?_⟩
    refine endIn_s hm hxn (by omega) hw hp hpw hs (fun y => fl_ok hm (hH x (by omega)) hL hP) hB (fun hd t ht => ⟨Or.inl rfl, hN hd t ht⟩) (fun h0 t F hF hD => ⟨Or.inr rfl, hY h0 t F hF hD⟩)
  | succ r ih =>
    intro x dp L s p k hdp hxn hp hpw hL hP hs hB hN hY
    obtain ⟨d, rfl⟩ : ∃ d, dp = d + 1 := ⟨dp - 1, by omega⟩
    show wX4_walk_0 (wX4_walk d) x (tk one L x) s k
    have hs' := hs
    obtain ⟨s0, s3, s4, s5, s6, s7, s8, sl, ss, sa⟩ := hs'
    unfold wX4_walk_0
    rw [s3]
    refine wbr (zr (by omega) (by omega)) (zrg_d rfl) (zr (by omega) (by omega)) (fun hc => by omega) (fun _ _ => ⟨zr (by omega) (by omega), fun _ => ?_, fun hc => by omega⟩)
    refine free_s hm (by omega) (hH x (by omega)) hL sl (fun d h1 h2 => ss d h1 (by omega)) (sa x (by omega)) ?_
    rw [s3]
    refine ⟨zr (by omega) (by omega), fun _ => ?_, fun hc => by omega⟩
    have hfb := fun y => fl_ok (y := y) (one := one) hm (hH x (by omega)) hL hP
    generalize fl m kind L x (hb H m x ^^^ (hb H m x &&& tk one L x)) x = f at *
    have flt : f < 2 ^ 12 := Nat.lt_pow_two_of_testBit f (fun i hi => by
      rw [← Bool.not_eq_true]
      intro h
      have := ((hfb i).mp h).1
      omega)
    have loop : ∀ (q y : Nat) (t : Hp) (p' : Int), y + q = m → 0 ≤ p' → (0 ≤ w → p' ≤ w) → WS σ t H n m kind one w p' L x → p' + ((sf (sg H m kind one (r + 1) x L) q y).length : Int) ≤ 1073741824 → ((w < 0 ∨ ((sf (sg H m kind one (r + 1) x L) q y).length : Int) ≤ w - p') → ∀ t, WS σ t H n m kind one w (p' + ((sf (sg H m kind one (r + 1) x L) q y).length : Int)) L x → k 0 t) → (0 ≤ w → ∀ t F, (sf (sg H m kind one (r + 1) x L) q y)[(w - p').toNat]? = some F → FD σ t n m F → k 1 t) → wX4_walk_49 (wX4_walk d) k (q + 1) x (tk one L x) f y t := by
      intro q
      induction q with
      | zero =>
        intro y t p' hy h1 h2 ht hB hN hY
        have e0 : (sf (sg H m kind one (r + 1) x L) 0 y).length = 0 := rfl
        rw [e0] at hN
        refine ⟨zr (by omega) (by omega), by rw [ht.2.2.1]; exact zr (by omega) (by omega), fun _ => hN (by omega) t (by rw [show p' + ((0 : Nat) : Int) = p' by omega]; exact ht), fun hc => by rw [ht.2.2.1] at hc; omega⟩
      | succ q ihq =>
        intro y t p' hy h1 h2 ht hB hN hY
        have hz : zand (zshr (f : Int) (y : Int)) 1 = if f.testBit y = true then 1 else 0 := zbit (by omega) (by omega)
        have es : sf (sg H m kind one (r + 1) x L) (q + 1) y = sg H m kind one (r + 1) x L y ++ sf (sg H m kind one (r + 1) x L) q (y + 1) := rfl
        have hy1 : ((y + 1 : Nat) : Int) = (y : Int) + 1 := by omega
        refine ⟨zr (by omega) (by omega), by rw [ht.2.2.1]; exact zr (by omega) (by omega), fun hc => by rw [ht.2.2.1] at hc; omega, fun _ => ?_⟩
        rw [hz]
        by_cases hb : f.testBit y = true
        · rw [if_pos hb]
          have hok := ((hfb y).mp hb).2
          have eg : sg H m kind one (r + 1) x L y = sols H m kind one (r + 1) (x + 1) (upz L x y) := if_pos hok
          rw [es, eg, List.length_append] at hB hN
          rw [es, eg] at hY
          obtain ⟨hL', hP'⟩ := ok_next hL hP (by omega) hok
          refine ⟨zrg_d rfl, fun hc => absurd hc (by decide), fun _ => ⟨⟨by omega, by omega⟩, ?_⟩⟩
          rw [Int.toNat_natCast]
          refine flip_on hm hkd (by omega) (by omega) hL ht (fun u hu => ?_)
          have recw : ∀ T : Int, T = ((tk one (upz L x y) (x + 1) : Nat) : Int) → wX4_walk_101 (wX4_walk d) k (fun v1 v2 v3 v4 σ => wX4_walk_49 (wX4_walk d) k (q + 1) v1 v2 v3 v4 σ) x (tk one L x) f y T ((x : Int) + 1) u := fun T hT => by
            unfold wX4_walk_101
            rw [hT, show (x : Int) + 1 = ((x + 1 : Nat) : Int) by omega]
            refine ih (x + 1) d (upz L x y) u p' _ (by omega) (by omega) h1 h2 hL' hP' hu (by omega) (fun hd v hv => b0e ?_) (fun h0 v F hF hD => b1e ?_)
            · refine flip_off hm hkd (by omega) hL' hv (fun z hz => ?_)
              have := ihq (y + 1) z (p' + ((sols H m kind one (r + 1) (x + 1) (upz L x y)).length : Int)) (by omega) (by omega) (fun h0 => by omega) hz (by omega) (fun hd2 v hv => hN (by omega) v (by
                rw [show p' + (((sols H m kind one (r + 1) (x + 1) (upz L x y)).length + (sf (sg H m kind one (r + 1) x L) q (y + 1)).length : Nat) : Int) = p' + ((sols H m kind one (r + 1) (x + 1) (upz L x y)).length : Int) + ((sf (sg H m kind one (r + 1) x L) q (y + 1)).length : Int) by omega]
                exact hv)) (fun h0 v F hF hD => hY h0 v F (by
                rw [List.getElem?_append_right (by omega), ← hF]
                congr 1
                omega) hD)
              rw [hy1] at this
              exact this
            · refine hY h0 v F ?_ hD
              rw [List.getElem?_append_left (List.getElem?_eq_some_iff.mp hF).1, hF]
          rw [hu.2.2.2.2.1]
          have cg : mk (upz L x y) x = mk L x := mk_congr x (fun j hj => upz_n (by omega))
          refine ⟨zr (by omega) (by omega), fun hc => recw 0 ?_, fun hc => recw _ ?_⟩
          · unfold tk
            rw [if_pos hc]
            rfl
          · have ml := mk_lt (A := L) x (fun j hj => by have := hL j hj; omega)
            have pl : 2 ^ y < 2 ^ 25 := pow25 (by omega)
            unfold tk
            rw [if_neg hc, if_neg hc, zpow (by omega), z_or (by omega) (by omega)]
            show ((mk L x ||| 2 ^ y : Nat) : Int) = ((mk (upz L x y) x ||| 2 ^ (upz L x y x).toNat : Nat) : Int)
            rw [cg, upz_s, Int.toNat_natCast]
        · rw [if_neg hb]
          have eg : sg H m kind one (r + 1) x L y = [] := if_neg (fun h2 => hb ((hfb y).mpr ⟨by omega, h2⟩))
          rw [es, eg, List.nil_append] at hB hN hY
          have := ihq (y + 1) t p' (by omega) h1 h2 ht hB hN hY
          rw [hy1] at this
          exact ⟨zrg_d rfl, fun _ => this, fun hc => absurd rfl hc⟩
    exact ⟨_, loop m 0 s p (by omega) hp hpw hs hB hN hY⟩
