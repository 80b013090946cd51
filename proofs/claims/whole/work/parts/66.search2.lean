/-! the search: from beginning to end -/
def L0 : Nat → Int := fun _ => 0
theorem sf_mem {g : Nat → List (Nat → Int)} {F : Nat → Int} : ∀ (q y i : Nat), (sf g q y)[i]? = some F → ∃ z j : Nat, y ≤ z ∧ z < y + q ∧ (g z)[j]? = some F
  | 0, y, i, h => by
    have : ([] : List (Nat → Int))[i]? = some F := h
    rw [List.getElem?_nil] at this
    cases this
  | q + 1, y, i, h => by
    have h' : (g y ++ sf g q (y + 1))[i]? = some F := h
    by_cases hi : i < (g y).length
    · rw [List.getElem?_append_left hi] at h'
      exact ⟨y, i, by omega, by omega, h'⟩
    · rw [List.getElem?_append_right (by omega)] at h'
      obtain ⟨z, j, a, b, c⟩ := sf_mem q (y + 1) _ h'
      exact ⟨z, j, by omega, by omega, c⟩
theorem sols_r {H : Nat → Int} {m : Nat} {kind one : Int} {F : Nat → Int} : ∀ (r x i : Nat) (L : Nat → Int), LBz m L x → (sols H m kind one r x L)[i]? = some F → LBz m F (x + r)
  | 0, x, i, L, hL, h => by
    have h' : [L][i]? = some F := h
    cases i with
    | zero =>
      have : some L = some F := h'
      cases this
      exact hL
    | succ i =>
      rw [List.getElem?_cons_succ, List.getElem?_nil] at h'
      cases h'
  | r + 1, x, i, L, hL, h => by
    rw [sols_s] at h
    obtain ⟨z, j, a, b, c⟩ := sf_mem m 0 i h
    unfold sg at c
    split at c
    · have := sols_r r (x + 1) j (upz L x z) (fun e he => by
        by_cases hx : e = x
        · subst hx; rw [upz_s]; omega
        · rw [upz_n hx]; exact hL e (by omega)) c
      rw [show x + (r + 1) = x + 1 + r by omega]
      exact this
    · rw [List.getElem?_nil] at c
      cases c
def AS (σ s : Hp) (H : Nat → Int) (n m : Nat) (kind one : Int) : Prop := Same σ s ∧ s 6 3 = n ∧ s 6 4 = m ∧ s 6 5 = kind ∧ s 6 6 = one ∧ ∀ j, j < n → s 9 j = ((hb H m j : Nat) : Int)
theorem rows_s {σ s : Hp} {n m : Nat} {kind : Int} {k : Hp → Prop} (hn : 1 ≤ n ∧ n ≤ 12) (hm : 1 ≤ m ∧ m ≤ 12) (hs : Same σ s) (hk : ∀ t, AS σ t (fun _ => 15) n m kind 0 → k t) : wX4_amongRows n m kind s k := by
  unfold wX4_amongRows
  refine wbr (zr (by omega) (by omega)) (zrg_d rfl) (zrg_d rfl) (fun hc => by omega) (fun _ _ => ?_)
  refine wbrn (zr (by omega) (by omega)) (zrg_d rfl) (zrg_d rfl) (fun hc => by omega) (fun _ _ => ?_)
  refine fill_s (by decide) (hk _ ⟨((((hs.st (by unfold keep; omega)).st (by unfold keep; omega)).st (by unfold keep; omega)).st (by unfold keep; omega)).fill (fun j => by unfold keep; omega), ?_, ?_, ?_, ?_, fun j hj => ?_⟩)
  · rw [zfill_p (by decide), zst_n (Or.inr (by decide)), zst_n (Or.inr (by decide)), zst_n (Or.inr (by decide)), zst_s]
  · rw [zfill_p (by decide), zst_n (Or.inr (by decide)), zst_n (Or.inr (by decide)), zst_s]
  · rw [zfill_p (by decide), zst_n (Or.inr (by decide)), zst_s]
  · rw [zfill_p (by decide), zst_s]
  · rw [zfill_i (by omega), zpow (by omega)]
    have : 1 ≤ 2 ^ m := Nat.one_le_two_pow
    show ((2 ^ m : Nat) : Int) - 1 = ((if (15 : Int) = 15 then 2 ^ m - 1 else 2 ^ (15 : Int).toNat : Nat) : Int)
    rw [if_pos rfl]
    omega
theorem squares_s {σ s : Hp} {n : Nat} {k : Hp → Prop} (hn : 1 ≤ n ∧ n ≤ 12) (hs : Same σ s) (hk : ∀ t, AS σ t (fun _ => 15) n n 0 1 → k t) : wX4_amongSquares n s k := by
  unfold wX4_amongSquares
  refine rows_s hn hn hs (fun t ht => hk _ ?_)
  obtain ⟨t0, t3, t4, t5, t6, ta⟩ := ht
  exact ⟨t0.st (by unfold keep; omega), by rw [zst_n (Or.inr (by decide)), t3], by rw [zst_n (Or.inr (by decide)), t4], by rw [zst_n (Or.inr (by decide)), t5], by rw [zst_s], fun j hj => by rw [zst_np (by decide), ta j hj]⟩
theorem keepMarks_s {σ s : Hp} {r n : Nat} {k : Hp → Prop} (hr : r < 6) (hR : RW σ r) (hN : σ (29 + r) 0 = n) (hM : σ (29 + r) 1 = n) (hs : AS σ s (fun _ => 15) n n 0 1) (hk : ∀ t, AS σ t (fun x => ra σ r x) n n 0 1 → k t) : wX4_keepMarksOf r s k := by
  have hnb := hR.1
  obtain ⟨s0, s3, s4, s5, s6, sa⟩ := hs
  have key : ∀ (q x : Nat) (t : Hp), x + q = n → Same σ t → t 6 = s 6 → (∀ j, j < n → t 9 j = if j < x then ((hb (fun x => ra σ r x) n j : Nat) : Int) else ((hb (fun _ => 15) n j : Nat) : Int)) → wX4_keepMarksOf_2 k (q + 1) r x t := by
    intro q
    induction q with
    | zero =>
      intro x t hx ht h6 h9
      obtain rfl : x = n := by omega
      exact ⟨zr (by omega) (by omega), by rw [h6, s3]; exact zr (by omega) (by omega), fun _ => hk t ⟨ht, by rw [h6, s3], by rw [h6, s4], by rw [h6, s5], by rw [h6, s6], fun j hj => by rw [h9 j hj, if_pos hj]⟩, fun hc => by rw [h6, s3] at hc; omega⟩
    | succ q ih =>
      intro x t hx ht h6 h9
      have e1 := ht.r1 hr
      have e2 := ht.r2 hr
      have er := ht.ra hr
      have hRt := RW_eq hR e1 e2
      have rv := ra_v hR (x : Int)
      have hx1 : ((x + 1 : Nat) : Int) = (x : Int) + 1 := by omega
      refine ⟨zr (by omega) (by omega), by rw [h6, s3]; exact zr (by omega) (by omega), fun hc => by rw [h6, s3] at hc; omega, fun _ => ⟨fun hc => by omega, fun _ => ?_⟩⟩
      refine mbr hRt (zr (by omega) (by omega)) (fun e => ?_) (fun e => ?_)
      · rw [er] at e
        have ih := ih (x + 1) t (by omega) ht h6 (fun j hj => by
          rw [h9 j hj]
          by_cases hjx : j = x
          · subst hjx
            rw [if_neg (by omega), if_pos (by omega)]
            show ((if (15 : Int) = 15 then 2 ^ n - 1 else 2 ^ (15 : Int).toNat : Nat) : Int) = ((if ra σ r j = 15 then 2 ^ n - 1 else 2 ^ (ra σ r j).toNat : Nat) : Int)
            rw [if_pos rfl, if_pos e]
          · by_cases hlt : j < x
            · rw [if_pos hlt, if_pos (by omega)]
            · rw [if_neg hlt, if_neg (by omega)])
        rw [hx1] at ih
        exact ih
      · rw [er] at e
        refine lineAt_s hRt.1 (zr (by omega) (by omega)) ⟨⟨by omega, by omega⟩, ?_⟩
        rw [er, Int.toNat_natCast]
        have ez : zshl 1 (ra σ r x) = ((2 ^ (ra σ r x).toNat : Nat) : Int) := by
          have := zpow (e := (ra σ r x).toNat) (by omega)
          rw [show (((ra σ r x).toNat : Nat) : Int) = ra σ r x by omega] at this
          exact this
        rw [ez]
        have ih := ih (x + 1) (zst t 9 x ((2 ^ (ra σ r x).toNat : Nat) : Int)) (by omega) (ht.st (by unfold keep; omega)) (by rw [zst_np (by decide), h6]) (fun j hj => by
          by_cases hjx : j = x
          · subst hjx
            rw [zst_s, if_pos (by omega)]
            show ((2 ^ (ra σ r j).toNat : Nat) : Int) = ((if ra σ r j = 15 then 2 ^ n - 1 else 2 ^ (ra σ r j).toNat : Nat) : Int)
            rw [if_neg e]
          · rw [zst_n (Or.inr hjx), h9 j hj]
            by_cases hlt : j < x
            · rw [if_pos hlt, if_pos (by omega)]
            · rw [if_neg hlt, if_neg (by omega)])
        rw [hx1] at ih
        exact ih
  exact ⟨_, key n 0 s (by omega) s0 rfl (fun j hj => by rw [sa j hj, if_neg (by omega)])⟩
theorem begin_s {σ s : Hp} {H : Nat → Int} {n m : Nat} {kind one w : Int} {k : Hp → Prop} (hs : AS σ s H n m kind one) (hk : ∀ t, WS σ t H n m kind one w 0 L0 0 → k t) : wX4_begin w s k := by
  obtain ⟨s0, s3, s4, s5, s6, sa⟩ := hs
  unfold wX4_begin
  refine fill_s (by decide) (hk _ ⟨((s0.st (by unfold keep; omega)).st (by unfold keep; omega)).fill (fun j => by unfold keep; omega), ?_, ?_, ?_, ?_, ?_, ?_, fun j hj => absurd hj (by omega), fun d h1 h2 => ?_, fun j hj => ?_⟩)
  · rw [zfill_p (by decide), zst_n (Or.inr (by decide)), zst_n (Or.inr (by decide)), s3]
  · rw [zfill_p (by decide), zst_n (Or.inr (by decide)), zst_n (Or.inr (by decide)), s4]
  · rw [zfill_p (by decide), zst_n (Or.inr (by decide)), zst_n (Or.inr (by decide)), s5]
  · rw [zfill_p (by decide), zst_n (Or.inr (by decide)), zst_n (Or.inr (by decide)), s6]
  · rw [zfill_p (by decide), zst_n (Or.inr (by decide)), zst_s]
  · rw [zfill_p (by decide), zst_s]
  · rw [zfill_i h2]; rfl
  · rw [zfill_p (by decide), zst_np (by decide), zst_np (by decide), sa j hj]
theorem wtop_s {σ s : Hp} {H : Nat → Int} {n m : Nat} {kind one w : Int} {k : Int → Hp → Prop} (hm : 1 ≤ m ∧ m ≤ 12) (hn : 1 ≤ n ∧ n ≤ 12) (hkd : kind = 0 ∨ kind = 1) (hone : one = 0 ∨ one = 1) (hw : zrg w) (hH : ∀ x, x < n → H x = 15 ∨ (0 ≤ H x ∧ H x < m)) (hB : ((sols H m kind one n 0 L0).length : Int) ≤ 1073741824) (hs : WS σ s H n m kind one w 0 L0 0) (hN : (w < 0 ∨ ((sols H m kind one n 0 L0).length : Int) ≤ w) → ∀ t, Same σ t → t 6 8 = ((sols H m kind one n 0 L0).length : Int) → k 0 t) (hY : 0 ≤ w → ∀ t F, (sols H m kind one n 0 L0)[w.toNat]? = some F → FD σ t n m F → k 1 t) : wdX4_walk 0 0 s k := by
  obtain ⟨r, rfl⟩ : ∃ r, n = r + 1 := ⟨n - 1, by omega⟩
  have e0 : ((tk one L0 0 : Nat) : Int) = 0 := by
    unfold tk
    split <;> rfl
  have := walk_s (σ := σ) (H := H) (n := r + 1) (m := m) (kind := kind) (one := one) (w := w) hm hn.2 hkd hone hw hH r 0 13 L0 s 0 k (by omega) (by omega) (Int.le_refl _) (fun h => h) (fun j hj => absurd hj (by omega)) (fun d c e h1 h2 h3 h4 => absurd h4 (by omega)) hs (by omega) (fun hd t ht => hN (by omega) t ht.1 (by rw [ht.2.2.2.2.2.2.1]; omega)) (fun h0 t F hF hD => hY h0 t F (by rw [show (w - 0).toNat = w.toNat by omega] at hF; exact hF) hD)
  rw [e0] at this
  exact this
theorem giveTo_s {σ t : Hp} {r n m : Nat} {F : Nat → Int} {k : Hp → Prop} (hr : r < 6) (hn : 1 ≤ n ∧ n ≤ 12) (hm : 1 ≤ m ∧ m ≤ 12) (hF : LBz m F n) (ht : FD σ t n m F) (hk : ∀ u, CSet σ u r n m F → k u) : wX4_giveTo r t k := by
  obtain ⟨t0, t3, t4, tl⟩ := ht
  unfold wX4_giveTo
  rw [t3, t4]
  refine shape_pf F (by omega) (by omega) (by omega) (by omega) ?_
  have key : ∀ (q x : Nat), x + q = n → wX4_giveTo_14 k (q + 1) r x (pf t r n m F x) := by
    intro q
    induction q with
    | zero =>
      intro x hx
      obtain rfl : x = n := by omega
      have e6 : pf t r x m F x 6 = t 6 := pf_o (by omega) (by omega)
      refine ⟨zr (by omega) (by omega), by rw [e6, t3]; exact zr (by omega) (by omega), fun _ => hk _ ?_, fun hc => by rw [e6, t3] at hc; omega⟩
      have hp := pf_set (σ := t) (r := r) (n := x) (m := m) (f := F) (i := x) rfl (by omega)
      refine ⟨fun p j hk a b => by rw [hp.1 p j hk a b, t0 p j hk], hp.2.1, hp.2.2.1, fun j hj => ?_⟩
      rw [hp.2.2.2 j hj]
      exact if_pos (hF j (by omega))
    | succ q ih =>
      intro x hx
      have e6 : pf t r n m F x 6 = t 6 := pf_o (by omega) (by omega)
      have e7 : pf t r n m F x 7 = t 7 := pf_o (by omega) (by omega)
      have b := hF x (by omega)
      refine ⟨zr (by omega) (by omega), by rw [e6, t3]; exact zr (by omega) (by omega), fun hc => by rw [e6, t3] at hc; omega, fun _ => ⟨fun hc => by omega, fun _ => ⟨⟨by omega, by omega⟩, ?_⟩⟩⟩
      rw [Int.toNat_natCast, e7, tl x (by omega)]
      refine put_pf (by omega) (by omega) (by omega) (by omega) (by omega) (zr (by omega) (by omega)) rfl ?_
      have ih := ih (x + 1) (by omega)
      rw [show ((x + 1 : Nat) : Int) = (x : Int) + 1 by omega] at ih
      exact ih
  exact ⟨_, key n 0 (by omega)⟩
theorem com_s {σ s : Hp} {H : Nat → Int} {n m : Nat} {kind one w v : Int} {k : Int → Hp → Prop} (h0 : 0 ≤ v) (h5 : v ≤ 5) (hm : 1 ≤ m ∧ m ≤ 12) (hn : 1 ≤ n ∧ n ≤ 12) (hkd : kind = 0 ∨ kind = 1) (hone : one = 0 ∨ one = 1) (hw : zrg w) (hH : ∀ x, x < n → H x = 15 ∨ (0 ≤ H x ∧ H x < m)) (hB : ((sols H m kind one n 0 L0).length : Int) ≤ 1073741824) (hs : AS σ s H n m kind one) (hC : w < 0 → ∀ t, Same σ t → k ((sols H m kind one n 0 L0).length : Int) t) (hN : 0 ≤ w → ((sols H m kind one n 0 L0).length : Int) ≤ w → ∀ t, Same σ t → k (-4) t) (hY : 0 ≤ w → ∀ F, (sols H m kind one n 0 L0)[w.toNat]? = some F → ∀ t, CSet σ t v.toNat n m F → k v t) : wX6_countOrMake w v s k := by
  refine ⟨hw, fun hw0 => ?_, fun hw0 => ?_⟩
  · refine rowAt_br (zr (by omega) (by omega)) (fun hc => by omega) (fun _ _ => ?_)
    unfold wX4_reach
    refine begin_s hs (fun t ht => wtop_s hm hn hkd hone hw hH hB ht (fun hd u hu _ => ⟨Or.inl rfl, b0n (hN hw0 (by omega) u hu)⟩) (fun _ u F hF hD => ⟨Or.inr rfl, b1n ?_⟩))
    have hr := sols_r n 0 _ L0 (fun j hj => absurd hj (by omega)) hF
    rw [Nat.zero_add] at hr
    exact giveTo_s (by omega) hn hm hr hD (fun z hz => hY hw0 F hF z hz)
  · unfold wX4_countAll
    have wm : zrg (-1) := zrg_d rfl
    refine begin_s hs (fun t ht => wtop_s hm hn hkd hone wm hH hB ht (fun hd u hu hu8 => ?_) (fun h => absurd h (by decide)))
    show k (u 6 8) u
    rw [hu8]
    exact hC (by omega) u hu
theorem MSet.pre {s s' t : Hp} {k : Nat} {n m : Int} {A : Nat → Int} (hs : Same s s') (h : MSet s' t k n m A) : MSet s t k n m A := ⟨fun p j hk a b => by rw [h.1 p j hk a b, hs p j hk], h.2⟩
theorem ltop_s {u : Hp} {H : Nat → Int} {n m : Nat} {kind one w v5 : Int} {k : Int → Hp → Prop} (hm : 1 ≤ m ∧ m ≤ 12) (hn : 1 ≤ n ∧ n ≤ 12) (hkd : kind = 0 ∨ kind = 1) (hone : one = 0 ∨ one = 1) (hw : zrg w) (hv5 : zrg v5) (hH : ∀ s, Same u s → HE s v5 H n) (hB : ((sols H m kind one n 0 L0).length : Int) ≤ 1073741824) (hN : (w < 0 ∨ ((sols H m kind one n 0 L0).length : Int) ≤ w) → ∀ t, Same u t → t 17 9 = 0 → k ((sols H m kind one n 0 L0).length : Int) t) (hY : 0 ≤ w → ∀ t F, (sols H m kind one n 0 L0)[w.toNat]? = some F → LDz u t n F → k w t) : wX7_lays n m kind one v5 w u k := by
  obtain ⟨r, rfl⟩ : ∃ r, n = r + 1 := ⟨n - 1, by omega⟩
  rw [sols_s] at hB hN hY
  obtain ⟨N, hNN⟩ := lays_s (σ := u) (k := k) hm hn.2 hkd hone hw hv5 hH r 0 L0 (by omega) (fun j hj => absurd hj (by omega)) m 0 0 (by omega) (Int.le_refl _) (fun h => h) (by omega) (fun hd => ⟨1, fun t ht => ⟨zrg_d rfl, fun _ => (by
    have := hN (by omega) t ht.1 ht.2.1
    rw [show (0 : Int) + ((sf (sg H m kind one r 0 L0) m 0).length : Int) = ((sf (sg H m kind one r 0 L0) m 0).length : Int) by omega]
    exact this), fun hc => absurd (by decide) hc⟩⟩) (fun h0 t F hF hD => hY h0 t F (by rw [show (w - 0).toNat = w.toNat by omega] at hF; exact hF) hD)
  refine ⟨⟨by decide, by decide⟩, N, ?_⟩
  refine hNN _ ⟨((Same.rf u).st (by unfold keep; omega)).st (by unfold keep; omega), by rw [zst_np (by decide), zst_s], fun j hj => absurd hj (by omega)⟩ ?_
  exact zst_s _ _ _ _
theorem lb_s {u : Hp} {H : Nat → Int} {n m : Nat} {kind one w v5 v : Int} {k : Int → Hp → Prop} (h0 : 0 ≤ v) (h5 : v ≤ 5) (hm : 1 ≤ m ∧ m ≤ 12) (hn : 1 ≤ n ∧ n ≤ 12) (hkd : kind = 0 ∨ kind = 1) (hone : one = 0 ∨ one = 1) (hw : zrg w) (hv5 : zrg v5) (hH : ∀ s, Same u s → HE s v5 H n) (hB : ((sols H m kind one n 0 L0).length : Int) ≤ 1073741824) (hC : w < 0 → ∀ t, Same u t → k ((sols H m kind one n 0 L0).length : Int) t) (hN : 0 ≤ w → ((sols H m kind one n 0 L0).length : Int) ≤ w → ∀ t, Same u t → k (-4) t) (hY : 0 ≤ w → ∀ F, (sols H m kind one n 0 L0)[w.toNat]? = some F → ∀ t, MSet u t v.toNat n m F → k v t) : wX7_lays n m kind one v5 w u (fun a s => wX7_becomes v n m a w s k) := by
  refine ltop_s hm hn hkd hone hw hv5 hH hB (fun hd t ht t9 => ⟨hw, fun hw0 => ?_, fun hw0 => hC (by omega) t ht⟩) (fun hw0 t F hF hD => ⟨hw, fun _ => ?_, fun hc => absurd hw0 hc⟩)
  · rw [t9]
    exact ⟨zrg_d rfl, fun hc => absurd rfl hc, fun _ => hN hw0 (by omega) t ht⟩
  · obtain ⟨d0, d9, dl⟩ := hD
    rw [d9]
    refine ⟨zrg_d rfl, fun _ => ⟨⟨by omega, by omega⟩, ?_⟩, fun hc => absurd (by decide) hc⟩
    rw [mf_0 t v.toNat n m F]
    have key : ∀ (q i : Nat), i + q = n → wX7_becomes_35 k (q + 1) v n i (mf t v.toNat n m F i) := by
      intro q
      induction q with
      | zero =>
        intro i hi
        obtain rfl : i = n := by omega
        exact ⟨zr (by omega) (by omega), zr (by omega) (by omega), fun _ => hY hw0 F hF _ ((mf_set rfl (by omega)).pre d0), fun hc => by omega⟩
      | succ q ih =>
        intro i hi
        have ih := ih (i + 1) (by omega)
        refine ⟨zr (by omega) (by omega), zr (by omega) (by omega), fun hc => by omega, fun _ => ⟨⟨by omega, by omega⟩, ⟨by omega, by omega⟩, ?_⟩⟩
        rw [Int.toNat_natCast, mf_o (by decide), dl i (by omega), show (12 * v + (i : Int)).toNat = 12 * v.toNat + i by omega, mf_step]
        rw [show ((i + 1 : Nat) : Int) = (i : Int) + 1 by omega] at ih
        exact ih
    exact ⟨_, key n 0 (by omega)⟩
