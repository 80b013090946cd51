/-! the search: the reference's lays -/
theorem tm_0 {a b m : Int} : Int.tmod (a - b) m = 0 ↔ a % m = b % m := by
  rw [Int.emod_eq_emod_iff_emod_sub_eq_zero]
  exact ⟨fun h => Int.emod_eq_zero_of_dvd (Int.dvd_of_tmod_eq_zero h), fun h => Int.tmod_eq_zero_of_dvd (Int.dvd_of_emod_eq_zero h)⟩
def C3 (m kind : Int) (L : Nat → Int) (x : Nat) (y : Int) : Prop := ∀ d, d < x → 1 ≤ d → ∀ c, c < x → d ≤ c → sm m kind (y - L (x - d)) ≠ sm m kind (L c - L (c - d))
theorem isLean_s {m kind y : Int} {x : Nat} {L : Nat → Int} {s : Hp} {k : Int → Hp → Prop} (hm : 1 ≤ m ∧ m ≤ 12) (hkd : kind = 0 ∨ kind = 1) (hx : x < 12) (hL : LBz m L x) (hy : 0 ≤ y ∧ y < m) (hl : ∀ j, j < x → s 24 j = L j) (hly : s 24 x = y) (h1 : C3 m kind L x y → k 1 s) (h0 : ¬ C3 m kind L x y → k 0 s) : wX7_isLean x m kind s k := by
  have inner : ∀ (d : Nat) (K3 : Int → Int → Int → Int → Hp → Prop), 1 ≤ d → d < x → ((∀ c, c < x → d ≤ c → sm m kind (y - L (x - d)) ≠ sm m kind (L c - L (c - d))) → K3 x m kind ((d : Int) + 1) s) → ∀ (q c : Nat), c + q = x → d ≤ c → (∀ e, e < c → d ≤ e → sm m kind (y - L (x - d)) ≠ sm m kind (L e - L (e - d))) → wX7_isLean_31 k K3 (q + 1) x m kind d (y - L (x - d)) c s := by
    intro d K3 hd1 hdx hK q
    induction q with
    | zero =>
      intro c hc hdc hne
      obtain rfl : c = x := by omega
      exact ⟨zr (by omega) (by omega), zr (by omega) (by omega), fun _ => hK hne, fun hx => by omega⟩
    | succ q ih =>
      intro c hc hdc hne
      have b1 := hL (x - d) (by omega)
      have b2 := hL c (by omega)
      have b3 := hL (c - d) (by omega)
      have nx : sm m kind (y - L (x - d)) ≠ sm m kind (L c - L (c - d)) → wX7_isLean_31 k K3 (q + 1) x m kind d (y - L (x - d)) ((c : Int) + 1) s := fun hn => by
        have ih := ih (c + 1) (by omega) (by omega) (fun e he1 he2 => by
          by_cases hec : e = c
          · subst hec; exact hn
          · exact hne e (by omega) he2)
        rw [show ((c + 1 : Nat) : Int) = (c : Int) + 1 by omega] at ih
        exact ih
      have eq0 : sm m kind (y - L (x - d)) = sm m kind (L c - L (c - d)) → k 0 s := fun he => h0 (fun hC => hC d hdx hd1 c (by omega) hdc he)
      refine ⟨zr (by omega) (by omega), zr (by omega) (by omega), fun hx => by omega, fun _ => ⟨⟨by omega, by omega⟩, ⟨by omega, by omega⟩, zr (by omega) (by omega), ?_⟩⟩
      rw [Int.toNat_natCast, show ((c : Int) - (d : Int)).toNat = c - d by omega, hl c (by omega), hl (c - d) (by omega)]
      refine ⟨fun hk1 => ⟨zr (by omega) (by omega), zr (by omega) (by omega), by omega, ?_, fun hn => nx ?_, fun he => eq0 ?_⟩, fun hk0 => ⟨zr (by omega) (by omega), zr (by omega) (by omega), fun hn => nx ?_, fun he => eq0 ?_⟩⟩
      · have e1 := Int.natAbs_tmod (y - L (x - d) - (L c - L (c - d))) m
        have e2 : (Int.tmod (y - L (x - d) - (L c - L (c - d))) m).natAbs < m.natAbs := by rw [e1]; exact Nat.mod_lt _ (by omega)
        exact zr (by omega) (by omega)
      · unfold sm
        rw [if_neg hk1, if_neg hk1]
        exact fun h => hn (tm_0.mpr h)
      · unfold sm
        rw [if_neg hk1, if_neg hk1]
        exact tm_0.mp (Classical.not_not.mp he)
      · unfold sm
        rw [if_pos (Classical.not_not.mp hk0), if_pos (Classical.not_not.mp hk0)]
        exact hn
      · unfold sm
        rw [if_pos (Classical.not_not.mp hk0), if_pos (Classical.not_not.mp hk0)]
        exact Classical.not_not.mp he
  have key : ∀ (q d : Nat), (d + q = x ∨ (q = 0 ∧ x ≤ d ∧ d ≤ 12)) → 1 ≤ d → (∀ e, e < d → e < x → 1 ≤ e → ∀ c, c < x → e ≤ c → sm m kind (y - L (x - e)) ≠ sm m kind (L c - L (c - e))) → wX7_isLean_3 k (q + 1) x m kind d s := by
    intro q
    induction q with
    | zero =>
      intro d hd h1d hne
      exact ⟨zr (by omega) (by omega), zr (by omega) (by omega), fun _ => h1 (fun e he1 he2 => hne e (by omega) he1 he2), fun hx => by omega⟩
    | succ q ih =>
      intro d hd h1d hne
      refine ⟨zr (by omega) (by omega), zr (by omega) (by omega), fun hx => by omega, fun _ => ⟨⟨by omega, by omega⟩, ⟨by omega, by omega⟩, ?_⟩⟩
      rw [Int.toNat_natCast, show ((x : Int) - (d : Int)).toNat = x - d by omega, hly, hl (x - d) (by omega)]
      refine ⟨x - d + 1, inner d _ h1d (by omega) (fun hall => ?_) (x - d) d (by omega) (Nat.le_refl _) (fun e he1 he2 => absurd he1 (by omega))⟩
      have ih := ih (d + 1) (by omega) (by omega) (fun e he1 he2 he3 => by
        by_cases hed : e = d
        · subst hed; exact hall
        · exact hne e (by omega) he2 he3)
      rw [show ((d + 1 : Nat) : Int) = (d : Int) + 1 by omega] at ih
      exact ih
  exact ⟨_, key (x - 1) 1 (by omega) (Nat.le_refl _) (fun e he1 he2 he3 => absurd he1 (by omega))⟩
def HE (s : Hp) (v5 : Int) (H : Nat → Int) (n : Nat) : Prop := (v5 < 0 ∧ ∀ x, x < n → H x = 15) ∨ (0 ≤ v5 ∧ v5 ≤ 5 ∧ MW s v5.toNat ∧ ∀ x : Nat, x < n → ma s v5.toNat x = H x)
theorem may_s {m kind one v5 : Int} {x y n : Nat} {H L : Nat → Int} {s : Hp} {k : Int → Hp → Prop} (hm : 1 ≤ m ∧ m ≤ 12) (hkd : kind = 0 ∨ kind = 1) (hone : one = 0 ∨ one = 1) (h5 : zrg v5) (hn : n ≤ 12) (hx : x < n) (hL : LBz m L x) (hy : (y : Int) < m) (hH : HE s v5 H n) (hl : ∀ j, j < x → s 24 j = L j) (hly : s 24 x = y) (h1 : okB H m kind one x L y = true → k 1 s) (h0 : okB H m kind one x L y ≠ true → k 0 s) : wX7_may x m kind one v5 s k := by
  have m58 : (H x = 15 ∨ H x = y) → (one = 0 ∨ ∀ j, j < x → L j ≠ y) → wX7_may_58 k x m kind s := fun a b => by
    unfold wX7_may_58
    refine isLean_s hm hkd (by omega) hL (by omega) hl hly (fun hc => b1e (h1 (okB_iff.mpr ⟨a, b, hc⟩))) (fun hc => b0e (h0 (fun h => hc (okB_iff.mp h).2.2)))
  have m38 : (H x = 15 ∨ H x = y) → wX7_may_38 k x m kind one 1 s := fun a => by
    refine ⟨zrg_d rfl, fun hc => absurd hc (by decide), fun _ => ⟨zr (by omega) (by omega), fun hc => m58 a (Or.inl hc), fun hc => ?_⟩⟩
    refine isUnlike_s (by omega) (fun j hj => ?_) (fun hall => b1e (m58 a (Or.inr (fun j hj e => ?_)))) (fun hno => b0e (h0 (fun h => hno (fun j hj e => ?_))))
    · by_cases e : j = x
      · subst e; rw [hly]; exact zr (by omega) (by omega)
      · rw [hl j (by omega)]
        have := hL j (by omega)
        exact zr (by omega) (by omega)
    · have := hall j hj
      rw [hl j hj, hly] at this
      exact this e
    · rw [hl j hj, hly] at e
      exact ((okB_iff.mp h).2.1).elim (fun b => hc b) (fun b => b j hj e)
  have m38f : ¬ (H x = 15 ∨ H x = y) → wX7_may_38 k x m kind one 0 s := fun a => ⟨zrg_d rfl, fun _ => h0 (fun h => a (okB_iff.mp h).1), fun hc => absurd rfl hc⟩
  rcases hH with ⟨e1, e2⟩ | ⟨e1, e2, e3, e4⟩
  · exact ⟨h5, fun _ => m38 (Or.inl (e2 x hx)), fun hc => absurd e1 hc⟩
  · have mb := ma_b e3 (x : Int)
    rw [e4 x hx] at mb
    refine ⟨h5, fun hc => by omega, fun _ => at_s e1 e2 e3.1 (zr (by omega) (by omega)) ?_⟩
    rw [e4 x hx]
    refine ⟨zr (by omega) (by omega), fun hc => m38 (Or.inl hc), fun hc => at_s e1 e2 e3.1 (zr (by omega) (by omega)) ⟨⟨by omega, by omega⟩, ?_⟩⟩
    rw [e4 x hx, Int.toNat_natCast, hly]
    refine ⟨zr (by omega) (by omega), zr (by omega) (by omega), fun hn => m38f (fun h => h.elim hc hn), fun he => m38 (Or.inr (Classical.not_not.mp he))⟩
def LSz (σ s : Hp) (L : Nat → Int) (x : Nat) : Prop := Same σ s ∧ s 17 9 = 0 ∧ ∀ j, j < x → s 24 j = L j
def LDz (σ t : Hp) (n : Nat) (F : Nat → Int) : Prop := Same σ t ∧ t 17 9 = 1 ∧ ∀ j, j < n → t 24 j = F j
theorem lays_s {σ : Hp} {H : Nat → Int} {n m : Nat} {kind one w v5 : Int} {k : Int → Hp → Prop} (hm : 1 ≤ m ∧ m ≤ 12) (hn : n ≤ 12) (hkd : kind = 0 ∨ kind = 1) (hone : one = 0 ∨ one = 1) (hw : zrg w) (h5 : zrg v5) (hH : ∀ s, Same σ s → HE s v5 H n) : ∀ (r x : Nat) (L : Nat → Int), x + (r + 1) = n → LBz m L x → ∀ (q y : Nat) (p : Int), y + q = m → 0 ≤ p → (0 ≤ w → p ≤ w) → p + ((sf (sg H m kind one r x L) q y).length : Int) ≤ 1073741824 → ((w < 0 ∨ ((sf (sg H m kind one r x L) q y).length : Int) ≤ w - p) → ∃ M, ∀ t, LSz σ t L x → wX7_lays_18 k M n m kind one v5 w (p + ((sf (sg H m kind one r x L) q y).length : Int)) ((x : Int) + (-1)) t) → (0 ≤ w → ∀ t F, (sf (sg H m kind one r x L) q y)[(w - p).toNat]? = some F → LDz σ t n F → k w t) → ∃ N, ∀ s, LSz σ s L x → s 24 x = (y : Int) - 1 → wX7_lays_18 k N n m kind one v5 w p x s := by
  intro r
  induction r with
  | zero =>
    intro x L hxn hL q
    induction q with
    | zero =>
      intro y p hy hp hpw hB hN hY
      have e0 : (sf (sg H m kind one 0 x L) 0 y).length = 0 := rfl
      rw [e0] at hN
      obtain ⟨M, hM⟩ := hN (by omega)
      rw [show p + ((0 : Nat) : Int) = p by omega] at hM
      refine ⟨M + 1, fun s hs hsx => ?_⟩
      refine ⟨zr (by omega) (by omega), fun hc => by omega, fun _ => ⟨⟨by omega, by omega⟩, ?_⟩⟩
      rw [Int.toNat_natCast, hsx, zst_s]
      refine ⟨zr (by omega) (by omega), zr (by omega) (by omega), fun hc => by omega, fun _ => hM _ ⟨hs.1.st (by unfold keep; omega), by rw [zst_np (by decide), hs.2.1], fun j hj => by rw [zst_n (Or.inr (by omega)), hs.2.2 j hj]⟩⟩
    | succ q ihq =>
      intro y p hy hp hpw hB hN hY
      have es : sf (sg H m kind one 0 x L) (q + 1) y = sg H m kind one 0 x L y ++ sf (sg H m kind one 0 x L) q (y + 1) := rfl
      have hy1 : ((y + 1 : Nat) : Int) - 1 = (y : Int) := by omega
      have z1 : ∀ s, LSz σ s L x → LSz σ (zst s 24 x (y : Int)) L x := fun s hs => ⟨hs.1.st (by unfold keep; omega), by rw [zst_np (by decide), hs.2.1], fun j hj => by rw [zst_n (Or.inr (by omega)), hs.2.2 j hj]⟩
      by_cases hok : okB H m kind one x L y = true
      · have eg : sg H m kind one 0 x L y = [upz L x y] := if_pos hok
        rw [es, eg, List.length_append, show [upz L x (y : Int)].length = 1 from rfl] at hB hN
        rw [es, eg] at hY
        have leaf : ∀ N s, LSz σ s L x → s 24 x = (y : Int) - 1 → (p ≠ w → wX7_lays_18 k N n m kind one v5 w (p + 1) x (zst s 24 x y)) → wX7_lays_18 k (N + 1) n m kind one v5 w p x s := fun N s hs hsx hnx => by
          refine ⟨zr (by omega) (by omega), fun hc => by omega, fun _ => ⟨⟨by omega, by omega⟩, ?_⟩⟩
          rw [Int.toNat_natCast, hsx, zst_s, show (y : Int) - 1 + 1 = (y : Int) by omega]
          refine ⟨zr (by omega) (by omega), zr (by omega) (by omega), fun _ => ?_, fun hc => absurd (by omega) hc⟩
          have hs1 := z1 s hs
          refine may_s (n := n) (by omega) hkd hone h5 hn (by omega) hL (by omega) (hH _ hs1.1) hs1.2.2 (zst_s _ _ _ _) (fun _ => b1e ?_) (fun hno => absurd hok hno)
          refine ⟨zr (by omega) (by omega), fun _ => ⟨⟨by omega, by omega⟩, hw, hnx, fun he => ?_⟩, fun hc => by omega⟩
          have hpe : p = w := Classical.not_not.mp he
          rw [hpe]
          refine hY (by omega) _ (upz L x y) (by rw [show (w - p).toNat = 0 by omega]; rfl) ⟨hs1.1.st (by unfold keep; omega), by rw [zst_s], fun j hj => ?_⟩
          rw [zst_np (by decide)]
          by_cases e : j = x
          · subst e; rw [zst_s, upz_s]
          · rw [upz_n e, hs1.2.2 j (by omega)]
        by_cases hpe : p = w
        · exact ⟨1, fun s hs hsx => leaf 0 s hs hsx (fun h => absurd hpe h)⟩
        · obtain ⟨N, hNN⟩ := ihq (y + 1) (p + 1) (by omega) (by omega) (fun h => by have := hpw h; omega) (by omega) (fun hd => by
            have := hN (by omega)
            rw [show p + ((1 + (sf (sg H m kind one 0 x L) q (y + 1)).length : Nat) : Int) = p + 1 + ((sf (sg H m kind one 0 x L) q (y + 1)).length : Int) by omega] at this
            exact this) (fun h0 t F hF hD => hY h0 t F (by
              have := hpw h0
              rw [List.getElem?_append_right (by show 1 ≤ (w - p).toNat; omega), ← hF]
              show (sf (sg H m kind one 0 x L) q (y + 1))[(w - p).toNat - 1]? = _
              congr 1
              omega) hD)
          exact ⟨N + 1, fun s hs hsx => leaf N s hs hsx (fun _ => hNN _ (z1 s hs) (by rw [zst_s]; omega))⟩
      · have eg : sg H m kind one 0 x L y = [] := if_neg hok
        rw [es, eg, List.nil_append] at hB hN hY
        obtain ⟨N, hNN⟩ := ihq (y + 1) p (by omega) hp hpw hB hN hY
        refine ⟨N + 1, fun s hs hsx => ?_⟩
        refine ⟨zr (by omega) (by omega), fun hc => by omega, fun _ => ⟨⟨by omega, by omega⟩, ?_⟩⟩
        rw [Int.toNat_natCast, hsx, zst_s, show (y : Int) - 1 + 1 = (y : Int) by omega]
        refine ⟨zr (by omega) (by omega), zr (by omega) (by omega), fun _ => ?_, fun hc => absurd (by omega) hc⟩
        have hs1 := z1 s hs
        exact may_s (n := n) (by omega) hkd hone h5 hn (by omega) hL (by omega) (hH _ hs1.1) hs1.2.2 (zst_s _ _ _ _) (fun h => absurd h hok) (fun _ => b0e (hNN _ hs1 (by rw [zst_s]; omega)))
  | succ r ih =>
    intro x L hxn hL q
    induction q with
    | zero =>
      intro y p hy hp hpw hB hN hY
      have e0 : (sf (sg H m kind one (r + 1) x L) 0 y).length = 0 := rfl
      rw [e0] at hN
      obtain ⟨M, hM⟩ := hN (by omega)
      rw [show p + ((0 : Nat) : Int) = p by omega] at hM
      refine ⟨M + 1, fun s hs hsx => ?_⟩
      refine ⟨zr (by omega) (by omega), fun hc => by omega, fun _ => ⟨⟨by omega, by omega⟩, ?_⟩⟩
      rw [Int.toNat_natCast, hsx, zst_s]
      refine ⟨zr (by omega) (by omega), zr (by omega) (by omega), fun hc => by omega, fun _ => hM _ ⟨hs.1.st (by unfold keep; omega), by rw [zst_np (by decide), hs.2.1], fun j hj => by rw [zst_n (Or.inr (by omega)), hs.2.2 j hj]⟩⟩
    | succ q ihq =>
      intro y p hy hp hpw hB hN hY
      have es : sf (sg H m kind one (r + 1) x L) (q + 1) y = sg H m kind one (r + 1) x L y ++ sf (sg H m kind one (r + 1) x L) q (y + 1) := rfl
      have z1 : ∀ s, LSz σ s L x → LSz σ (zst s 24 x (y : Int)) L x := fun s hs => ⟨hs.1.st (by unfold keep; omega), by rw [zst_np (by decide), hs.2.1], fun j hj => by rw [zst_n (Or.inr (by omega)), hs.2.2 j hj]⟩
      by_cases hok : okB H m kind one x L y = true
      · have eg : sg H m kind one (r + 1) x L y = sols H m kind one (r + 1) (x + 1) (upz L x y) := if_pos hok
        rw [es, eg, List.length_append] at hB hN
        rw [es, eg] at hY
        have hL' : LBz m (upz L x y) (x + 1) := fun j hj => by
          by_cases e : j = x
          · subst e; rw [upz_s]; omega
          · rw [upz_n e]; exact hL j (by omega)
        have deep : ∃ N, ∀ s, LSz σ s (upz L x y) (x + 1) → s 24 (x + 1) = ((0 : Nat) : Int) - 1 → wX7_lays_18 k N n m kind one v5 w p ((x + 1 : Nat) : Int) s := by
          refine ih (x + 1) (upz L x y) (by omega) hL' m 0 p (by omega) hp hpw (by rw [← sols_s]; omega) (fun hd => ?_) (fun h0 t F hF hD => ?_)
          · rw [← sols_s] at hd ⊢
            obtain ⟨M, hM⟩ := ihq (y + 1) (p + ((sols H m kind one (r + 1) (x + 1) (upz L x y)).length : Int)) (by omega) (by omega) (fun h => by omega) (by omega) (fun hd2 => by
              have := hN (by omega)
              rw [show p + (((sols H m kind one (r + 1) (x + 1) (upz L x y)).length + (sf (sg H m kind one (r + 1) x L) q (y + 1)).length : Nat) : Int) = p + ((sols H m kind one (r + 1) (x + 1) (upz L x y)).length : Int) + ((sf (sg H m kind one (r + 1) x L) q (y + 1)).length : Int) by omega] at this
              exact this) (fun h0 t F hF hD => hY h0 t F (by
                rw [List.getElem?_append_right (by omega), ← hF]
                congr 1
                omega) hD)
            refine ⟨M, fun t ht => ?_⟩
            rw [show ((x + 1 : Nat) : Int) + (-1) = (x : Int) by omega]
            refine hM t ⟨ht.1, ht.2.1, fun j hj => by rw [ht.2.2 j (by omega), upz_n (by omega)]⟩ ?_
            rw [ht.2.2 x (by omega), upz_s]
            omega
          · rw [← sols_s] at hF
            refine hY h0 t F ?_ hD
            rw [List.getElem?_append_left (List.getElem?_eq_some_iff.mp hF).1, hF]
        obtain ⟨N, hNN⟩ := deep
        refine ⟨N + 1, fun s hs hsx => ?_⟩
        refine ⟨zr (by omega) (by omega), fun hc => by omega, fun _ => ⟨⟨by omega, by omega⟩, ?_⟩⟩
        rw [Int.toNat_natCast, hsx, zst_s, show (y : Int) - 1 + 1 = (y : Int) by omega]
        refine ⟨zr (by omega) (by omega), zr (by omega) (by omega), fun _ => ?_, fun hc => absurd (by omega) hc⟩
        have hs1 := z1 s hs
        refine may_s (n := n) (by omega) hkd hone h5 hn (by omega) hL (by omega) (hH _ hs1.1) hs1.2.2 (zst_s _ _ _ _) (fun _ => b1e ⟨zr (by omega) (by omega), fun hc => by omega, fun _ => ⟨⟨by omega, by omega⟩, ?_⟩⟩) (fun hno => absurd hok hno)
        rw [show (x : Int) + 1 = ((x + 1 : Nat) : Int) by omega, Int.toNat_natCast]
        refine hNN _ ⟨hs1.1.st (by unfold keep; omega), by rw [zst_np (by decide), hs1.2.1], fun j hj => ?_⟩ (by rw [zst_s]; rfl)
        rw [zst_n (Or.inr (by omega))]
        by_cases e : j = x
        · subst e; rw [zst_s, upz_s]
        · rw [upz_n e, hs1.2.2 j (by omega)]
      · have eg : sg H m kind one (r + 1) x L y = [] := if_neg hok
        rw [es, eg, List.nil_append] at hB hN hY
        obtain ⟨N, hNN⟩ := ihq (y + 1) p (by omega) hp hpw hB hN hY
        refine ⟨N + 1, fun s hs hsx => ?_⟩
        refine ⟨zr (by omega) (by omega), fun hc => by omega, fun _ => ⟨⟨by omega, by omega⟩, ?_⟩⟩
        rw [Int.toNat_natCast, hsx, zst_s, show (y : Int) - 1 + 1 = (y : Int) by omega]
        refine ⟨zr (by omega) (by omega), zr (by omega) (by omega), fun _ => ?_, fun hc => absurd (by omega) hc⟩
        have hs1 := z1 s hs
        exact may_s (n := n) (by omega) hkd hone h5 hn (by omega) hL (by omega) (hH _ hs1.1) hs1.2.2 (zst_s _ _ _ _) (fun h => absurd h hok) (fun _ => b0e (hNN _ hs1 (by rw [zst_s]; omega)))
