/-! the search: the class's walk -/
def WS (σ s : Hp) (H : Nat → Int) (n m : Nat) (kind one w p : Int) (L : Nat → Int) (x : Nat) : Prop := Same σ s ∧ s 6 3 = n ∧ s 6 4 = m ∧ s 6 5 = kind ∧ s 6 6 = one ∧ s 6 7 = w ∧ s 6 8 = p ∧ (∀ j, j < x → s 7 j = L j) ∧ (∀ d, 1 ≤ d → d < 12 → s 8 d = ((st m kind L d x : Nat) : Int)) ∧ ∀ j, j < n → s 9 j = ((hb H m j : Nat) : Int)
theorem sf_pcn {g : Nat → List (Nat → Int)} {f m : Nat} (hg : ∀ y, y < m → (g y).length = if f.testBit y = true then 1 else 0) : ∀ (q y : Nat), y + q = m → (sf g q y).length = pcn f q y
  | 0, _, _ => rfl
  | q + 1, y, h => by
    show (g y ++ sf g q (y + 1)).length = (if f.testBit y = true then 1 else 0) + pcn f q (y + 1)
    rw [List.length_append, hg y (by omega), sf_pcn hg q (y + 1) (by omega)]
/-- found: the wanted one stands in line -/
def FD (σ t : Hp) (n m : Nat) (F : Nat → Int) : Prop := Same σ t ∧ t 6 3 = n ∧ t 6 4 = m ∧ ∀ j, j < n → t 7 j = F j
theorem endIn_s {σ s : Hp} {H L : Nat → Int} {n m x f : Nat} {kind one w p : Int} {k : Int → Hp → Prop} (hm : 1 ≤ m ∧ m ≤ 12) (hn : x + 1 = n) (hx : x < 12) (hw : zrg w) (hp : 0 ≤ p) (hpw : 0 ≤ w → p ≤ w) (hs : WS σ s H n m kind one w p L x) (hf : ∀ y, f.testBit y = true ↔ (y < m ∧ okB H m kind one x L y = true)) (hB : p + ((sols H m kind one 1 x L).length : Int) ≤ 1073741824) (hN : (w < 0 ∨ ((sols H m kind one 1 x L).length : Int) ≤ w - p) → ∀ t, WS σ t H n m kind one w (p + ((sols H m kind one 1 x L).length : Int)) L x → k 0 t) (hY : 0 ≤ w → ∀ t F, (sols H m kind one 1 x L)[(w - p).toNat]? = some F → FD σ t n m F → k 1 t) : wX4_endIn x f s k := by
  obtain ⟨s0, s3, s4, s5, s6, s7, s8, sl, ss, sa⟩ := hs
  have fz : ∀ i, m ≤ i → f.testBit i = false := fun i hi => by
    rw [← Bool.not_eq_true]
    intro h
    have := ((hf i).mp h).1
    omega
  have flt : f < 2 ^ 12 := Nat.lt_pow_two_of_testBit f (fun i hi => fz i (by omega))
  have glen : ∀ y, y < m → (sg H m kind one 0 x L y).length = if f.testBit y = true then 1 else 0 := fun y hy => by
    unfold sg
    by_cases h : okB H m kind one x L y = true
    · rw [if_pos h, if_pos ((hf y).mpr ⟨hy, h⟩)]; rfl
    · rw [if_neg h, if_neg (fun h2 => h ((hf y).mp h2).2)]; rfl
  have len : (sols H m kind one 1 x L).length = pcn f m 0 := sf_pcn glen m 0 (by omega)
  have e25 : ∀ k : Int → Hp → Prop, k 0 (zst s 6 8 (p + ((pcn f m 0 : Nat) : Int))) → wX4_endIn_25 k ((pcn f m 0 : Nat) : Int) s := fun k hk => by
    unfold wX4_endIn_25
    rw [s8]
    exact hk
  have ws' : WS σ (zst s 6 8 (p + ((pcn f m 0 : Nat) : Int))) H n m kind one w (p + ((pcn f m 0 : Nat) : Int)) L x :=
    ⟨s0.st (by unfold keep; omega), by rw [zst_n (Or.inr (by decide)), s3], by rw [zst_n (Or.inr (by decide)), s4], by rw [zst_n (Or.inr (by decide)), s5], by rw [zst_n (Or.inr (by decide)), s6], by rw [zst_n (Or.inr (by decide)), s7], by rw [zst_s], fun j hj => by rw [zst_np (by decide), sl j hj], fun d h1 h2 => by rw [zst_np (by decide), ss d h1 h2], fun j hj => by rw [zst_np (by decide), sa j hj]⟩
  have loop : 0 ≤ w → ∀ (q y : Nat) (t : Hp) (p' : Int), y + q = m → Same σ t → t 6 3 = n → t 6 4 = m → t 6 7 = w → t 6 8 = p' → (∀ j, j < x → t 7 j = L j) → 0 ≤ p' → p' ≤ w → w - p' < ((sf (sg H m kind one 0 x L) q y).length : Int) → (sols H m kind one 1 x L)[(w - p).toNat]? = (sf (sg H m kind one 0 x L) q y)[(w - p').toNat]? → wX4_endIn_40 k (q + 1) x f y t := by
    intro hw0 q
    induction q with
    | zero =>
      intro y t p' hy t0 t3 t4 t7 t8 tl h1 h2 h3 h4
      have : (sf (sg H m kind one 0 x L) 0 y).length = 0 := rfl
      omega
    | succ q ih =>
      intro y t p' hy t0 t3 t4 t7 t8 tl h1 h2 h3 h4
      have hz : zand (zshr (f : Int) (y : Int)) 1 = if f.testBit y = true then 1 else 0 := zbit (by omega) (by omega)
      have es : sf (sg H m kind one 0 x L) (q + 1) y = sg H m kind one 0 x L y ++ sf (sg H m kind one 0 x L) q (y + 1) := rfl
      refine ⟨zr (by omega) (by omega), by rw [t4]; exact zr (by omega) (by omega), fun hc => by rw [t4] at hc; omega, fun _ => ?_⟩
      rw [hz]
      by_cases hb : f.testBit y = true
      · rw [if_pos hb]
        have hok := ((hf y).mp hb).2
        have eg : sg H m kind one 0 x L y = [upz L x y] := if_pos hok
        rw [es, eg] at h3 h4
        refine ⟨zrg_d rfl, fun hc => absurd hc (by decide), fun _ => ?_⟩
        rw [t7, t8]
        refine ⟨⟨by have := hw.2; omega, by have := hw.2; omega⟩, hw, fun hc => ?_, fun hc => ⟨⟨by omega, by omega⟩, ?_⟩⟩
        · have hlen : ([upz L x y] ++ sf (sg H m kind one 0 x L) q (y + 1)).length = 1 + (sf (sg H m kind one 0 x L) q (y + 1)).length := by rw [List.length_append]; rfl
          rw [hlen] at h3
          have hidx : ([upz L x y] ++ sf (sg H m kind one 0 x L) q (y + 1))[(w - p').toNat]? = (sf (sg H m kind one 0 x L) q (y + 1))[(w - (p' + 1)).toNat]? := by
            rw [List.getElem?_append_right (by show 1 ≤ (w - p').toNat; omega)]
            show (sf (sg H m kind one 0 x L) q (y + 1))[(w - p').toNat - 1]? = _
            rw [show (w - p').toNat - 1 = (w - (p' + 1)).toNat by omega]
          rw [hidx] at h4
          have ih := ih (y + 1) (zst t 6 8 (p' + 1)) (p' + 1) (by omega) (t0.st (by unfold keep; omega)) (by rw [zst_n (Or.inr (by decide)), t3]) (by rw [zst_n (Or.inr (by decide)), t4]) (by rw [zst_n (Or.inr (by decide)), t7]) (by rw [zst_s]) (fun j hj => by rw [zst_np (by decide), tl j hj]) (by omega) (by omega) (by omega) h4
          rw [show ((y + 1 : Nat) : Int) = (y : Int) + 1 by omega] at ih
          exact ih
        · have hpe : p' = w := Classical.not_not.mp hc
          rw [show (w - p').toNat = 0 by omega] at h4
          rw [Int.toNat_natCast]
          refine hY hw0 _ (upz L x y) h4 ⟨t0.st (by unfold keep; omega), by rw [zst_np (by decide), t3], by rw [zst_np (by decide), t4], fun j hj => ?_⟩
          by_cases e : j = x
          · subst e; rw [zst_s, upz_s]
          · rw [zst_n (Or.inr e), upz_n e, tl j (by omega)]
      · rw [if_neg hb]
        have eg : sg H m kind one 0 x L y = [] := if_neg (fun h2 => hb ((hf y).mpr ⟨by omega, h2⟩))
        rw [es, eg, List.nil_append] at h3 h4
        have ih := ih (y + 1) t p' (by omega) t0 t3 t4 t7 t8 tl h1 h2 h3 h4
        rw [show ((y + 1 : Nat) : Int) = (y : Int) + 1 by omega] at ih
        exact ⟨zrg_d rfl, fun _ => ih, fun hc => absurd rfl hc⟩
  show wX4_endIn x f s k
  unfold wX4_endIn
  show zrg (s 6 7) ∧ _
  rw [show zand _ 63 = bcI (f : Int) from rfl, bc_m hm.2 fz, s7, s8]
  rw [len] at hN hB
  have hwb := hw
  unfold zrg at hwb
  refine ⟨hw, fun hc => e25 _ (hN (Or.inl hc) _ ws'), fun hc => ⟨⟨by have := hpw (by omega); omega, by omega⟩, ⟨by omega, by omega⟩, fun hc2 => ?_, fun hc2 => e25 _ (hN (Or.inr (by omega)) _ ws')⟩⟩
  refine ⟨_, loop (by omega) m 0 s p (by omega) s0 s3 s4 s7 s8 sl hp (hpw (by omega)) ?_ rfl⟩
  have : (sf (sg H m kind one 0 x L) m 0).length = pcn f m 0 := len
  omega
