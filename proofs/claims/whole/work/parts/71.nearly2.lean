/-! nearly(): the class -/
theorem newQ_s {n x : Nat} {L : Nat → Int} {s : Hp} {k : Int → Hp → Prop} (hx : x < 6) (hL : LBz n L (x + 1)) (hn : n ≤ 6) (hl : ∀ j, j ≤ x → s 11 j = L j) (hk : k (nwz L x) s) : wX2_newQuarrels x s k := by
  have inner : ∀ (d : Nat) (base : Int) (K4 : Int → Int → Int → Hp → Prop), 1 ≤ d → d < x → K4 x (base + zs (fun a => nz L x d a) 6) ((d : Int) + 1) s → ∀ (q a : Nat), a + d + q = x → wX2_newQuarrels_29 k K4 (q + 1) x (base + zs (fun a => nz L x d a) a) d (L x - L (x - d)) a s := by
    intro d base K4 h1 h2 hK q
    induction q with
    | zero =>
      intro a ha
      rw [zs_to (f := fun a => nz L x d a) (k := a) (n := 6) (by omega) (fun i i1 i2 => show nz L x d i = 0 from if_neg (by omega))] at hK
      exact ⟨zr (by omega) (by omega), zr (by omega) (by omega), fun _ => hK, fun hc => by omega⟩
    | succ q ih =>
      intro a ha
      have b1 := hL (a + d) (by omega)
      have b2 := hL a (by omega)
      have b3 := hL x (by omega)
      have b4 := hL (x - d) (by omega)
      have ih := ih (a + 1) (by omega)
      rw [show ((a + 1 : Nat) : Int) = (a : Int) + 1 by omega, show zs (fun a => nz L x d a) (a + 1) = zs (fun a => nz L x d a) a + nz L x d a from rfl, show nz L x d a = (if L (a + d) - L a = L x - L (x - d) then 1 else 0) from if_pos (by omega), ← Int.add_assoc] at ih
      refine ⟨zr (by omega) (by omega), zr (by omega) (by omega), fun hc => by omega, fun _ => ⟨⟨by omega, by omega⟩, ⟨by omega, by omega⟩, ?_⟩⟩
      rw [show ((a : Int) + (d : Int)).toNat = a + d by omega, Int.toNat_natCast, hl (a + d) (by omega), hl a (by omega)]
      refine ⟨zr (by omega) (by omega), zr (by omega) (by omega), fun hc => ?_, fun hc => ?_⟩
      · rw [if_neg hc, Int.add_zero] at ih; exact ih
      · rw [if_pos (Classical.not_not.mp hc)] at ih; exact ih
  have key : ∀ (q d : Nat), (d + q = x ∨ (q = 0 ∧ x ≤ d ∧ d ≤ 6)) → 1 ≤ d → wX2_newQuarrels_4 k (q + 1) x (zs (fun d => zs (fun a => nz L x d a) 6) d) d s := by
    intro q
    induction q with
    | zero =>
      intro d hd h1
      refine ⟨zr (by omega) (by omega), zr (by omega) (by omega), fun _ => ?_, fun hc => by omega⟩
      unfold nwz at hk
      rw [zs_to (f := fun d => zs (fun a => nz L x d a) 6) (k := d) (n := 6) (by omega) (fun i i1 i2 => zs_zero 6 (fun a _ => show nz L x i a = 0 from if_neg (by omega)))] at hk
      exact hk
    | succ q ih =>
      intro d hd h1
      have ih := ih (d + 1) (by omega) (by omega)
      rw [show ((d + 1 : Nat) : Int) = (d : Int) + 1 by omega] at ih
      refine ⟨zr (by omega) (by omega), zr (by omega) (by omega), fun hc => by omega, fun _ => ⟨⟨by omega, by omega⟩, ⟨by omega, by omega⟩, ?_⟩⟩
      rw [Int.toNat_natCast, show ((x : Int) - (d : Int)).toNat = x - d by omega, hl x (by omega), hl (x - d) (by omega)]
      have := inner d (zs (fun d => zs (fun a => nz L x d a) 6) d) _ h1 (by omega) ih (x - d) 0 (by omega)
      rw [show zs (fun a => nz L x d a) 0 = 0 from rfl, Int.add_zero] at this
      exact ⟨_, this⟩
  have z1 : zs (fun d => zs (fun a => nz L x d a) 6) 1 = 0 := zs_zero 1 (fun d hd => zs_zero 6 (fun a _ => show nz L x d a = 0 from if_neg (by omega)))
  have st := key (x - 1) 1 (by omega) (Nat.le_refl _)
  rw [z1] at st
  exact ⟨_, st⟩
def PS (σ s : Hp) (n : Nat) (L : Nat → Int) (x : Nat) : Prop := Same σ s ∧ s 10 1 = n ∧ ∀ j, j < x → s 11 j = L j
theorem countFrom_s {σ : Hp} {n : Nat} (hn : 1 ≤ n ∧ n ≤ 6) : ∀ (r x dp : Nat) (L : Nat → Int) (s : Hp) (q : Int) (k : Int → Hp → Prop), r + 1 ≤ dp → x + r = n → LBz n L x → 0 ≤ q → zrg q → PS σ s n L x → (∀ t, PS σ t n L x → k (cn n r x L q) t) → wX2_countFrom dp x (mk L x) q s k := by
  intro r
  induction r with
  | zero =>
    intro x dp L s q k hdp hx hL hq hz hs hk
    obtain ⟨d, rfl⟩ : ∃ d, dp = d + 1 := ⟨dp - 1, by omega⟩
    obtain rfl : x = n := by omega
    show wX2_countFrom_0 (wX2_countFrom d) x (mk L x) q s k
    refine ⟨zr (by omega) (by omega), by rw [hs.2.1]; exact zr (by omega) (by omega), fun _ => ⟨hz, fun hc => ?_, fun hc => ?_⟩, fun hc => by rw [hs.2.1] at hc; omega⟩
    · have := hk s hs
      rw [show cn x 0 x L q = 0 from if_neg hc] at this
      exact this
    · have := hk s hs
      rw [show cn x 0 x L q = 1 from if_pos (Classical.not_not.mp hc)] at this
      exact this
  | succ r ih =>
    intro x dp L s q k hdp hx hL hq hz hs hk
    obtain ⟨d, rfl⟩ : ∃ d, dp = d + 1 := ⟨dp - 1, by omega⟩
    show wX2_countFrom_0 (wX2_countFrom d) x (mk L x) q s k
    have ml := mk_lt (A := L) x (fun j hj => by have := hL j hj; omega)
    have loop : ∀ (e y : Nat) (t : Hp), y + e = n → PS σ t n L x → wX2_countFrom_30 (wX2_countFrom d) k (e + 1) x (mk L x) q (zs (fun y => if ∀ j, j < x → L j ≠ y then cn n r (x + 1) (upz L x y) (q - nwz (upz L x y) x) else 0) y) y t := by
      intro e
      induction e with
      | zero =>
        intro y t hy ht
        obtain rfl : y = n := by omega
        exact ⟨zr (by omega) (by omega), by rw [ht.2.1]; exact zr (by omega) (by omega), fun _ => hk t ht, fun hc => by rw [ht.2.1] at hc; omega⟩
      | succ e ihe =>
        intro y t hy ht
        have hzb : zand (zshr ((mk L x : Nat) : Int) (y : Int)) 1 = if (mk L x).testBit y = true then 1 else 0 := zbit (by omega) (by omega)
        have ihe := fun t => ihe (y + 1) t (by omega)
        rw [show ((y + 1 : Nat) : Int) = (y : Int) + 1 by omega, show zs (fun y => if ∀ j, j < x → L j ≠ y then cn n r (x + 1) (upz L x y) (q - nwz (upz L x y) x) else 0) (y + 1) = zs (fun y => if ∀ j, j < x → L j ≠ y then cn n r (x + 1) (upz L x y) (q - nwz (upz L x y) x) else 0) y + (if ∀ j, j < x → L j ≠ y then cn n r (x + 1) (upz L x y) (q - nwz (upz L x y) x) else 0) from rfl] at ihe
        refine ⟨zr (by omega) (by omega), by rw [ht.2.1]; exact zr (by omega) (by omega), fun hc => by rw [ht.2.1] at hc; omega, fun _ => ?_⟩
        rw [hzb]
        by_cases hb : (mk L x).testBit y = true
        · rw [if_pos hb]
          obtain ⟨j, hj, ej⟩ := (mk_bit L y x).mp hb
          have bj := hL j hj
          rw [if_neg (fun h => h j hj (by omega)), Int.add_zero] at ihe
          exact ⟨zrg_d rfl, fun _ => ihe t ht, fun hc => absurd (by decide) hc⟩
        · rw [if_neg hb]
          have hun : ∀ j, j < x → L j ≠ y := fun j hj ej => hb ((mk_bit L y x).mpr ⟨j, hj, by omega⟩)
          rw [if_pos hun] at ihe
          refine ⟨zrg_d rfl, fun hc => absurd rfl hc, fun _ => ⟨⟨by omega, by omega⟩, ?_⟩⟩
          rw [Int.toNat_natCast]
          have hL' : LBz n (upz L x y) (x + 1) := fun j hj => by
            by_cases e : j = x
            · subst e; rw [upz_s]; omega
            · rw [upz_n e]; exact hL j (by omega)
          have hz7 : ∀ j, j < x + 1 → zst t 11 x (y : Int) 11 j = upz L x y j := fun j hj => by
            by_cases e : j = x
            · subst e; rw [zst_s, upz_s]
            · rw [zst_n (Or.inr e), upz_n e, ht.2.2 j (by omega)]
          have hPS : PS σ (zst t 11 x (y : Int)) n (upz L x y) (x + 1) := ⟨ht.1.st (by unfold keep; omega), by rw [zst_np (by decide), ht.2.1], hz7⟩
          have back : ∀ u, PS σ u n (upz L x y) (x + 1) → PS σ u n L x := fun u hu => ⟨hu.1, hu.2.1, fun j hj => by rw [hu.2.2 j (by omega), upz_n (by omega)]⟩
          refine newQ_s (n := n) (by omega) hL' hn.2 (fun j hj => hz7 j (by omega)) ?_
          have nb := nwz_b (upz L x y) x
          have hz' := hz
          unfold zrg at hz'
          have zq : zrg (q - nwz (upz L x y) x) := ⟨by omega, by omega⟩
          refine ⟨zq, fun hc => ?_, fun hc => ?_⟩
          · rw [cn_neg n r (x + 1) _ _ hc, Int.add_zero] at ihe
            exact ihe _ (back _ hPS)
          · have em : zor ((mk L x : Nat) : Int) (zshl 1 (y : Int)) = ((mk (upz L x y) (x + 1) : Nat) : Int) := by
              have pl : 2 ^ y < 2 ^ 25 := pow25 (by omega)
              rw [zpow (by omega), z_or (by omega) (by omega)]
              show ((mk L x ||| 2 ^ y : Nat) : Int) = ((mk (upz L x y) x ||| 2 ^ (upz L x y x).toNat : Nat) : Int)
              rw [mk_congr (A := upz L x y) (B := L) x (fun j hj => upz_n (by omega)), upz_s, Int.toNat_natCast]
            rw [em, show (x : Int) + 1 = ((x + 1 : Nat) : Int) by omega]
            exact ih (x + 1) d (upz L x y) _ _ _ (by omega) (by omega) hL' (by omega) zq hPS (fun u hu => ihe u (back u hu))
    refine ⟨zr (by omega) (by omega), by rw [hs.2.1]; exact zr (by omega) (by omega), fun hc => by rw [hs.2.1] at hc; omega, fun _ => ⟨fun _ => ⟨_, loop n 0 s (by omega) hs⟩, fun hc => by omega⟩⟩
/-! nearly(): the reference -/
theorem laid_s {n : Nat} {L : Nat → Int} {s : Hp} {k : Int → Hp → Prop} (hn : 1 ≤ n ∧ n ≤ 6) (hL : LBz n L n) (hl : ∀ j, j < n → s 24 j = L j) (hk : k (Qz L n) s) : wX7_quarrelsLaid n s k := by
  have inn : ∀ (d a : Nat) (base : Int) (K12 : Int → Int → Int → Int → Hp → Prop), 1 ≤ d → a + d < n → K12 n (base + zs (fun c => Gz L n a c d) 6) d ((a : Int) + 1) s → ∀ (q c : Nat), a < c → (c + d + q = n ∨ (q = 0 ∧ n ≤ c + d ∧ c ≤ 6)) → wX7_quarrelsLaid_26 k K12 (q + 1) n (base + zs (fun c => Gz L n a c d) c) d a c s := by
    intro d a base K12 h1 h2 hK q
    induction q with
    | zero =>
      intro c hac hc
      rw [zs_to (f := fun c => Gz L n a c d) (k := c) (n := 6) (by omega) (fun i i1 i2 => show Gz L n a i d = 0 from if_neg (by omega))] at hK
      exact ⟨zr (by omega) (by omega), zr (by omega) (by omega), fun _ => hK, fun hx => by omega⟩
    | succ q ih =>
      intro c hac hc
      have b1 := hL (a + d) (by omega)
      have b2 := hL a (by omega)
      have b3 := hL (c + d) (by omega)
      have b4 := hL c (by omega)
      have ih := ih (c + 1) (by omega) (by omega)
      rw [show ((c + 1 : Nat) : Int) = (c : Int) + 1 by omega, show zs (fun c => Gz L n a c d) (c + 1) = zs (fun c => Gz L n a c d) c + Gz L n a c d from rfl, show Gz L n a c d = (if L (a + d) - L a = L (c + d) - L c then 1 else 0) from if_pos (by omega), ← Int.add_assoc] at ih
      refine ⟨zr (by omega) (by omega), zr (by omega) (by omega), fun hx => by omega, fun _ => ⟨⟨by omega, by omega⟩, ⟨by omega, by omega⟩, ⟨by omega, by omega⟩, ⟨by omega, by omega⟩, ?_⟩⟩
      rw [show ((a : Int) + (d : Int)).toNat = a + d by omega, show ((c : Int) + (d : Int)).toNat = c + d by omega, Int.toNat_natCast, Int.toNat_natCast, hl (a + d) (by omega), hl a (by omega), hl (c + d) (by omega), hl c (by omega)]
      refine ⟨zr (by omega) (by omega), zr (by omega) (by omega), fun he => ?_, fun he => ?_⟩
      · rw [if_neg he] at ih; exact ih
      · rw [if_pos (Classical.not_not.mp he)] at ih; exact ih
  have mid : ∀ (d : Nat) (base : Int) (K4 : Int → Int → Int → Hp → Prop), 1 ≤ d → d < n → K4 n (base + zs (fun a => zs (fun c => Gz L n a c d) 6) 6) ((d : Int) + 1) s → ∀ (q a : Nat), a + d + q = n → wX7_quarrelsLaid_12 k K4 (q + 1) n (base + zs (fun a => zs (fun c => Gz L n a c d) 6) a) d a s := by
    intro d base K4 h1 h2 hK q
    induction q with
    | zero =>
      intro a ha
      rw [zs_to (f := fun a => zs (fun c => Gz L n a c d) 6) (k := a) (n := 6) (by omega) (fun i i1 i2 => zs_zero 6 (fun c _ => show Gz L n i c d = 0 from if_neg (by omega)))] at hK
      exact ⟨zr (by omega) (by omega), zr (by omega) (by omega), fun _ => hK, fun hx => by omega⟩
    | succ q ih =>
      intro a ha
      have ih := ih (a + 1) (by omega)
      rw [show ((a + 1 : Nat) : Int) = (a : Int) + 1 by omega, show zs (fun a => zs (fun c => Gz L n a c d) 6) (a + 1) = zs (fun a => zs (fun c => Gz L n a c d) 6) a + zs (fun c => Gz L n a c d) 6 from rfl, ← Int.add_assoc] at ih
      refine ⟨zr (by omega) (by omega), zr (by omega) (by omega), fun hx => by omega, fun _ => ?_⟩
      have := inn d a (base + zs (fun a => zs (fun c => Gz L n a c d) 6) a) _ h1 (by omega) ih (n - (a + 1) - d) (a + 1) (by omega) (by omega)
      rw [show zs (fun c => Gz L n a c d) (a + 1) = 0 from zs_zero _ (fun c hc => show Gz L n a c d = 0 from if_neg (by omega)), Int.add_zero, show ((a + 1 : Nat) : Int) = (a : Int) + 1 by omega] at this
      exact ⟨_, this⟩
  have key : ∀ (q d : Nat), d + q = n → 1 ≤ d → wX7_quarrelsLaid_4 k (q + 1) n (zs (fun d => zs (fun a => zs (fun c => Gz L n a c d) 6) 6) d) d s := by
    intro q
    induction q with
    | zero =>
      intro d hd h1
      refine ⟨zr (by omega) (by omega), zr (by omega) (by omega), fun _ => ?_, fun hx => by omega⟩
      unfold Qz at hk
      rw [zs_to (f := fun d => zs (fun a => zs (fun c => Gz L n a c d) 6) 6) (k := d) (n := 6) (by omega) (fun i i1 i2 => zs_zero 6 (fun a _ => zs_zero 6 (fun c _ => show Gz L n a c i = 0 from if_neg (by omega))))] at hk
      exact hk
    | succ q ih =>
      intro d hd h1
      have ih := ih (d + 1) (by omega) (by omega)
      rw [show ((d + 1 : Nat) : Int) = (d : Int) + 1 by omega] at ih
      refine ⟨zr (by omega) (by omega), zr (by omega) (by omega), fun hx => by omega, fun _ => ?_⟩
      have := mid d (zs (fun d => zs (fun a => zs (fun c => Gz L n a c d) 6) 6) d) _ h1 (by omega) ih (n - d) 0 (by omega)
      rw [show zs (fun a => zs (fun c => Gz L n a c d) 6) 0 = 0 from rfl, Int.add_zero] at this
      exact ⟨_, this⟩
  have z1 : zs (fun d => zs (fun a => zs (fun c => Gz L n a c d) 6) 6) 1 = 0 := zs_zero 1 (fun d hd => zs_zero 6 (fun a _ => zs_zero 6 (fun c _ => show Gz L n a c d = 0 from if_neg (by omega))))
  have st := key (n - 1) 1 (by omega) (Nat.le_refl _)
  rw [z1] at st
  exact ⟨_, st⟩
