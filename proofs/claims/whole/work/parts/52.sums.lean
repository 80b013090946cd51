/-! sums() -/
def sh (p a b : Int) (x y : Nat) : Int := if (pw p a (x + 1) + pw p b (y + 1)) % p = 1 then 1 else 0
def ol (h : Nat → Int) : Nat → Int
  | 0 => 15
  | y + 1 => if h y = 1 then y else ol h y
def so (h : Nat → Int) (N : Nat) (w : Int) : Int := if zs h N = 1 then ol h N else w
theorem sh_or (p a b : Int) (x y : Nat) : sh p a b x y = 0 ∨ sh p a b x y = 1 := by unfold sh; split <;> omega
theorem zs_mono {h : Nat → Int} (hh : ∀ y, h y = 0 ∨ h y = 1) : ∀ (d y : Nat), zs h y ≤ zs h (y + d)
  | 0, y => Int.le_refl _
  | d + 1, y => by
    have := zs_mono hh d y
    show zs h y ≤ zs h (y + d) + h (y + d)
    have := hh (y + d)
    omega
theorem ol_b {h : Nat → Int} : ∀ y : Nat, (ol h y = 15 ∨ (0 ≤ ol h y ∧ ol h y < y))
  | 0 => Or.inl rfl
  | y + 1 => by
    have ih := ol_b (h := h) y
    by_cases e : h y = 1
    · rw [show ol h (y + 1) = (y : Int) from if_pos e]; omega
    · rw [show ol h (y + 1) = ol h y from if_neg e]; omega
theorem ol_z {h : Nat → Int} (hh : ∀ y, h y = 0 ∨ h y = 1) : ∀ y : Nat, zs h y = 0 → ol h y = 15
  | 0, _ => rfl
  | y + 1, e => by
    have e' : zs h y + h y = 0 := e
    have b := zs_mono hh y 0
    have b0 : zs h 0 = 0 := rfl
    rw [Nat.zero_add] at b
    have hy := hh y
    rw [show ol h (y + 1) = ol h y from if_neg (by omega)]
    exact ol_z hh y (by omega)
theorem ol_p {h : Nat → Int} (hh : ∀ y, h y = 0 ∨ h y = 1) : ∀ y : Nat, 1 ≤ zs h y → 0 ≤ ol h y ∧ ol h y < y
  | 0, e => absurd e (show ¬ ((1 : Int) ≤ 0) by decide)
  | y + 1, e => by
    have e' : 1 ≤ zs h y + h y := e
    have hy := hh y
    by_cases c : h y = 1
    · rw [show ol h (y + 1) = (y : Int) from if_pos c]; omega
    · rw [show ol h (y + 1) = ol h y from if_neg c]
      have := ol_p hh y (by omega)
      omega
theorem pw_1 {p a : Int} (h0 : 0 ≤ a) (h1 : a < p) : pw p a 1 = a := by
  show (1 * a) % p = a
  rw [Int.one_mul, Int.emod_eq_of_lt h0 h1]
theorem partner_s {p a b : Int} {x N : Nat} {σ : Hp} {k : Int → Hp → Prop} (hp : 3 ≤ p ∧ p ≤ 13) (hN : p - 2 = N) (hb : 0 ≤ b ∧ b < p) (hk : k (so (sh p a b x) N 15) σ) : wX6_onlyPartner (pw p a (x + 1)) b p σ k := by
  have hh := sh_or p a b x
  have pa := pw_b (p := p) (a := a) hp.1 (x + 1)
  have key : ∀ (q y : Nat), y + q = N → zs (sh p a b x) y ≤ 1 → wX6_onlyPartner_9 k (q + 1) (pw p a (x + 1)) b p (ol (sh p a b x) y) (pw p b (y + 1)) y σ := by
    intro q
    induction q with
    | zero =>
      intro y hy hz
      obtain rfl : y = N := by omega
      refine ⟨zr (by omega) (by omega), zr (by omega) (by omega), fun _ => ?_, fun hc => by omega⟩
      have e : so (sh p a b x) y 15 = ol (sh p a b x) y := by
        unfold so
        split
        · rfl
        · have bz := zs_mono hh y 0
          rw [Nat.zero_add] at bz
          have b0 : zs (sh p a b x) 0 = 0 := rfl
          exact (ol_z hh y (by omega)).symm
      rw [e] at hk
      exact hk
    | succ q ih =>
      intro y hy hz
      have pb := pw_b (p := p) (a := b) hp.1 (y + 1)
      have mb := mul_b (a := pw p b (y + 1)) (b := b) (by omega) (by omega)
      have ob := ol_b (h := sh p a b x) y
      have zs1 : zs (sh p a b x) (y + 1) = zs (sh p a b x) y + sh p a b x y := rfl
      have ih := ih (y + 1) (by omega)
      rw [show ((y + 1 : Nat) : Int) = (y : Int) + 1 by omega, zs1] at ih
      refine ⟨zr (by omega) (by omega), zr (by omega) (by omega), fun hc => by omega, fun _ => rest_s (zr (by omega) (by omega)) (zr (by omega) (by omega)) (by omega) ⟨?_, fun hc => ?_, fun hc => ⟨zr (by omega) (by omega), fun h15 => ?_, fun h15 => ?_⟩⟩⟩
      · have := md_b (pw p a (x + 1) + pw p b (y + 1)) (n := p) (by omega)
        exact zr (by omega) (by omega)
      · have e0 : sh p a b x y = 0 := if_neg hc
        rw [e0, show ol (sh p a b x) (y + 1) = ol (sh p a b x) y from if_neg (by omega)] at ih
        exact rest_s (zr (by omega) (by omega)) (zr (by omega) (by omega)) (by omega) (ih (by omega))
      · have e1 : sh p a b x y = 1 := if_pos (Classical.not_not.mp hc)
        have hz0 : zs (sh p a b x) y = 0 := by
          refine Classical.byContradiction (fun hne => ?_)
          have bz := zs_mono hh y 0
          rw [Nat.zero_add] at bz
          have b0 : zs (sh p a b x) 0 = 0 := rfl
          have := ol_p hh y (by omega)
          omega
        rw [e1, show ol (sh p a b x) (y + 1) = (y : Int) from if_pos e1] at ih
        exact rest_s (zr (by omega) (by omega)) (zr (by omega) (by omega)) (by omega) (ih (by omega))
      · have e1 : sh p a b x y = 1 := if_pos (Classical.not_not.mp hc)
        have hz1 : zs (sh p a b x) y ≠ 0 := fun h => h15 (ol_z hh y h)
        have bz := zs_mono hh y 0
        rw [Nat.zero_add] at bz
        have b0 : zs (sh p a b x) 0 = 0 := rfl
        have m2 := zs_mono hh (N - (y + 1)) (y + 1)
        rw [show y + 1 + (N - (y + 1)) = N by omega] at m2
        rw [show so (sh p a b x) N 15 = 15 from if_neg (by omega)] at hk
        exact hk
  have st := key N 0 (by omega) (show (0 : Int) ≤ 1 by decide)
  rw [show pw p b (0 + 1) = b from pw_1 hb.1 hb.2] at st
  exact ⟨_, st⟩
theorem so_b {h : Nat → Int} {N : Nat} (hh : ∀ y, h y = 0 ∨ h y = 1) (w : Int) : (0 ≤ so h N w ∧ so h N w < N) ∨ so h N w = w := by
  unfold so
  split
  · exact Or.inl (ol_p hh N (by omega))
  · exact Or.inr rfl
theorem sums_in {p a b v : Int} {x N : Nat} {s : Hp} {k : Int → Hp → Prop} {K55 : Int → Int → Int → Int → Int → Hp → Prop} (hp : 3 ≤ p ∧ p ≤ 13) (hN : p - 2 = N) (ha : 0 ≤ a ∧ a < p) (hb : 0 ≤ b ∧ b < p) (hx : x < N) (hK : ∀ t, Off P24 s t → (∀ j, j ≠ x → t 24 j = s 24 j) → t 24 x = so (sh p a b x) N (-1) → K55 p a b v ((x : Int) + 1) t) : ∀ (q y : Nat) (t : Hp), y + q = N → Off P24 s t → (∀ j, j ≠ x → t 24 j = s 24 j) → (1 ≤ zs (sh p a b x) y → t 24 x = ol (sh p a b x) y) → wX7_sums_69 k K55 (q + 1) p a b v x (zs (sh p a b x) y) y t := by
  have hh := sh_or p a b x
  have zb := fun y => zs_b (f := sh p a b x) (c := 1) (by decide) y (fun i _ => by have := hh i; omega)
  intro q
  induction q with
  | zero =>
    intro y t hy ht hj he
    obtain rfl : y = N := by omega
    have := zb y
    refine ⟨zr (by omega) (by omega), zr (by omega) (by omega), fun _ => ⟨zr (by omega) (by omega), fun hc => ⟨⟨by omega, by omega⟩, ?_⟩, fun hc => ⟨⟨by omega, by omega⟩, ⟨⟨by omega, by omega⟩, ?_⟩⟩⟩, fun hc => by omega⟩
    · rw [Int.toNat_natCast]
      refine hK _ (ht.st rfl) (fun j hj2 => by rw [zst_n (Or.inr hj2), hj j hj2]) ?_
      rw [zst_s]
      exact (if_neg hc).symm
    · rw [Int.toNat_natCast]
      refine hK _ (ht.st rfl) (fun j hj2 => by rw [zst_n (Or.inr hj2), hj j hj2]) ?_
      rw [zst_s, he (by omega)]
      exact (if_pos (Classical.not_not.mp hc)).symm
  | succ q ih =>
    intro y t hy ht hj he
    have z1 := zb y
    have zs1 : zs (sh p a b x) (y + 1) = zs (sh p a b x) y + sh p a b x y := rfl
    have pa := pw_b (p := p) (a := a) hp.1 (x + 1)
    have pb := pw_b (p := p) (a := b) hp.1 (y + 1)
    refine ⟨zr (by omega) (by omega), zr (by omega) (by omega), fun hc => by omega, fun _ => ?_⟩
    rw [show (x : Int) + 1 = ((x + 1 : Nat) : Int) by omega, show (y : Int) + 1 = ((y + 1 : Nat) : Int) by omega]
    refine power_s hp (by omega) (by omega) (power_s hp (by omega) (by omega) ?_)
    rw [Int.tmod_eq_emod_of_nonneg (by omega)]
    have mb := md_b (pw p a (x + 1) + pw p b (y + 1)) (n := p) (by omega)
    refine ⟨zr (by omega) (by omega), zr (by omega) (by omega), by omega, zr (by omega) (by omega), fun hc => ?_, fun hc => ⟨⟨by omega, by omega⟩, ?_⟩⟩
    · have e0 : sh p a b x y = 0 := if_neg hc
      have := ih (y + 1) t (by omega) ht hj (by
        rw [zs1, e0, show ol (sh p a b x) (y + 1) = ol (sh p a b x) y from if_neg (by omega)]
        intro h
        exact he (by omega))
      rw [zs1, e0, Int.add_zero] at this
      exact this
    · have e1 : sh p a b x y = 1 := if_pos (Classical.not_not.mp hc)
      have := ih (y + 1) (zst t 24 x y) (by omega) (ht.st rfl) (fun j hj2 => by rw [zst_n (Or.inr hj2), hj j hj2]) (fun _ => by
        rw [zst_s]
        exact (if_pos e1).symm)
      rw [zs1, e1] at this
      rw [Int.toNat_natCast]
      exact this
theorem T_sums {K : Hp → Prop} (hK : ∀ σ, Inv σ → K σ) {v1 v2 v3 v4 : Int} (h1 : zrg v1) (h2 : zrg v2) (h3 : zrg v3) (h4 : zrg v4) {σ : Hp} (hI : Inv σ) : wX6_sums v1 v2 v3 v4 σ (fun a s => wX7_sums v1 v2 v3 v4 s (fun b t => zrg a ∧ zrg b ∧ ((a = b → K t) ∧ (¬ (a = b) → False)))) := by
  have fok : zrg (-1) ∧ zrg (-1) ∧ (((-1 : Int) = -1 → K σ) ∧ (¬ ((-1 : Int) = -1) → False)) := fin rfl (zrg_d rfl) (hK _ hI)
  have bad : ¬ (Pr v1 ∧ v1 ≠ 3 ∧ 2 ≤ v2 ∧ v2 ≤ v1 - 1 ∧ 2 ≤ v3 ∧ v3 ≤ v1 - 1 ∧ 0 ≤ v4 ∧ v4 ≤ 5) → wX7_sums v1 v2 v3 v4 σ (fun b t => zrg (-1) ∧ zrg b ∧ (((-1) = b → K t) ∧ (¬ ((-1) = b) → False))) := fun hb => by
    refine prime_br h1 (fun _ => fok) (fun hp => ⟨h1, fun _ => fok, fun h3' => ⟨h2, ?_⟩⟩)
    have hpb : 3 ≤ v1 ∧ v1 ≤ 13 := by unfold Pr at hp; omega
    refine ⟨zr (by omega) (by omega), ibr h2 (zrg_d rfl) (zr (by omega) (by omega)) (fun _ => fok) (fun c1 c2 => ⟨h3, ?_⟩)⟩
    refine ibr h3 (zrg_d rfl) (zr (by omega) (by omega)) (fun _ => fok) (fun d1 d2 => ?_)
    exact isRow_brn h4 (fun _ => fok) (fun e1 e2 => absurd ⟨hp, h3', c1, c2, d1, d2, e1, e2⟩ hb)
  unfold wX6_sums
  refine rowAt_br h4 (fun hc => ?_) (fun e1 e2 => ?_)
  · have bad' := bad (by omega)
    refine told_br h1 (fun _ => bad') (fun hp => ⟨h1, fun _ => bad', fun _ => ?_⟩)
    have hpb : 3 ≤ v1 ∧ v1 ≤ 13 := by unfold Pr at hp; omega
    refine wbr h2 (zrg_d rfl) (zr (by omega) (by omega)) (fun _ => bad') (fun _ _ => ?_)
    exact wbr h3 (zrg_d rfl) (zr (by omega) (by omega)) (fun _ => bad') (fun _ _ => bad')
  refine told_br h1 (fun hp => bad (fun h => hp h.1)) (fun hp => ⟨h1, fun hc => bad (by unfold Pr at *; omega), fun hc5 => ?_⟩)
  have hpb : 3 ≤ v1 ∧ v1 ≤ 13 := by unfold Pr at hp; omega
  refine wbr h2 (zrg_d rfl) (zr (by omega) (by omega)) (fun hc => bad (by omega)) (fun c1 c2 => ?_)
  refine wbr h3 (zrg_d rfl) (zr (by omega) (by omega)) (fun hc => bad (by omega)) (fun d1 d2 => ?_)
  obtain ⟨N, hN⟩ : ∃ N : Nat, v1 - 2 = (N : Int) := ⟨(v1 - 2).toNat, by omega⟩
  rw [hN]
  have sor := fun x => sh_or v1 v2 v3 x
  have sqe : SQ (fun x => so (sh v1 v2 v3 x) N 15) N ↔ SQ (fun x => so (sh v1 v2 v3 x) N (-1)) N := by
    have same : ∀ x, (0 ≤ so (sh v1 v2 v3 x) N 15 ∧ so (sh v1 v2 v3 x) N 15 < N) ∨ (0 ≤ so (sh v1 v2 v3 x) N (-1) ∧ so (sh v1 v2 v3 x) N (-1) < N) → so (sh v1 v2 v3 x) N 15 = so (sh v1 v2 v3 x) N (-1) := fun x h => by
      unfold so at *
      split
      · rfl
      · rename_i hn
        rw [if_neg hn, if_neg hn] at h
        omega
    constructor
    · intro h
      refine ⟨fun x hx => ?_, fun i j hi hj e => h.2 i j hi hj ?_⟩
      · have := h.1 x hx
        have e := same x (Or.inl this)
        show 0 ≤ so (sh v1 v2 v3 x) N (-1) ∧ so (sh v1 v2 v3 x) N (-1) < N
        rw [← e]; exact this
      · show so (sh v1 v2 v3 i) N 15 = so (sh v1 v2 v3 j) N 15
        rw [same i (Or.inl (h.1 i hi)), same j (Or.inl (h.1 j hj))]
        exact e
    · intro h
      refine ⟨fun x hx => ?_, fun i j hi hj e => h.2 i j hi hj ?_⟩
      · have := h.1 x hx
        have e := same x (Or.inr this)
        show 0 ≤ so (sh v1 v2 v3 x) N 15 ∧ so (sh v1 v2 v3 x) N 15 < N
        rw [e]; exact this
      · show so (sh v1 v2 v3 i) N (-1) = so (sh v1 v2 v3 j) N (-1)
        rw [← same i (Or.inr (h.1 i hi)), ← same j (Or.inr (h.1 j hj))]
        exact e
  have sqv : SQ (fun x => so (sh v1 v2 v3 x) N (-1)) N → ∀ x : Nat, (x : Int) < N → so (sh v1 v2 v3 x) N 15 = so (sh v1 v2 v3 x) N (-1) := fun h x hx => by
    have := h.1 x (by omega)
    have h' : 0 ≤ so (sh v1 v2 v3 x) N (-1) ∧ so (sh v1 v2 v3 x) N (-1) < N := this
    unfold so at *
    split
    · rfl
    · rename_i hn
      rw [if_neg hn] at h'
      omega
  refine shape_pf (fun x => so (sh v1 v2 v3 x) N 15) (by omega) (by omega) (by omega) (by omega) ?_
  have ref : ∀ (z : Int) (s : Hp), (SQ (fun x => so (sh v1 v2 v3 x) N (-1)) N → z = N ∧ CSet σ s v4.toNat N N (fun x => so (sh v1 v2 v3 x) N (-1))) → (¬ SQ (fun x => so (sh v1 v2 v3 x) N (-1)) N → z = -2 ∧ Same σ s) → wX7_sums v1 v2 v3 v4 s (fun b t => zrg z ∧ zrg b ∧ ((z = b → K t) ∧ (¬ (z = b) → False))) := fun z s zS zF => by
    refine prime_br h1 (fun hc => absurd hp hc) (fun _ => ⟨h1, fun hc => by omega, fun _ => ⟨h2, zr (by omega) (by omega), ?_⟩⟩)
    refine ibr h2 (zrg_d rfl) (zr (by omega) (by omega)) (fun _ => by omega) (fun _ _ => ⟨h3, ?_⟩)
    refine ibr h3 (zrg_d rfl) (zr (by omega) (by omega)) (fun _ => by omega) (fun _ _ => ?_)
    refine isRow_brn h4 (fun _ => by omega) (fun _ _ => ?_)
    have key : ∀ (q x : Nat) (t : Hp), x + q = N → Off P24 s t → (∀ j, j < x → t 24 j = so (sh v1 v2 v3 j) N (-1)) → wX7_sums_55 (fun b t => zrg z ∧ zrg b ∧ ((z = b → K t) ∧ (¬ (z = b) → False))) (q + 1) v1 v2 v3 v4 x t := by
      intro q
      induction q with
      | zero =>
        intro x t hx ht hj
        obtain rfl : x = N := by omega
        have hst : Same s t := ht.same (fun p j hk => by unfold keep at hk; unfold P24; omega)
        refine ⟨zr (by omega) (by omega), zr (by omega) (by omega), fun _ => ?_, fun hc => by omega⟩
        rw [hN]
        refine made_s (f := fun j => so (sh v1 v2 v3 j) x (-1)) e1 e2 (by omega) (by omega) hj (fun j _ => by
          have := so_b (N := x) (sor j) (-1)
          show zrg (so (sh v1 v2 v3 j) x (-1))
          exact zr (by omega) (by omega)) (fun hq => ?_) (fun hq => ?_)
        · obtain ⟨z1, z2⟩ := zS hq
          exact fin z1 (zr (by omega) (by omega)) (hK _ (hI.set (by omega) (hq.v (by omega) (by omega)) (z2.tr (by omega) hst) (mf_set rfl (by omega))))
        · obtain ⟨z1, z2⟩ := zF hq
          exact fin z1 (zr (by omega) (by omega)) (hK _ (hI.same (z2.tr hst)))
      | succ q ih =>
        intro x t hx ht hj
        refine ⟨zr (by omega) (by omega), zr (by omega) (by omega), fun hc => by omega, fun _ => ⟨N + 1, ?_⟩⟩
        refine sums_in (s := t) (N := N) (x := x) hpb hN (by omega) (by omega) (by omega) (fun u hu hju hxu => ?_) N 0 t (by omega) (Off.rf _ _) (fun _ _ => rfl) (fun h => absurd h (show ¬ ((1 : Int) ≤ 0) by decide))
        have ih := ih (x + 1) u (by omega) (ht.tr hu) (fun j hj2 => by
          by_cases e : j = x
          · subst e; exact hxu
          · rw [hju j e, hj j (by omega)])
        rw [show ((x + 1 : Nat) : Int) = (x : Int) + 1 by omega] at ih
        exact ih
    exact ⟨_, key N 0 s (by omega) (Off.rf _ _) (fun j hj => absurd hj (by omega))⟩
  have key : ∀ (q x : Nat), x + q = N → wX6_sums_71 (fun a s => wX7_sums v1 v2 v3 v4 s (fun b t => zrg a ∧ zrg b ∧ ((a = b → K t) ∧ (¬ (a = b) → False)))) (q + 1) v1 v2 v3 v4.toNat N (pw v1 v2 (x + 1)) x (pf σ 6 N N (fun x => so (sh v1 v2 v3 x) N 15) x) := by
    intro q
    induction q with
    | zero =>
      intro x hx
      obtain rfl : x = N := by omega
      refine ⟨zr (by omega) (by omega), zr (by omega) (by omega), fun _ => ?_, fun hc => by omega⟩
      exact keepSquare_s (by omega) (by omega) (by omega) (fun hq s hs => ref _ s (fun hq2 => ⟨rfl, hs.congr (sqv hq2)⟩) (fun hn => absurd (sqe.mp hq) hn)) (fun hn s hs => ref _ s (fun hq => absurd (sqe.mpr hq) hn) (fun _ => ⟨rfl, hs⟩))
    | succ q ih =>
      intro x hx
      have pb := pw_b (p := v1) (a := v2) hpb.1 (x + 1)
      have mb := mul_b (a := pw v1 v2 (x + 1)) (b := v2) (by omega) (by omega)
      refine ⟨zr (by omega) (by omega), zr (by omega) (by omega), fun hc => by omega, fun _ => ?_⟩
      refine partner_s hpb hN (by omega) ?_
      have sb := so_b (N := N) (sor x) 15
      refine put_pf (by omega) (by omega) (by omega) (by omega) (by omega) (zr (by omega) (by omega)) rfl ?_
      refine rest_s (zr (by omega) (by omega)) h1 (by omega) ?_
      have ih := ih (x + 1) (by omega)
      rw [show ((x + 1 : Nat) : Int) = (x : Int) + 1 by omega] at ih
      exact ih
  have st := key N 0 (by omega)
  rw [show pw v1 v2 (0 + 1) = v2 from pw_1 (by omega) (by omega)] at st
  exact ⟨_, st⟩
