/-! corner() -/
theorem c157_s {v1 v2 v3 v4 v7 X Y src : Int} {x : Nat} {s : Hp} {k : Int → Hp → Prop} {A : Int → Int} {K123 : Int → Int → Int → Int → Int → Int → Hp → Prop} (hX : X = 0 ∨ X = 1) (hY : Y = 0 ∨ Y = 1) (hv : v2 = X + 2 * Y) (h3 : zrg v3) (hx : x < 12) (hn : 1 ≤ v4 ∧ v4 ≤ 12) (hat : ∀ K : Int → Hp → Prop, K (A src) s → wX7_at v1 src s K) (hoff : v3 = 0 → K123 v1 v2 v3 v4 v7 ((x : Int) + 1) (zst s 24 x (A src - (1 - Y)))) (hnew : v3 ≠ 0 → ((X = 1 ∧ (x : Int) = v4) ∨ (X = 0 ∧ x = 0)) → K123 v1 v2 v3 v4 v7 ((x : Int) + 1) (zst s 24 x (if Y = 1 then v4 else 0))) (hold : v3 ≠ 0 → ¬ ((X = 1 ∧ (x : Int) = v4) ∨ (X = 0 ∧ x = 0)) → K123 v1 v2 v3 v4 v7 ((x : Int) + 1) (zst s 24 x (A src + (1 - Y)))) : wX7_corner_157 k K123 v1 v2 v3 v4 v7 x src s := by
  have htm : Int.tmod v2 2 = X := by rw [Int.tmod_eq_emod_of_nonneg (by omega)]; omega
  have h2 : zrg v2 := zr (by omega) (by omega)
  have h246 : ∀ y, K123 v1 v2 v3 v4 v7 ((x : Int) + 1) (zst s 24 x y) → wX7_corner_246 k K123 v1 v2 v3 v4 v7 x y x s := fun y hy => by
    refine ⟨⟨by omega, by omega⟩, ?_⟩
    rw [Int.toNat_natCast]
    exact hy
  have c209 : ∀ d, (v3 = 0 → K123 v1 v2 v3 v4 v7 ((x : Int) + 1) (zst s 24 x (A src + d))) → (v3 ≠ 0 → ¬ ((X = 1 ∧ (x : Int) = v4) ∨ (X = 0 ∧ x = 0)) → K123 v1 v2 v3 v4 v7 ((x : Int) + 1) (zst s 24 x (A src + d))) → wX7_corner_177 k K123 v1 v2 v3 v4 v7 x src d s := fun d hd1 hd2 => by
    refine ⟨h3, fun e => ⟨zrg_d rfl, fun _ => hat _ (h246 _ (hd1 e)), fun hc => absurd rfl hc⟩, fun e => ⟨h2, by rw [htm]; exact zr (by omega) (by omega), fun e2 => ?_, fun e2 => ?_⟩⟩
    · rw [htm] at e2
      refine ⟨zr (by omega) (by omega), zr (by omega) (by omega), fun e3 => ⟨zrg_d rfl, fun _ => hat _ (h246 _ (hd2 e (by omega))), fun hc => absurd rfl hc⟩, fun e3 => ⟨zrg_d rfl, fun hc => absurd hc (by decide), fun _ => ⟨h2, fun e4 => h246 _ ?_, fun e4 => h246 _ ?_⟩⟩⟩
      · have := hnew e (by omega); rw [if_pos (by omega)] at this; exact this
      · have := hnew e (by omega); rw [if_neg (by omega)] at this; exact this
    · rw [htm] at e2
      refine ⟨zr (by omega) (by omega), fun e3 => ⟨zrg_d rfl, fun _ => hat _ (h246 _ (hd2 e (by omega))), fun hc => absurd rfl hc⟩, fun e3 => ⟨zrg_d rfl, fun hc => absurd hc (by decide), fun _ => ⟨h2, fun e4 => h246 _ ?_, fun e4 => h246 _ ?_⟩⟩⟩
      · have := hnew e (by omega); rw [if_pos (by omega)] at this; exact this
      · have := hnew e (by omega); rw [if_neg (by omega)] at this; exact this
  refine ⟨h2, fun e => ⟨h3, fun e2 => c209 (-1) (fun _ => ?_) (fun hc => absurd e2 hc), fun e2 => c209 1 (fun hc => absurd hc e2) (fun _ hno => ?_)⟩, fun e => c209 0 (fun e2 => ?_) (fun e2 hno => ?_)⟩
  · have := hoff e2; rw [show A src - (1 - Y) = A src + -1 by omega] at this; exact this
  · have := hold e2 hno; rw [show A src + (1 - Y) = A src + 1 by omega] at this; exact this
  · have := hoff e2; rw [show A src - (1 - Y) = A src + 0 by omega] at this; exact this
  · have := hold e2 hno; rw [show A src + (1 - Y) = A src + 0 by omega] at this; exact this
/-- the row after a corner -/
def cf (A : Int → Int) (n X Y v3 : Int) (x : Nat) : Int := if v3 = 0 then A ((x : Int) + (1 - X)) - (1 - Y) else if (X = 1 ∧ (x : Int) = n) ∨ (X = 0 ∧ x = 0) then (if Y = 1 then n else 0) else A ((x : Int) - (1 - X)) + (1 - Y)
theorem c103_s {v1 v2 v3 X Y : Int} {n M : Nat} {s : Hp} {k : Int → Hp → Prop} {A : Int → Int} (h0 : 0 ≤ v1) (h5 : v1 ≤ 5) (hX : X = 0 ∨ X = 1) (hY : Y = 0 ∨ Y = 1) (hv : v2 = X + 2 * Y) (h3 : zrg v3) (hm : MW s v1.toNat) (hA : ∀ x, ma s v1.toNat x = A x) (hn : 1 ≤ n ∧ n ≤ 12) (hM : (v3 = 0 ∧ M + 1 = n) ∨ (v3 ≠ 0 ∧ M = n + 1)) (hM2 : 1 ≤ M ∧ M ≤ 12) (hk : ∀ t, Off P24 s t → k M (mf t v1.toNat M M (cf A n X Y v3) M)) : wX7_corner_103 k v1 v2 v3 n s := by
  have htm : Int.tmod v2 2 = X := by rw [Int.tmod_eq_emod_of_nonneg (by omega)]; omega
  have h2 : zrg v2 := zr (by omega) (by omega)
  have set : ∀ t, Off P24 s t → (∀ i, i < M → t 24 i = cf A n X Y v3 i) → ∀ (q i : Nat), i + q = M → wX7_corner_272 k (q + 1) v1 M i (mf t v1.toNat M M (cf A n X Y v3) i) := by
    intro t ht h24 q
    induction q with
    | zero =>
      intro i hi
      obtain rfl : i = M := by omega
      exact ⟨zr (by omega) (by omega), zr (by omega) (by omega), fun _ => hk t ht, fun hc => by omega⟩
    | succ q ih =>
      intro i hi
      have ih := ih (i + 1) (by omega)
      refine ⟨zr (by omega) (by omega), zr (by omega) (by omega), fun hc => by omega, fun _ => ⟨⟨by omega, by omega⟩, ⟨by omega, by omega⟩, ?_⟩⟩
      rw [Int.toNat_natCast, mf_o (by decide), h24 i (by omega), show (12 * v1 + (i : Int)).toNat = 12 * v1.toNat + i by omega, mf_step]
      rw [show ((i + 1 : Nat) : Int) = (i : Int) + 1 by omega] at ih
      exact ih
  have key : ∀ (q x : Nat) (t : Hp), x + q = M → Off P24 s t → (∀ i, i < x → t 24 i = cf A n X Y v3 i) → wX7_corner_123 k (q + 1) v1 v2 v3 n M x t := by
    intro q
    induction q with
    | zero =>
      intro x t hx ht h24
      obtain rfl : x = M := by omega
      refine ⟨zr (by omega) (by omega), zr (by omega) (by omega), fun _ => ⟨⟨by omega, by omega⟩, ?_⟩, fun hc => by omega⟩
      rw [mf_0 t v1.toNat x x (cf A n X Y v3)]
      exact ⟨_, set t ht h24 x 0 (by omega)⟩
    | succ q ih =>
      intro x t hx ht h24
      have t18 : t 18 = s 18 := ht 18 (by unfold P24; omega)
      have t20 : t 20 = s 20 := ht 20 (by unfold P24; omega)
      have nx : ∀ y, y = cf A n X Y v3 x → wX7_corner_123 k (q + 1) v1 v2 v3 n M ((x : Int) + 1) (zst t 24 x y) := fun y hy => by
        have ih := ih (x + 1) (zst t 24 x y) (by omega) (ht.st rfl) (fun i hi => by
          by_cases e : i = x
          · subst e; rw [zst_s, hy]
          · rw [zst_n (Or.inr e), h24 i (by omega)])
        rw [show ((x + 1 : Nat) : Int) = (x : Int) + 1 by omega] at ih
        exact ih
      have go : ∀ src : Int, (v3 = 0 → src = (x : Int) + (1 - X)) → (v3 ≠ 0 → src = (x : Int) - (1 - X)) → wX7_corner_157 k (fun v1 v2 v3 v4 v7 v8 σ => wX7_corner_123 k (q + 1) v1 v2 v3 v4 v7 v8 σ) v1 v2 v3 n M x src t := fun src e1 e2 => by
        refine c157_s (A := A) hX hY hv h3 (by omega) (by omega) (fun K hK => at_s h0 h5 (by rw [t18]; exact hm.1) (zr (by omega) (by omega)) (by rw [ma_eq t18 t20, hA]; exact hK)) (fun e => nx _ ?_) (fun e hc => nx _ ?_) (fun e hc => nx _ ?_)
        · rw [e1 e]; exact (if_pos e).symm
        · exact ((if_neg e).trans (if_pos hc)).symm
        · rw [e2 e]; exact ((if_neg e).trans (if_neg hc)).symm
      refine ⟨zr (by omega) (by omega), zr (by omega) (by omega), fun hc => by omega, fun _ => ⟨h2, by rw [htm]; exact zr (by omega) (by omega), fun hc => ⟨h3, fun e => ?_, fun e => ?_⟩, fun hc => ?_⟩⟩
      · rw [htm] at hc; exact go _ (fun _ => by omega) (fun h => absurd e h)
      · rw [htm] at hc; exact go _ (fun h => absurd h e) (fun _ => by omega)
      · rw [htm] at hc; exact go _ (fun _ => by omega) (fun _ => by omega)
  refine ⟨h3, fun e => ?_, fun e => ?_⟩
  · rw [show (n : Int) - 1 = (M : Int) by omega]
    exact ⟨_, key M 0 s (by omega) (Off.rf _ _) (fun i hi => absurd hi (by omega))⟩
  · rw [show (n : Int) + 1 = (M : Int) by omega]
    exact ⟨_, key M 0 s (by omega) (Off.rf _ _) (fun i hi => absurd hi (by omega))⟩
theorem cf_range {A : Int → Int} {X Y v3 : Int} {n M : Nat} (hX : X = 0 ∨ X = 1) (hY : Y = 0 ∨ Y = 1) (h1 : ∀ x : Nat, x < n → 0 ≤ A x ∧ A x < n) (h2 : ∀ i j : Nat, i < n → j < n → A i = A j → i = j) (hM : (v3 = 0 ∧ M + 1 = n ∧ A (if X = 0 then 0 else (n : Int) - 1) = (if Y = 0 then 0 else (n : Int) - 1)) ∨ (v3 ≠ 0 ∧ M = n + 1)) (x : Nat) (hx : x < M) : 0 ≤ cf A n X Y v3 x ∧ cf A n X Y v3 x < M := by
  rcases hM with ⟨e, hM, hc⟩ | ⟨e, hM⟩
  · rw [show cf A n X Y v3 x = A ((x : Int) + (1 - X)) - (1 - Y) from if_pos e]
    obtain ⟨y, hy⟩ : ∃ y : Nat, (x : Int) + (1 - X) = (y : Int) := ⟨((x : Int) + (1 - X)).toNat, by omega⟩
    obtain ⟨c, hcc⟩ : ∃ c : Nat, (if X = 0 then 0 else (n : Int) - 1) = (c : Int) := ⟨(if X = 0 then 0 else (n : Int) - 1).toNat, by split <;> omega⟩
    have hcn : c < n := by split at hcc <;> omega
    have hyc : y ≠ c := by split at hcc <;> omega
    have b := h1 y (by omega)
    have ne : A y ≠ A c := fun e2 => hyc (h2 y c (by omega) hcn e2)
    rw [hcc] at hc
    rw [hy]
    split at hc <;> omega
  · rw [show cf A n X Y v3 x = (if (X = 1 ∧ (x : Int) = n) ∨ (X = 0 ∧ x = 0) then (if Y = 1 then (n : Int) else 0) else A ((x : Int) - (1 - X)) + (1 - Y)) from if_neg e]
    split
    · split <;> omega
    · obtain ⟨y, hy⟩ : ∃ y : Nat, (x : Int) - (1 - X) = (y : Int) := ⟨((x : Int) - (1 - X)).toNat, by omega⟩
      have b := h1 y (by omega)
      rw [hy]
      omega
theorem takeOff_s {r n M : Nat} {X Y : Int} {σ : Hp} {k : Int → Hp → Prop} (hr : r < 6) (hX : X = 0 ∨ X = 1) (hY : Y = 0 ∨ Y = 1) (hR : RW σ r) (hN : σ (29 + r) 0 = n) (h1 : ∀ x : Nat, x < n → 0 ≤ ra σ r x ∧ ra σ r x < n) (h2 : ∀ i j : Nat, i < n → j < n → ra σ r i = ra σ r j → i = j) (hM : M + 1 = n) (hF : (n < 2 ∨ ra σ r (if X = 0 then 0 else (n : Int) - 1) ≠ (if Y = 0 then 0 else (n : Int) - 1)) → k (-2) σ) (hk : 2 ≤ n → ra σ r (if X = 0 then 0 else (n : Int) - 1) = (if Y = 0 then 0 else (n : Int) - 1) → ∀ s, CSet σ s r M M (cf (ra σ r) n X Y 0) → k M s) : wX6_takeOff r X Y σ k := by
  have hnb := hR.1
  have zX : zrg X := zr (by omega) (by omega)
  have zY : zrg Y := zr (by omega) (by omega)
  have run : 2 ≤ n → ra σ r (if X = 0 then 0 else (n : Int) - 1) = (if Y = 0 then 0 else (n : Int) - 1) → wX6_takeOff_66 k r n (1 - X) (1 - Y) σ := fun hn2 hc => by
    unfold wX6_takeOff_66
    rw [show (n : Int) - 1 = (M : Int) by omega]
    have rng := fun x hx => cf_range (v3 := 0) (M := M) hX hY h1 h2 (Or.inl ⟨rfl, hM, hc⟩) x hx
    refine shape_pf (cf (ra σ r) n X Y 0) (by omega) (by omega) (by omega) (by omega) ?_
    have key : ∀ (q x : Nat), x + q = M → wX6_takeOff_86 k (q + 1) r n (1 - X) (1 - Y) x (pf σ 6 M M (cf (ra σ r) n X Y 0) x) := by
      intro q
      induction q with
      | zero =>
        intro x hx
        obtain rfl : x = M := by omega
        refine ⟨zr (by omega) (by omega), zr (by omega) (by omega), fun _ => ?_, fun hc => by omega⟩
        refine spare_copy hr (by omega) (by omega) (by omega) (by omega) (fun s hs => ?_)
        show k (s (29 + r) 0) s
        rw [hs.2.1]
        exact hk hn2 hc s (hs.congr (fun y hy => if_pos (rng y (by omega))))
      | succ q ih =>
        intro x hx
        refine ⟨zr (by omega) (by omega), zr (by omega) (by omega), fun hc => by omega, fun _ => ?_⟩
        have e1 : pf σ 6 M M (cf (ra σ r) n X Y 0) x (29 + r) = σ (29 + r) := pf_o (by omega) (by omega)
        have e2 : pf σ 6 M M (cf (ra σ r) n X Y 0) x (36 + r) = σ (36 + r) := pf_o (by omega) (by omega)
        refine lineAt_s (by rw [e1]; exact hR.1) (zr (by omega) (by omega)) ?_
        rw [ra_eq e1 e2]
        have rb := ra_b hR ((x : Int) + (1 - X))
        refine put_pf (by omega) (by omega) (by omega) (by omega) (by omega) (zr (by omega) (by omega)) (show _ = cf (ra σ r) n X Y 0 x from (if_pos rfl).symm) ?_
        have ih := ih (x + 1) (by omega)
        rw [show ((x + 1 : Nat) : Int) = (x : Int) + 1 by omega] at ih
        exact ih
    exact ⟨_, key M 0 (by omega)⟩
  have s37 : ∀ c l : Int, c = (if X = 0 then 0 else (n : Int) - 1) → l = (if Y = 0 then 0 else (n : Int) - 1) → ¬ (n < 2) → wX6_takeOff_37 k r X Y n l c r σ := fun c l hc hl hn2 => by
    have hcb : -1 ≤ c ∧ c ≤ 12 := by split at hc <;> omega
    have hlb : -1 ≤ l ∧ l ≤ 12 := by split at hl <;> omega
    unfold wX6_takeOff_37 wX3_hasMark
    refine ⟨zr (by omega) (by omega), fun h => by omega, fun _ => lineAt_s hR.1 (zr (by omega) (by omega)) ⟨?_, fun hne => b0n (hF (Or.inr (by rw [← hc, ← hl]; exact hne))), fun he => b1n ?_⟩⟩
    · have := ra_b hR c
      exact zr (by omega) (by omega)
    · have he' : ra σ r c = l := Classical.not_not.mp he
      have go := run (by omega) (by rw [← hc, ← hl]; exact he')
      refine ⟨zX, fun e => ⟨zY, fun e2 => ?_, fun e2 => ?_⟩, fun e => ⟨zY, fun e2 => ?_, fun e2 => ?_⟩⟩
      · rw [show (1 : Int) - X = 1 by omega, show (1 : Int) - Y = 1 by omega] at go; exact go
      · rw [show (1 : Int) - X = 1 by omega, show (1 : Int) - Y = 0 by omega] at go; exact go
      · rw [show (1 : Int) - X = 0 by omega, show (1 : Int) - Y = 1 by omega] at go; exact go
      · rw [show (1 : Int) - X = 0 by omega, show (1 : Int) - Y = 0 by omega] at go; exact go
  show zrg (σ (29 + r) 0) ∧ _
  rw [hN]
  refine ⟨zr (by omega) (by omega), fun hc => hF (Or.inl (by omega)), fun hc => ⟨zX, fun e => ⟨zY, fun e2 => ?_, fun e2 => ?_⟩, fun e => ⟨zY, fun e2 => ?_, fun e2 => ?_⟩⟩⟩
  · exact s37 0 0 (if_pos e).symm (if_pos e2).symm (by omega)
  · exact s37 0 ((n : Int) - 1) (if_pos e).symm (if_neg e2).symm (by omega)
  · exact s37 ((n : Int) - 1) 0 (if_neg e).symm (if_pos e2).symm (by omega)
  · exact s37 ((n : Int) - 1) ((n : Int) - 1) (if_neg e).symm (if_neg e2).symm (by omega)
