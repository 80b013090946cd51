/-! found() and among(): the reference, and both -/
theorem finds_in {v : Int} {X d : Nat} {σ s : Hp} {k : Hp → Prop} {K16 : Int → Int → Int → Hp → Prop} {fp : Int} (h0 : 0 ≤ v) (h5 : v ≤ 5) (hI : Inv σ) (hs : Same σ s) (hX : X < 19) (hd : d < 41) (hf : fp = em (σ 13) (σ 14) (σ 12 2).toNat (ra σ v.toNat) (σ (29 + v.toNat) 0).toNat (41 * X + d)) (hb : -1 ≤ s 17 15 ∧ s 17 15 ≤ 12) (hK1 : fp ≤ s 17 15 → K16 v X ((d : Int) - 20 + 1) s) (hK2 : ¬ (fp ≤ s 17 15) → K16 v X ((d : Int) - 20 + 1) (zst (zst (zst s 17 15 fp) 17 16 X) 17 17 ((d : Int) - 20))) : ∀ (q x : Nat), (x : Int) + q = σ (29 + v.toNat) 0 → wX7_finds_28 k K16 (q + 1) v X ((d : Int) - 20) (em (σ 13) (σ 14) (σ 12 2).toNat (ra σ v.toNat) x (41 * X + d)) x s := by
  have hIs := hI.same hs
  have hr := hIs.row h0 h5
  have hr0 := hI.row h0 h5
  have hv6 : v.toNat < 6 := by omega
  have e1 := hs.r1 hv6
  have er := hs.ra hv6
  have hE := hI.2.2
  have hEs := hIs.2.2
  have s13 : s 13 = σ 13 := hs.fn (fun j => by unfold keep; omega)
  have s14 : s 14 = σ 14 := hs.fn (fun j => by unfold keep; omega)
  have s12 : s 12 2 = σ 12 2 := hs 12 2 (by unfold keep; omega)
  have hnb := hr0.1.1
  have hm2 := hr0.1.2.1
  have hn2 : s 18 v.toNat = σ (29 + v.toNat) 0 := by rw [hr.2.1, e1]
  have emb := fun n => em_b (A := ra σ v.toNat) (n := n) (p := 41 * X + d) hE
  intro q
  induction q with
  | zero =>
    intro x hx
    have hxe : (σ (29 + v.toNat) 0).toNat = x := by omega
    rw [hxe] at hf
    have := emb x
    rw [← hf] at *
    refine ⟨⟨by omega, by omega⟩, zr (by omega) (by omega), by rw [hn2]; exact zr (by omega) (by omega), fun _ => ⟨zr (by omega) (by omega), zr (by omega) (by omega), hK1, hK2⟩, fun hc => by rw [hn2] at hc; omega⟩
  | succ q ih =>
    intro x hx
    have ih := ih (x + 1) (by omega)
    rw [show ((x + 1 : Nat) : Int) = (x : Int) + 1 by omega, show em (σ 13) (σ 14) (σ 12 2).toNat (ra σ v.toNat) (x + 1) (41 * X + d) = em (σ 13) (σ 14) (σ 12 2).toNat (ra σ v.toNat) x (41 * X + d) + ee (σ 13) (σ 14) (σ 12 2).toNat (ra σ v.toNat) (41 * X + d) x from rfl] at ih
    have rv := ra_v hr0.1 (x : Int)
    refine ⟨⟨by omega, by omega⟩, zr (by omega) (by omega), by rw [hn2]; exact zr (by omega) (by omega), fun hc => by rw [hn2] at hc; omega, fun _ => ?_⟩
    refine at_s h0 h5 hr.mw.1 (zr (by omega) (by omega)) ?_
    rw [hr.mra, er]
    refine ⟨zr (by omega) (by omega), fun hc => ?_, fun hc => ?_⟩
    · rw [show ee (σ 13) (σ 14) (σ 12 2).toNat (ra σ v.toNat) (41 * X + d) x = 0 from if_pos (by omega)] at ih
      exact ih
    refine at_s h0 h5 hr.mw.1 (zr (by omega) (by omega)) ?_
    rw [hr.mra, er]
    have c1 : ((41 * X + d : Nat) : Int) / 41 = X := by omega
    have c2 : ((41 * X + d : Nat) : Int) % 41 = d := by omega
    by_cases hj : ∃ j : Nat, (j : Int) < σ 12 2 ∧ σ 13 j = (x : Int) + X ∧ σ 14 j = ra σ v.toNat x + ((d : Int) - 20)
    · obtain ⟨j, a, b, c⟩ := hj
      have hj2 := hEs.2.2.1 j (by rw [s12]; exact a)
      rw [s13, s14] at hj2
      rw [ee_t hE (by omega) a (by rw [c1]; exact b) (by rw [c2]; exact c)] at ih
      refine isHeard_t hEs.m (zr (by omega) (by omega)) (zr (by omega) (by omega)) (j0 := j) (by rw [hEs.2.1, s12]; exact a) (by rw [hj2.2.2.1]; exact b) (by rw [hj2.2.2.2]; exact c) (b1e ih)
    · rw [ee_f (fun j a b => hj ⟨j, a, by rw [c1, c2] at b; exact b⟩)] at ih
      refine isHeard_f hEs.m (zr (by omega) (by omega)) (zr (by omega) (by omega)) (fun j a b => hj ⟨j, ?_⟩) (b0e ih)
      rw [hEs.2.1, s12] at a
      have hj2 := hEs.2.2.1 j (by rw [s12]; exact a)
      rw [s13, s14] at hj2
      rw [hj2.2.2.1, hj2.2.2.2] at b
      exact ⟨a, b⟩
def Fc (f : Nat → Int) (s : Hp) (i : Nat) : Prop := s 17 15 = (bf f (-1) i).1 ∧ (i = 0 ∨ (s 17 16 = (bf f (-1) i).2 / 41 ∧ s 17 17 = (bf f (-1) i).2 % 41 - 20))
theorem finds_s {v : Int} {σ : Hp} {k : Hp → Prop} {f : Nat → Int} (h0 : 0 ≤ v) (h5 : v ≤ 5) (hI : Inv σ) (hf : f = em (σ 13) (σ 14) (σ 12 2).toNat (ra σ v.toNat) (σ (29 + v.toNat) 0).toNat) (hk : ∀ s, Same σ s → s 17 15 = (bf f (-1) 779).1 → s 17 16 = (bf f (-1) 779).2 / 41 → s 17 17 = (bf f (-1) 779).2 % 41 - 20 → k s) : wX7_finds v σ k := by
  have hr0 := hI.row h0 h5
  have hnb := hr0.1.1
  have hfb : ∀ p, 0 ≤ f p ∧ f p ≤ 12 := fun p => by
    have := em_b (A := ra σ v.toNat) (n := (σ (29 + v.toNat) 0).toNat) (p := p) hI.2.2
    rw [hf]
    omega
  have mid : ∀ (X : Nat) (K7 : Int → Int → Hp → Prop), X < 19 → (∀ s, Same σ s → Fc f s (41 * X + 41) → K7 v ((X : Int) + 1) s) → ∀ (q d : Nat) (s : Hp), d + q = 41 → Same σ s → Fc f s (41 * X + d) → wX7_finds_16 k K7 (q + 1) v X ((d : Int) - 20) s := by
    intro X K7 hX hK q
    induction q with
    | zero =>
      intro d s hd hs hF
      obtain rfl : d = 41 := by omega
      exact ⟨zr (by omega) (by omega), fun _ => hK s hs hF, fun hc => absurd (by decide) hc⟩
    | succ q ih =>
      intro d s hd hs hF
      have bb := bf_b (f := f) (e := -1) (41 * X + d) (fun j _ => hfb j)
      refine ⟨zr (by omega) (by omega), fun hc => by omega, fun _ => ⟨(σ (29 + v.toNat) 0).toNat + 1, ?_⟩⟩
      refine finds_in (k := k) (X := X) (d := d) (fp := f (41 * X + d)) h0 h5 hI hs hX (by omega) (by rw [hf]) (by rw [hF.1]; omega) (fun hc => ?_) (fun hc => ?_) _ 0 (by omega)
      · rw [hF.1] at hc
        have eb : bf f (-1) (41 * X + d + 1) = bf f (-1) (41 * X + d) := (if_neg (by omega)).trans (if_pos hc)
        have := ih (d + 1) s (by omega) hs (by
          unfold Fc
          rw [show 41 * X + (d + 1) = 41 * X + d + 1 by omega, eb]
          refine ⟨hF.1, Or.inr ?_⟩
          rcases hF.2 with h | h
          · rw [h] at hc
            have e0 : (bf f (-1) 0).1 = -1 := rfl
            have := hfb 0
            omega
          · exact h)
        rw [show ((d + 1 : Nat) : Int) - 20 = (d : Int) - 20 + 1 by omega] at this
        exact this
      · rw [hF.1] at hc
        have eb : bf f (-1) (41 * X + d + 1) = (f (41 * X + d), ((41 * X + d : Nat) : Int)) := (if_neg (by omega)).trans (if_neg hc)
        have := ih (d + 1) (zst (zst (zst s 17 15 (f (41 * X + d))) 17 16 X) 17 17 ((d : Int) - 20)) (by omega) (((hs.st (by unfold keep; omega)).st (by unfold keep; omega)).st (by unfold keep; omega)) (by
          unfold Fc
          rw [show 41 * X + (d + 1) = 41 * X + d + 1 by omega, eb]
          refine ⟨?_, Or.inr ⟨?_, ?_⟩⟩
          · rw [zst_n (Or.inr (by decide)), zst_n (Or.inr (by decide)), zst_s]
          · rw [zst_n (Or.inr (by decide)), zst_s]
            show (X : Int) = ((41 * X + d : Nat) : Int) / 41
            omega
          · rw [zst_s]
            show (d : Int) - 20 = ((41 * X + d : Nat) : Int) % 41 - 20
            omega)
        rw [show ((d + 1 : Nat) : Int) - 20 = (d : Int) - 20 + 1 by omega] at this
        exact this
  have key : ∀ (q X : Nat) (s : Hp), X + q = 19 → Same σ s → Fc f s (41 * X) → wX7_finds_7 k (q + 1) v X s := by
    intro q
    induction q with
    | zero =>
      intro X s hX hs hF
      obtain rfl : X = 19 := by omega
      refine ⟨zr (by omega) (by omega), fun _ => ?_, fun hc => absurd (by decide) hc⟩
      rcases hF.2 with h | h
      · exact absurd h (by decide)
      · exact hk s hs hF.1 h.1 h.2
    | succ q ih =>
      intro X s hX hs hF
      refine ⟨zr (by omega) (by omega), fun hc => by omega, fun _ => ⟨42, ?_⟩⟩
      exact mid X _ (by omega) (fun t ht hFt => by
        have := ih (X + 1) t (by omega) ht hFt
        rw [show ((X + 1 : Nat) : Int) = (X : Int) + 1 by omega] at this
        exact this) 41 0 s (by decide) hs hF
  refine ⟨_, key 19 0 (zst σ 17 15 (-1)) (by decide) ((Same.rf σ).st (by unfold keep; omega)) ⟨?_, Or.inl rfl⟩⟩
  rw [zst_s]
  rfl
theorem em_same {σ s : Hp} (hs : Same σ s) {r : Nat} (hr : r < 6) : em (s 13) (s 14) (s 12 2).toNat (ra s r) (s (29 + r) 0).toNat = em (σ 13) (σ 14) (σ 12 2).toNat (ra σ r) (σ (29 + r) 0).toNat := by
  rw [hs.fn (p := 13) (fun j => by unfold keep; omega), hs.fn (p := 14) (fun j => by unfold keep; omega), hs 12 2 (by unfold keep; omega), hs.ra hr, hs.r1 hr]
theorem em_fb {σ : Hp} {r : Nat} (hI : Inv σ) (hr : r < 6) (p : Nat) : 0 ≤ em (σ 13) (σ 14) (σ 12 2).toNat (ra σ r) (σ (29 + r) 0).toNat p ∧ em (σ 13) (σ 14) (σ 12 2).toNat (ra σ r) (σ (29 + r) 0).toNat p ≤ 12 := by
  have := em_b (A := ra σ r) (n := (σ (29 + r) 0).toNat) (p := p) hI.2.2
  have hnb := (hI.1 r hr).1.1
  omega
theorem T_found {K : Hp → Prop} (hK : ∀ σ, Inv σ → K σ) {v1 v2 : Int} (h1 : zrg v1) (h2 : zrg v2) {σ : Hp} (hI : Inv σ) : wX6_found v1 v2 σ (fun a s => wX7_found v1 v2 s (fun b t => zrg a ∧ zrg b ∧ ((a = b → K t) ∧ (¬ (a = b) → False)))) := by
  have fok : zrg (-100) ∧ zrg (-100) ∧ (((-100 : Int) = -100 → K σ) ∧ (¬ ((-100 : Int) = -100) → False)) := fin rfl (zrg_d rfl) (hK _ hI)
  have bad : v1 < 0 ∨ 5 < v1 ∨ v2 < 0 ∨ 2 < v2 → wX7_found v1 v2 σ (fun b t => zrg (-100) ∧ zrg b ∧ (((-100) = b → K t) ∧ (¬ ((-100) = b) → False))) := fun hb => by
    refine isRow_br h1 (fun _ => fok) (fun a1 a2 => ⟨h2, ?_⟩)
    exact ibrn h2 (zrg_d rfl) (zrg_d rfl) (fun _ => fok) (fun d1 d2 => by omega)
  unfold wX6_found
  refine rowAt_br h1 (fun hc => bad (by omega)) (fun a1 a2 => ?_)
  refine wbrn h2 (zrg_d rfl) (zrg_d rfl) (fun hc => bad (by omega)) (fun d1 d2 => ?_)
  have hv6 : v1.toNat < 6 := by omega
  refine seek_s hv6 (hI.row a1 a2).1 hI.2.2 (fun s hs s4 s5 => ?_)
  have hIs := hI.same hs
  have fb := em_fb hI hv6
  generalize hf : em (σ 13) (σ 14) (σ 12 2).toNat (ra σ v1.toNat) (σ (29 + v1.toNat) 0).toNat = f at *
  have bb := bf_b (f := f) (e := -1) 779 (fun j _ => fb j)
  have ref : ∀ z : Int, zrg z → (v2 = 0 → z = (bf f (-1) 779).1) → (v2 = 1 → z = (bf f (-1) 779).2 / 41) → (v2 = 2 → z = (bf f (-1) 779).2 % 41 - 20) → wX7_found v1 v2 s (fun b t => zrg z ∧ zrg b ∧ ((z = b → K t) ∧ (¬ (z = b) → False))) := fun z hz z0 z1 z2 => by
    refine isRow_br h1 (fun hc => by omega) (fun _ _ => ⟨h2, ?_⟩)
    refine ibrn h2 (zrg_d rfl) (zrg_d rfl) (fun hc => by omega) (fun _ _ => ?_)
    refine finds_s (f := f) a1 a2 hIs (by rw [em_same hs hv6, hf]) (fun t ht t1 t2 t3 => ⟨fun c => ⟨fun c2 => ?_, fun c2 => ?_⟩, fun c => ?_⟩)
    · exact fin (by rw [t3]; exact z2 (by omega)) hz (hK _ (hIs.same ht))
    · exact fin (by rw [t2]; exact z1 (by omega)) hz (hK _ (hIs.same ht))
    · exact fin (by rw [t1]; exact z0 (by omega)) hz (hK _ (hIs.same ht))
  have td : Int.tdiv (bf f (-1) 779).2 41 = (bf f (-1) 779).2 / 41 := Int.tdiv_eq_ediv_of_nonneg bb.2.2.1
  have tm : Int.tmod (bf f (-1) 779).2 41 = (bf f (-1) 779).2 % 41 := Int.tmod_eq_emod_of_nonneg bb.2.2.1
  refine ⟨h2, fun c => ⟨fun c2 => ⟨by rw [s4]; exact zr (by omega) (by omega), ?_⟩, fun c2 => ⟨by rw [s4]; exact zr (by omega) (by omega), ?_⟩⟩, fun c => ?_⟩
  · rw [s4, tm]
    exact ref _ (zr (by omega) (by omega)) (fun _ => by omega) (fun _ => by omega) (fun _ => rfl)
  · rw [s4, td]
    exact ref _ (zr (by omega) (by omega)) (fun _ => by omega) (fun _ => rfl) (fun _ => by omega)
  · refine wbr (by rw [s4]; exact zr (by omega) (by omega)) (zrg_d rfl) (zrg_d rfl) (fun hc => by
      rw [s4] at hc
      have : ((779 : Nat) : Int) = 779 := rfl
      omega) (fun c1 c2 => ⟨by rw [s4]; exact ⟨by omega, by omega⟩, ?_⟩)
    rw [s5]
    exact ref _ (zr (by omega) (by omega)) (fun _ => rfl) (fun _ => by omega) (fun _ => by omega)
/-- the best of a row -/
def eb (σ : Hp) (r : Nat) : Int := (bf (em (σ 13) (σ 14) (σ 12 2).toNat (ra σ r) (σ (29 + r) 0).toNat) (-1) 779).1
theorem bestHeard_s {v : Int} {σ : Hp} {k : Int → Hp → Prop} (h0 : 0 ≤ v) (h5 : v ≤ 5) (hI : Inv σ) (hk : ∀ s, Same σ s → k (eb σ v.toNat) s) : wX6_bestHeard v σ k := by
  have hv6 : v.toNat < 6 := by omega
  have fb := em_fb hI hv6
  have bb := bf_b (f := em (σ 13) (σ 14) (σ 12 2).toNat (ra σ v.toNat) (σ (29 + v.toNat) 0).toNat) (e := -1) 779 (fun j _ => fb j)
  unfold wX6_bestHeard
  refine rowAt_br (zr (by omega) (by omega)) (fun hc => by omega) (fun _ _ => ?_)
  refine seek_s hv6 (hI.row h0 h5).1 hI.2.2 (fun s hs s4 s5 => ?_)
  refine wbr (by rw [s4]; exact zr (by omega) (by omega)) (zrg_d rfl) (zrg_d rfl) (fun hc => by
      rw [s4] at hc
      have : ((779 : Nat) : Int) = 779 := rfl
      omega) (fun c1 c2 => ⟨by rw [s4]; exact ⟨by omega, by omega⟩, ?_⟩)
  rw [s5]
  exact hk s hs
