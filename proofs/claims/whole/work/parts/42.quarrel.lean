/-! quarrels() -/
theorem zs_zero {f : Nat → Int} : ∀ n : Nat, (∀ i, i < n → f i = 0) → zs f n = 0
  | 0, _ => rfl
  | n + 1, h => by
    show zs f n + f n = 0
    rw [zs_zero n (fun i hi => h i (by omega)), h n (by omega)]; rfl
theorem zs_ext {f : Nat → Int} {k : Nat} : ∀ d : Nat, (∀ i, k ≤ i → i < k + d → f i = 0) → zs f (k + d) = zs f k
  | 0, _ => rfl
  | d + 1, h => by
    show zs f (k + d) + f (k + d) = zs f k
    rw [zs_ext d (fun i h1 h2 => h i h1 (by omega)), h (k + d) (by omega) (by omega), Int.add_zero]
theorem zs_to {f : Nat → Int} {k n : Nat} (hkn : k ≤ n) (h : ∀ i, k ≤ i → i < n → f i = 0) : zs f n = zs f k := by
  have := zs_ext (f := f) (k := k) (n - k) (fun i h1 h2 => h i h1 (by omega))
  rw [show k + (n - k) = n by omega] at this
  exact this
theorem zs_add (f g : Nat → Int) : ∀ n : Nat, zs (fun i => f i + g i) n = zs f n + zs g n
  | 0 => rfl
  | n + 1 => by
    show zs (fun i => f i + g i) n + (f n + g n) = (zs f n + f n) + (zs g n + g n)
    rw [zs_add f g n]; omega
theorem zs_comm (f : Nat → Nat → Int) (m : Nat) : ∀ n : Nat, zs (fun i => zs (fun j => f i j) m) n = zs (fun j => zs (fun i => f i j) n) m
  | 0 => (zs_zero m (fun _ _ => rfl)).symm
  | n + 1 => by
    show zs (fun i => zs (fun j => f i j) m) n + zs (fun j => f n j) m = zs (fun j => zs (fun i => f i j) n + f n j) m
    rw [zs_comm f m n, zs_add]
def sd (m kind u v : Int) : Int := if kind = 0 then u - v else (u - v) % m
def qi (A : Int → Int) (m kind a c d : Int) : Int := if A a ≠ 15 ∧ A (a + d) ≠ 15 ∧ A c ≠ 15 ∧ A (c + d) ≠ 15 ∧ sd m kind (A (a + d)) (A a) = sd m kind (A (c + d)) (A c) then 1 else 0
theorem qi_or (A : Int → Int) (m kind a c d : Int) : qi A m kind a c d = 0 ∨ qi A m kind a c d = 1 := by unfold qi; split <;> omega
def Fq (A : Int → Int) (n m kind : Int) (a c d : Nat) : Int := if 1 ≤ d ∧ a < c ∧ (c : Int) + d < n then qi A m kind a c d else 0
theorem Fq_or (A : Int → Int) (n m kind : Int) (a c d : Nat) : Fq A n m kind a c d = 0 ∨ Fq A n m kind a c d = 1 := by
  unfold Fq
  split
  · exact qi_or _ _ _ _ _ _
  · exact Or.inl rfl
theorem sd_r {m kind u v : Int} (hm : 1 ≤ m ∧ m ≤ 12) (hu : 0 ≤ u ∧ u ≤ 15) (hv : 0 ≤ v ∧ v ≤ 15) : zrg (sd m kind u v) := by
  have h1 := md_b (u - v) hm.1
  unfold sd
  split
  · exact zr (by omega) (by omega)
  · exact zr (by omega) (by omega)
theorem quarrel_br {r : Nat} {kind a c d : Int} {σ : Hp} {F T : Hp → Prop} (h : RW σ r) (hkd : kind = 0 ∨ kind = 1) (ha : -100 ≤ a ∧ a ≤ 100) (hc : -100 ≤ c ∧ c ≤ 100) (hd : -100 ≤ d ∧ d ≤ 100) (hf : qi (ra σ r) (σ (29 + r) 1) kind a c d = 0 → F σ) (ht : qi (ra σ r) (σ (29 + r) 1) kind a c d = 1 → T σ) : wX6_quarrel r kind a c d σ (fun a s => zrg a ∧ ((a = 0 → F s) ∧ (¬ (a = 0) → T s))) := by
  unfold wX6_quarrel
  refine mbr h (zr (by omega) (by omega)) (fun e => b0e (hf (if_neg (fun q => q.1 e)))) (fun e1 => ?_)
  refine mbr h (zr (by omega) (by omega)) (fun e => b0e (hf (if_neg (fun q => q.2.1 e)))) (fun e2 => ?_)
  refine mbr h (zr (by omega) (by omega)) (fun e => b0e (hf (if_neg (fun q => q.2.2.1 e)))) (fun e3 => ?_)
  refine mbrn h (zr (by omega) (by omega)) (fun e => b0e (hf (if_neg (fun q => q.2.2.2.1 e)))) (fun e4 => ?_)
  refine step_s h (zr (by omega) (by omega)) (zr (by omega) (by omega)) hkd (step_s h (zr (by omega) (by omega)) (zr (by omega) (by omega)) hkd ?_)
  refine ⟨sd_r h.2.1 (ra_b h _) (ra_b h _), sd_r h.2.1 (ra_b h _) (ra_b h _), fun e5 => b0e (hf (if_neg (fun q => e5 q.2.2.2.2))), fun e5 => b1e (ht (if_pos ⟨e1, e2, e3, e4, Classical.not_not.mp e5⟩))⟩
-- the class counts: by distance, then the later pair, then the earlier
theorem qc_in {r c d : Nat} {n kind base : Int} {σ : Hp} {k : Int → Hp → Prop} {K19 : Nat → Int → Int → Int → Int → Int → Hp → Prop} (h : RW σ r) (hn : n = σ (29 + r) 0) (hkd : kind = 0 ∨ kind = 1) (hd : 1 ≤ d) (hcd : (c : Int) + d < n) (hK : K19 r kind n (base + zs (fun a => Fq (ra σ r) n (σ (29 + r) 1) kind a c d) c) d ((c : Int) + 1) σ) : ∀ (q a : Nat), a + q = c → wX6_quarrelCount_31 k K19 (q + 1) r kind n (base + zs (fun a => Fq (ra σ r) n (σ (29 + r) 1) kind a c d) a) d c a σ := by
  have hnb := h.1
  intro q
  induction q with
  | zero =>
    intro a ha
    obtain rfl : a = c := by omega
    exact ⟨zr (by omega) (by omega), zr (by omega) (by omega), fun _ => hK, fun hc => by omega⟩
  | succ q ih =>
    intro a ha
    have ih := ih (a + 1) (by omega)
    rw [show ((a + 1 : Nat) : Int) = (a : Int) + 1 by omega, show zs (fun a => Fq (ra σ r) n (σ (29 + r) 1) kind a c d) (a + 1) = zs (fun a => Fq (ra σ r) n (σ (29 + r) 1) kind a c d) a + Fq (ra σ r) n (σ (29 + r) 1) kind a c d from rfl, show Fq (ra σ r) n (σ (29 + r) 1) kind a c d = qi (ra σ r) (σ (29 + r) 1) kind a c d from if_pos ⟨hd, by omega, hcd⟩, ← Int.add_assoc] at ih
    refine ⟨zr (by omega) (by omega), zr (by omega) (by omega), fun hc => by omega, fun _ => quarrel_br h hkd (by omega) (by omega) (by omega) (fun e => ?_) (fun e => ?_)⟩
    · rw [e, Int.add_zero] at ih; exact ih
    · rw [e] at ih; exact ih
theorem qc_mid {r d : Nat} {n kind base : Int} {σ : Hp} {k : Int → Hp → Prop} {K10 : Nat → Int → Int → Int → Int → Hp → Prop} (h : RW σ r) (hn : n = σ (29 + r) 0) (hkd : kind = 0 ∨ kind = 1) (hd : 1 ≤ d) (hdn : (d : Int) ≤ n) (hK : K10 r kind n (base + zs (fun c => zs (fun a => Fq (ra σ r) n (σ (29 + r) 1) kind a c d) 12) 12) ((d : Int) + 1) σ) : ∀ (q c : Nat), 1 ≤ c → (c : Int) + d + q = n ∨ (q = 0 ∧ n ≤ (c : Int) + d ∧ c ≤ 12) → wX6_quarrelCount_19 k K10 (q + 1) r kind n (base + zs (fun c => zs (fun a => Fq (ra σ r) n (σ (29 + r) 1) kind a c d) 12) c) d c σ := by
  have hnb := h.1
  have fin0 : ∀ c : Nat, 1 ≤ c → c ≤ 12 → n ≤ (c : Int) + d → K10 r kind n (base + zs (fun c => zs (fun a => Fq (ra σ r) n (σ (29 + r) 1) kind a c d) 12) c) ((d : Int) + 1) σ := fun c h1 h2 h3 => by
    rw [zs_to (f := fun c => zs (fun a => Fq (ra σ r) n (σ (29 + r) 1) kind a c d) 12) (k := c) (n := 12) h2 (fun i i1 i2 => zs_zero 12 (fun a _ => show Fq (ra σ r) n (σ (29 + r) 1) kind a i d = 0 from if_neg (by omega)))] at hK
    exact hK
  intro q
  induction q with
  | zero =>
    intro c hc hcn
    exact ⟨zr (by omega) (by omega), zr (by omega) (by omega), fun _ => fin0 c hc (by omega) (by omega), fun hx => by omega⟩
  | succ q ih =>
    intro c hc hcn
    have ih := ih (c + 1) (by omega) (by omega)
    rw [show ((c + 1 : Nat) : Int) = (c : Int) + 1 by omega] at ih
    refine ⟨zr (by omega) (by omega), zr (by omega) (by omega), fun hx => by omega, fun _ => ⟨c + 1, ?_⟩⟩
    rw [show zs (fun c => zs (fun a => Fq (ra σ r) n (σ (29 + r) 1) kind a c d) 12) (c + 1) = zs (fun c => zs (fun a => Fq (ra σ r) n (σ (29 + r) 1) kind a c d) 12) c + zs (fun a => Fq (ra σ r) n (σ (29 + r) 1) kind a c d) 12 from rfl, zs_to (k := c) (n := 12) (f := fun a => Fq (ra σ r) n (σ (29 + r) 1) kind a c d) (by omega) (fun i i1 i2 => if_neg (by omega)), ← Int.add_assoc] at ih
    have q0 := qc_in (k := k) (c := c) (d := d) (base := base + zs (fun c => zs (fun a => Fq (ra σ r) n (σ (29 + r) 1) kind a c d) 12) c) h hn hkd hd (by omega) ih c 0 (by omega)
    rw [show zs (fun a => Fq (ra σ r) n (σ (29 + r) 1) kind a c d) 0 = 0 from rfl, Int.add_zero] at q0
    exact q0
def Qc (A : Int → Int) (n m kind : Int) : Int := zs (fun d => zs (fun c => zs (fun a => Fq A n m kind a c d) 12) 12) 12
theorem quarrelCount_s {r : Nat} {kind : Int} {σ : Hp} {k : Int → Hp → Prop} (h : RW σ r) (hkd : kind = 0 ∨ kind = 1) (hk : k (Qc (ra σ r) (σ (29 + r) 0) (σ (29 + r) 1) kind) σ) : wX6_quarrelCount r kind σ k := by
  have hnb := h.1
  generalize hn : σ (29 + r) 0 = n at *
  have key : ∀ (q d : Nat), 1 ≤ d → (d : Int) + q = n → wX6_quarrelCount_10 k (q + 1) r kind n (zs (fun d => zs (fun c => zs (fun a => Fq (ra σ r) n (σ (29 + r) 1) kind a c d) 12) 12) d) d σ := by
    intro q
    induction q with
    | zero =>
      intro d hd hdn
      refine ⟨zr (by omega) (by omega), zr (by omega) (by omega), fun _ => ?_, fun hx => by omega⟩
      unfold Qc at hk
      rw [zs_to (f := fun d => zs (fun c => zs (fun a => Fq (ra σ r) n (σ (29 + r) 1) kind a c d) 12) 12) (k := d) (n := 12) (by omega) (fun i i1 i2 => zs_zero 12 (fun c _ => zs_zero 12 (fun a _ => show Fq (ra σ r) n (σ (29 + r) 1) kind a c i = 0 from if_neg (by omega))))] at hk
      exact hk
    | succ q ih =>
      intro d hd hdn
      have ih := ih (d + 1) (by omega) (by omega)
      rw [show ((d + 1 : Nat) : Int) = (d : Int) + 1 by omega] at ih
      refine ⟨zr (by omega) (by omega), zr (by omega) (by omega), fun hx => by omega, fun _ => ?_⟩
      have z1 : zs (fun c => zs (fun a => Fq (ra σ r) n (σ (29 + r) 1) kind a c d) 12) 1 = 0 := zs_zero 1 (fun i hi => zs_zero 12 (fun a _ => if_neg (by omega)))
      have md := qc_mid (k := k) (K10 := fun r0 v1 v2 v3 v4 σ => wX6_quarrelCount_10 k (q + 1) r0 v1 v2 v3 v4 σ) (base := zs (fun d => zs (fun c => zs (fun a => Fq (ra σ r) n (σ (29 + r) 1) kind a c d) 12) 12) d) (d := d) h hn.symm hkd hd (by omega) ih (n.toNat - 1 - d) 1 (by omega) (by omega)
      rw [z1, Int.add_zero] at md
      exact ⟨_, md⟩
  have z0 : zs (fun d => zs (fun c => zs (fun a => Fq (ra σ r) n (σ (29 + r) 1) kind a c d) 12) 12) 1 = 0 := zs_zero 1 (fun i hi => zs_zero 12 (fun c _ => zs_zero 12 (fun a _ => if_neg (by omega))))
  have st := key (n.toNat - 1) 1 (by omega) (by omega)
  rw [z0] at st
  show ∃ N3, wX6_quarrelCount_10 k N3 r kind (σ (29 + r) 0) 0 1 σ
  rw [hn]
  exact ⟨_, st⟩
-- the first one: a0, d0, c0 (or none: a0 beyond the row)
def Lx (a d c a0 d0 c0 : Nat) : Prop := a < a0 ∨ (a = a0 ∧ (d < d0 ∨ (d = d0 ∧ c < c0)))
def Q1 (A : Int → Int) (n m kind : Int) (a0 d0 c0 : Nat) : Prop := (∀ a d c, Lx a d c a0 d0 c0 → Fq A n m kind a c d = 0) ∧ ((20 ≤ a0) ∨ (Fq A n m kind a0 c0 d0 = 1 ∧ 1 ≤ d0 ∧ a0 < c0 ∧ (c0 : Int) + d0 < n))
theorem Q1_ex (A : Int → Int) (n m kind : Int) (hn : n ≤ 12) : ∃ a0 d0 c0, Q1 A n m kind a0 d0 c0 := by
  by_cases hex : ∃ a d c, Fq A n m kind a c d ≠ 0
  · obtain ⟨a0, ⟨d1, c1, h1⟩, h2⟩ := pk_least (fun a => ∃ d c, Fq A n m kind a c d ≠ 0) hex
    obtain ⟨d0, ⟨c2, h3⟩, h4⟩ := pk_least (fun d => ∃ c, Fq A n m kind a0 c d ≠ 0) ⟨d1, c1, h1⟩
    obtain ⟨c0, h5, h6⟩ := pk_least (fun c => Fq A n m kind a0 c d0 ≠ 0) ⟨c2, h3⟩
    refine ⟨a0, d0, c0, fun a d c hl => ?_, Or.inr ?_⟩
    · rcases hl with hl | ⟨rfl, hl | ⟨rfl, hl⟩⟩
      · exact Classical.not_not.mp (fun hc => h2 a hl ⟨d, c, hc⟩)
      · exact Classical.not_not.mp (fun hc => h4 d hl ⟨c, hc⟩)
      · exact Classical.not_not.mp (fun hc => h6 c hl hc)
    · have hb : 1 ≤ d0 ∧ a0 < c0 ∧ (c0 : Int) + d0 < n := by
        refine Classical.not_not.mp (fun hc => h5 ?_)
        unfold Fq
        exact if_neg hc
      refine ⟨?_, hb⟩
      rcases Fq_or A n m kind a0 c0 d0 with h | h
      · exact absurd h h5
      · exact h
  · refine ⟨20, 0, 0, fun a d c _ => Classical.not_not.mp (fun hc => hex ⟨a, d, c, hc⟩), Or.inl (by decide)⟩
def Qv (a0 d0 c0 : Nat) : Int := if 20 ≤ a0 then -4 else 4096 * (a0 : Int) + 256 * (a0 + d0) + 16 * c0 + (c0 + d0)
theorem fq_in {r a d a0 d0 c0 : Nat} {n kind : Int} {σ : Hp} {k : Int → Hp → Prop} {K17 : Nat → Int → Int → Int → Int → Hp → Prop} (h : RW σ r) (hn : n = σ (29 + r) 0) (hkd : kind = 0 ∨ kind = 1) (hQ : Q1 (ra σ r) n (σ (29 + r) 1) kind a0 d0 c0) (hd : 1 ≤ d) (had : (a : Int) + d < n) (hle : a < a0 ∨ (a = a0 ∧ d ≤ d0)) (hk : k (Qv a0 d0 c0) σ) (hK : (a < a0 ∨ (a = a0 ∧ d < d0)) → K17 r kind n a ((a : Int) + d + 1) σ) : ∀ (q c : Nat), a < c → (a = a0 → d = d0 → c ≤ c0) → (c : Int) + d + q = n ∨ (q = 0 ∧ n ≤ (c : Int) + d ∧ c ≤ 13) → wX6_firstQuarrel_28 k K17 (q + 1) r kind n a ((a : Int) + d) c σ := by
  have hnb := h.1
  intro q
  induction q with
  | zero =>
    intro c hac hc0 hcn
    refine ⟨zr (by omega) (by omega), zr (by omega) (by omega), fun _ => hK ?_, fun hx => by omega⟩
    rcases hQ.2 with hq | hq
    · omega
    · omega
  | succ q ih =>
    intro c hac hc0 hcn
    refine ⟨zr (by omega) (by omega), zr (by omega) (by omega), fun hx => by omega, fun _ => ?_⟩
    rw [show (a : Int) + d - a = (d : Int) by omega]
    have eF : Fq (ra σ r) n (σ (29 + r) 1) kind a c d = qi (ra σ r) (σ (29 + r) 1) kind a c d := if_pos ⟨hd, hac, by omega⟩
    refine quarrel_br h hkd (by omega) (by omega) (by omega) (fun e => ?_) (fun e => ?_)
    · have ih := ih (c + 1) (by omega) (fun e1 e2 => by
        have := hc0 e1 e2
        rcases hQ.2 with hq | hq
        · omega
        · by_cases hcc : c = c0
          · subst e1; subst e2; subst hcc
            rw [eF, e] at hq
            exact absurd hq.1 (by decide)
          · omega) (by omega)
      rw [show ((c + 1 : Nat) : Int) = (c : Int) + 1 by omega] at ih
      exact ih
    · have hnl : ¬ Lx a d c a0 d0 c0 := fun hl => by
        have := hQ.1 a d c hl
        rw [eF, e] at this
        exact absurd this (by decide)
      have hcc0 := hc0
      unfold Lx at hnl
      have e1 : a = a0 := by omega
      have e2 : d = d0 := by omega
      have e3 : c = c0 := by have := hc0 e1 e2; omega
      have hv : Qv a0 d0 c0 = 4096 * (a : Int) + 256 * ((a : Int) + d) + 16 * c + c + ((a : Int) + d) - a := by
        unfold Qv
        rw [if_neg (by omega)]
        omega
      rw [hv] at hk
      exact hk
theorem fq_mid {r a a0 d0 c0 : Nat} {n kind : Int} {σ : Hp} {k : Int → Hp → Prop} {K7 : Nat → Int → Int → Int → Hp → Prop} (h : RW σ r) (hn : n = σ (29 + r) 0) (hkd : kind = 0 ∨ kind = 1) (hQ : Q1 (ra σ r) n (σ (29 + r) 1) kind a0 d0 c0) (ha : a ≤ a0) (hk : k (Qv a0 d0 c0) σ) (hK : a < a0 → K7 r kind n ((a : Int) + 1) σ) : ∀ (q d : Nat), 1 ≤ d → (a = a0 → d ≤ d0) → (a : Int) + d + q = n → wX6_firstQuarrel_17 k K7 (q + 1) r kind n a ((a : Int) + d) σ := by
  have hnb := h.1
  intro q
  induction q with
  | zero =>
    intro d hd hle hdn
    refine ⟨zr (by omega) (by omega), zr (by omega) (by omega), fun _ => hK ?_, fun hx => by omega⟩
    rcases hQ.2 with hq | hq
    · omega
    · by_cases e1 : a = a0
      · have := hle e1
        omega
      · omega
  | succ q ih =>
    intro d hd hle hdn
    refine ⟨zr (by omega) (by omega), zr (by omega) (by omega), fun hx => by omega, fun _ => ?_⟩
    have hin := fq_in (k := k) (K17 := fun r0 v1 v2 v3 v4 σ => wX6_firstQuarrel_17 k K7 (q + 1) r0 v1 v2 v3 v4 σ) (a := a) (d := d) h hn hkd hQ hd (by omega) (by
      by_cases e1 : a = a0
      · have := hle e1; omega
      · omega) hk (fun hl => by
        have := ih (d + 1) (by omega) (fun e1 => by omega) (by omega)
        rw [show ((d + 1 : Nat) : Int) = (d : Int) + 1 by omega, ← Int.add_assoc] at this
        exact this) (n.toNat - (a + 1) - d) (a + 1) (by omega) (fun e1 e2 => by
          rcases hQ.2 with hq | hq
          · omega
          · omega) (by omega)
    rw [show ((a + 1 : Nat) : Int) = (a : Int) + 1 by omega] at hin
    exact ⟨_, hin⟩
theorem firstQuarrel_s {r a0 d0 c0 : Nat} {kind : Int} {σ : Hp} {k : Int → Hp → Prop} (h : RW σ r) (hkd : kind = 0 ∨ kind = 1) (hQ : Q1 (ra σ r) (σ (29 + r) 0) (σ (29 + r) 1) kind a0 d0 c0) (hk : k (Qv a0 d0 c0) σ) : wX6_firstQuarrel r kind σ k := by
  have hnb := h.1
  generalize hn : σ (29 + r) 0 = n at *
  have key : ∀ (q a : Nat), a ≤ a0 → (a : Int) + q = n → wX6_firstQuarrel_7 k (q + 1) r kind n a σ := by
    intro q
    induction q with
    | zero =>
      intro a ha hd
      refine ⟨zr (by omega) (by omega), zr (by omega) (by omega), fun _ => ?_, fun hx => by omega⟩
      rcases hQ.2 with hq | hq
      · rw [show Qv a0 d0 c0 = -4 from if_pos hq] at hk; exact hk
      · omega
    | succ q ih =>
      intro a ha hd
      refine ⟨zr (by omega) (by omega), zr (by omega) (by omega), fun hx => by omega, fun _ => ?_⟩
      have hm := fq_mid (k := k) (K7 := fun r0 v1 v2 v3 σ => wX6_firstQuarrel_7 k (q + 1) r0 v1 v2 v3 σ) (a := a) h hn.symm hkd hQ ha hk (fun hl => by
        have := ih (a + 1) (by omega) (by omega)
        rw [show ((a + 1 : Nat) : Int) = (a : Int) + 1 by omega] at this
        exact this) (n.toNat - a - 1) 1 (by omega) (fun e1 => by
          rcases hQ.2 with hq | hq
          · omega
          · omega) (by omega)
      exact ⟨_, hm⟩
  show ∃ N3, wX6_firstQuarrel_7 k N3 r kind (σ (29 + r) 0) 0 σ
  rw [hn]
  exact ⟨_, key n.toNat 0 (by omega) (by omega)⟩
