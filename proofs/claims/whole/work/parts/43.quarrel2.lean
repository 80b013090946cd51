/-! quarrels(): the reference, and both -/
def Jq (a0 d0 c0 : Nat) (v4 v5 : Int) (a d c : Nat) : Prop := (¬ Lx a0 d0 c0 a d c → v4 = 0 ∧ v5 = -4) ∧ (Lx a0 d0 c0 a d c → 1 ≤ v4 ∧ v5 = Qv a0 d0 c0)
theorem Jq.mv {a0 d0 c0 : Nat} {v4 v5 : Int} {a d c a' d' c' : Nat} (h : Jq a0 d0 c0 v4 v5 a d c) (e : Lx a0 d0 c0 a d c ↔ Lx a0 d0 c0 a' d' c') : Jq a0 d0 c0 v4 v5 a' d' c' := ⟨fun hn => h.1 (fun hl => hn (e.mp hl)), fun hl => h.2 (e.mpr hl)⟩
theorem rq_br {v kind : Int} {a c d : Nat} {σ : Hp} {F T : Hp → Prop} (h0 : 0 ≤ v) (h5 : v ≤ 5) (hr : IRow σ v.toNat) (hkd : kind = 0 ∨ kind = 1) (ha : a ≤ 12) (hc : c ≤ 12) (hd : d ≤ 12) (hf : qi (ra σ v.toNat) (σ (29 + v.toNat) 1) kind a c d = 0 → F σ) (ht : qi (ra σ v.toNat) (σ (29 + v.toNat) 1) kind a c d = 1 → T σ) : wX7_are v a ((a : Int) + d) σ (fun a6 σ5 => zrg a6 ∧ ((a6 = 0 → F σ5) ∧ (¬ (a6 = 0) → wX7_are v c ((c : Int) + ((a : Int) + d) - a) σ5 (fun a10 σ9 => zrg a10 ∧ ((a10 = 0 → F σ9) ∧ (¬ (a10 = 0) → wX7_off v a ((a : Int) + d) kind σ9 (fun a14 σ13 => wX7_off v c ((c : Int) + ((a : Int) + d) - a) kind σ13 (fun a16 σ15 => zrg a14 ∧ zrg a16 ∧ ((a14 ≠ a16 → F σ15) ∧ (¬ (a14 ≠ a16) → T σ15)))))))))) := by
  have hmw := hr.mw
  rw [show (c : Int) + ((a : Int) + d) - a = (c : Int) + d by omega]
  refine are_br h0 h5 hmw (zr (by omega) (by omega)) (zr (by omega) (by omega)) (fun e => hf ?_) (fun e1 e2 => ?_)
  · rw [hr.mra, hr.mra] at e
    exact if_neg (fun q => e.elim q.1 q.2.1)
  refine are_br h0 h5 hmw (zr (by omega) (by omega)) (zr (by omega) (by omega)) (fun e => hf ?_) (fun e3 e4 => ?_)
  · rw [hr.mra, hr.mra] at e
    exact if_neg (fun q => e.elim q.2.2.1 q.2.2.2.1)
  refine off_s h0 h5 hmw (zr (by omega) (by omega)) (zr (by omega) (by omega)) hkd e1 e2 (off_s h0 h5 hmw (zr (by omega) (by omega)) (zr (by omega) (by omega)) hkd e3 e4 ?_)
  rw [hr.mra, hr.mra, hr.mra, hr.mra, hr.2.2.1]
  rw [hr.mra] at e1 e2 e3 e4
  refine ⟨sd_r hr.1.2.1 (ra_b hr.1 _) (ra_b hr.1 _), sd_r hr.1.2.1 (ra_b hr.1 _) (ra_b hr.1 _), fun e5 => hf (if_neg (fun q => e5 q.2.2.2.2)), fun e5 => ht (if_pos ⟨e1, e2, e3, e4, Classical.not_not.mp e5⟩)⟩
theorem rq_in {v kind w n base : Int} {a d a0 d0 c0 : Nat} {σ : Hp} {k : Int → Hp → Prop} {K58 : Int → Int → Int → Int → Int → Int → Int → Hp → Prop} (h0 : 0 ≤ v) (h5 : v ≤ 5) (hr : IRow σ v.toNat) (hn : n = σ (29 + v.toNat) 0) (hkd : kind = 0 ∨ kind = 1) (hb : 0 ≤ base ∧ base ≤ 100000) (hQ : Q1 (ra σ v.toNat) n (σ (29 + v.toNat) 1) kind a0 d0 c0) (hd : 1 ≤ d) (had : (a : Int) + d < n) (hK : ∀ v5, Jq a0 d0 c0 (base + zs (fun c => Fq (ra σ v.toNat) n (σ (29 + v.toNat) 1) kind a c d) 12) v5 a (d + 1) 0 → K58 v kind w (base + zs (fun c => Fq (ra σ v.toNat) n (σ (29 + v.toNat) 1) kind a c d) 12) v5 a ((a : Int) + d + 1) σ) : ∀ (q c : Nat) (v5 : Int), a < c → (c : Int) + d + q = n ∨ (q = 0 ∧ n ≤ (c : Int) + d ∧ c ≤ 12) → Jq a0 d0 c0 (base + zs (fun c => Fq (ra σ v.toNat) n (σ (29 + v.toNat) 1) kind a c d) c) v5 a d c → wX7_quarrels_75 k K58 (q + 1) v kind w (base + zs (fun c => Fq (ra σ v.toNat) n (σ (29 + v.toNat) 1) kind a c d) c) v5 a ((a : Int) + d) c σ := by
  have hnb := hr.1.1
  have hne : σ 18 v.toNat = n := by rw [hr.2.1, hn]
  have zb := fun N => zs_b (f := fun c => Fq (ra σ v.toNat) n (σ (29 + v.toNat) 1) kind a c d) (c := 1) (by decide) N (fun i _ => by
    have := Fq_or (ra σ v.toNat) n (σ (29 + v.toNat) 1) kind a i d
    show 0 ≤ Fq (ra σ v.toNat) n (σ (29 + v.toNat) 1) kind a i d ∧ Fq (ra σ v.toNat) n (σ (29 + v.toNat) 1) kind a i d ≤ 1
    omega)
  have out : ∀ (c : Nat) (v5 : Int), c ≤ 12 → n ≤ (c : Int) + d → Jq a0 d0 c0 (base + zs (fun c => Fq (ra σ v.toNat) n (σ (29 + v.toNat) 1) kind a c d) c) v5 a d c → K58 v kind w (base + zs (fun c => Fq (ra σ v.toNat) n (σ (29 + v.toNat) 1) kind a c d) c) v5 a ((a : Int) + d + 1) σ := fun c v5 h1 h2 h3 => by
    rw [zs_to (f := fun c => Fq (ra σ v.toNat) n (σ (29 + v.toNat) 1) kind a c d) (k := c) (n := 12) h1 (fun i i1 i2 => show Fq (ra σ v.toNat) n (σ (29 + v.toNat) 1) kind a i d = 0 from if_neg (by omega))] at hK
    refine hK v5 (h3.mv ?_)
    unfold Lx
    rcases hQ.2 with hq | hq
    · omega
    · omega
  intro q
  induction q with
  | zero =>
    intro c v5 hac hcn hJ
    refine ⟨⟨by omega, by omega⟩, zr (by omega) (by omega), zr (by omega) (by omega), fun _ => out c v5 (by omega) (by omega) hJ, fun hx => by rw [hne] at hx; omega⟩
  | succ q ih =>
    intro c v5 hac hcn hJ
    refine ⟨⟨by omega, by omega⟩, zr (by omega) (by omega), zr (by omega) (by omega), fun hx => by rw [hne] at hx; omega, fun _ => ?_⟩
    have eF : Fq (ra σ v.toNat) n (σ (29 + v.toNat) 1) kind a c d = qi (ra σ v.toNat) (σ (29 + v.toNat) 1) kind a c d := if_pos ⟨hd, hac, by omega⟩
    have ih := fun v5 => ih (c + 1) v5 (by omega) (by omega)
    rw [show ((c + 1 : Nat) : Int) = (c : Int) + 1 by omega, show zs (fun c => Fq (ra σ v.toNat) n (σ (29 + v.toNat) 1) kind a c d) (c + 1) = zs (fun c => Fq (ra σ v.toNat) n (σ (29 + v.toNat) 1) kind a c d) c + Fq (ra σ v.toNat) n (σ (29 + v.toNat) 1) kind a c d from rfl, eF, ← Int.add_assoc] at ih
    have zc := zb c
    refine rq_br h0 h5 hr hkd (by omega) (by omega) (by omega) (fun e => ?_) (fun e => ?_)
    · rw [e, Int.add_zero] at ih
      refine ih v5 (hJ.mv ?_)
      have hne0 : ¬ (a0 = a ∧ d0 = d ∧ c0 = c) := fun ⟨e1, e2, e3⟩ => by
        subst e1; subst e2; subst e3
        rcases hQ.2 with hq | hq
        · omega
        · rw [eF, e] at hq
          exact absurd hq.1 (by decide)
      unfold Lx
      omega
    · rw [e] at ih
      have hnl : ¬ Lx a d c a0 d0 c0 := fun hl => by
        have := hQ.1 a d c hl
        rw [eF, e] at this
        exact absurd this (by decide)
      have hle : Lx a0 d0 c0 a d (c + 1) := by unfold Lx at *; omega
      refine ⟨zr (by omega) (by omega), fun hv => ?_, fun hv => ?_⟩
      · refine ih v5 ⟨fun hn => absurd hle hn, fun _ => ⟨by omega, ?_⟩⟩
        by_cases hl : Lx a0 d0 c0 a d c
        · exact (hJ.2 hl).2
        · exact absurd (hJ.1 hl).1 hv
      · refine ih _ ⟨fun hn => absurd hle hn, fun _ => ⟨by omega, ?_⟩⟩
        have hl : ¬ Lx a0 d0 c0 a d c := fun hl => hv (fun e0 => by have := (hJ.2 hl).1; omega)
        have : a = a0 ∧ d = d0 ∧ c = c0 := by unfold Lx at *; omega
        obtain ⟨rfl, rfl, rfl⟩ := this
        unfold Qv
        rw [if_neg (by omega)]
        omega
theorem rq_mid {v kind w n base : Int} {a a0 d0 c0 : Nat} {σ : Hp} {k : Int → Hp → Prop} {K41 : Int → Int → Int → Int → Int → Int → Hp → Prop} (h0 : 0 ≤ v) (h5 : v ≤ 5) (hr : IRow σ v.toNat) (hn : n = σ (29 + v.toNat) 0) (hkd : kind = 0 ∨ kind = 1) (hb : 0 ≤ base ∧ base ≤ 10000) (hQ : Q1 (ra σ v.toNat) n (σ (29 + v.toNat) 1) kind a0 d0 c0) (han : (a : Int) < n) (hK : ∀ v5, Jq a0 d0 c0 (base + zs (fun d => zs (fun c => Fq (ra σ v.toNat) n (σ (29 + v.toNat) 1) kind a c d) 12) 12) v5 (a + 1) 0 0 → K41 v kind w (base + zs (fun d => zs (fun c => Fq (ra σ v.toNat) n (σ (29 + v.toNat) 1) kind a c d) 12) 12) v5 ((a : Int) + 1) σ) : ∀ (q d : Nat) (v5 : Int), 1 ≤ d → (a : Int) + d + q = n → Jq a0 d0 c0 (base + zs (fun d => zs (fun c => Fq (ra σ v.toNat) n (σ (29 + v.toNat) 1) kind a c d) 12) d) v5 a d 0 → wX7_quarrels_58 k K41 (q + 1) v kind w (base + zs (fun d => zs (fun c => Fq (ra σ v.toNat) n (σ (29 + v.toNat) 1) kind a c d) 12) d) v5 a ((a : Int) + d) σ := by
  have hnb := hr.1.1
  have hne : σ 18 v.toNat = n := by rw [hr.2.1, hn]
  have zb := fun N => zs_b (f := fun d => zs (fun c => Fq (ra σ v.toNat) n (σ (29 + v.toNat) 1) kind a c d) 12) (c := 12) (by decide) N (fun j _ => by
    have := zs_b (f := fun c => Fq (ra σ v.toNat) n (σ (29 + v.toNat) 1) kind a c j) (c := 1) (by decide) 12 (fun i _ => by
      have := Fq_or (ra σ v.toNat) n (σ (29 + v.toNat) 1) kind a i j
      show 0 ≤ Fq (ra σ v.toNat) n (σ (29 + v.toNat) 1) kind a i j ∧ Fq (ra σ v.toNat) n (σ (29 + v.toNat) 1) kind a i j ≤ 1
      omega)
    show 0 ≤ zs (fun c => Fq (ra σ v.toNat) n (σ (29 + v.toNat) 1) kind a c j) 12 ∧ zs (fun c => Fq (ra σ v.toNat) n (σ (29 + v.toNat) 1) kind a c j) 12 ≤ 12
    omega)
  intro q
  induction q with
  | zero =>
    intro d v5 hd hdn hJ
    refine ⟨⟨by omega, by omega⟩, zr (by omega) (by omega), zr (by omega) (by omega), fun _ => ?_, fun hx => by rw [hne] at hx; omega⟩
    rw [zs_to (f := fun d => zs (fun c => Fq (ra σ v.toNat) n (σ (29 + v.toNat) 1) kind a c d) 12) (k := d) (n := 12) (by omega) (fun i i1 i2 => zs_zero 12 (fun c _ => show Fq (ra σ v.toNat) n (σ (29 + v.toNat) 1) kind a c i = 0 from if_neg (by omega)))] at hK
    refine hK v5 (hJ.mv ?_)
    unfold Lx
    rcases hQ.2 with hq | hq
    · omega
    · omega
  | succ q ih =>
    intro d v5 hd hdn hJ
    refine ⟨⟨by omega, by omega⟩, zr (by omega) (by omega), zr (by omega) (by omega), fun hx => by rw [hne] at hx; omega, fun _ => ?_⟩
    have zd := zb d
    have ih := fun v5 => ih (d + 1) v5 (by omega) (by omega)
    rw [show ((d + 1 : Nat) : Int) = (d : Int) + 1 by omega, show zs (fun d => zs (fun c => Fq (ra σ v.toNat) n (σ (29 + v.toNat) 1) kind a c d) 12) (d + 1) = zs (fun d => zs (fun c => Fq (ra σ v.toNat) n (σ (29 + v.toNat) 1) kind a c d) 12) d + zs (fun c => Fq (ra σ v.toNat) n (σ (29 + v.toNat) 1) kind a c d) 12 from rfl, ← Int.add_assoc, ← Int.add_assoc] at ih
    have z1 : zs (fun c => Fq (ra σ v.toNat) n (σ (29 + v.toNat) 1) kind a c d) (a + 1) = 0 := zs_zero _ (fun i hi => show Fq (ra σ v.toNat) n (σ (29 + v.toNat) 1) kind a i d = 0 from if_neg (by omega))
    have g := rq_in (k := k) (w := w) (K58 := fun v1 v2 v3 v4 v5 v6 v7 σ => wX7_quarrels_58 k K41 (q + 1) v1 v2 v3 v4 v5 v6 v7 σ) (base := base + zs (fun d => zs (fun c => Fq (ra σ v.toNat) n (σ (29 + v.toNat) 1) kind a c d) 12) d) (a := a) (d := d) h0 h5 hr hn hkd (by omega) hQ hd (by omega) ih (n.toNat - (a + 1) - d) (a + 1) v5 (by omega) (by omega)
    rw [z1, Int.add_zero, show ((a + 1 : Nat) : Int) = (a : Int) + 1 by omega] at g
    exact ⟨_, g (hJ.mv (by
      unfold Lx
      rcases hQ.2 with hq | hq
      · omega
      · omega))⟩
def Qd (A : Int → Int) (n m kind : Int) : Int := zs (fun a => zs (fun d => zs (fun c => Fq A n m kind a c d) 12) 12) 12
theorem Qcd (A : Int → Int) (n m kind : Int) : Qd A n m kind = Qc A n m kind := by
  unfold Qd Qc
  rw [zs_comm (fun a d => zs (fun c => Fq A n m kind a c d) 12) 12 12]
  exact zs_congr 12 (fun d _ => zs_comm (fun a c => Fq A n m kind a c d) 12 12)
theorem quarrels_r {v kind w : Int} {a0 d0 c0 : Nat} {σ : Hp} {k : Int → Hp → Prop} (h0 : 0 ≤ v) (h5 : v ≤ 5) (hr : IRow σ v.toNat) (hkd : kind = 0 ∨ kind = 1) (hw : 0 ≤ w ∧ w ≤ 2) (hQ : Q1 (ra σ v.toNat) (σ (29 + v.toNat) 0) (σ (29 + v.toNat) 1) kind a0 d0 c0) (hk0 : w = 0 → k (Qv a0 d0 c0) σ) (hk1 : w = 1 → k (Qc (ra σ v.toNat) (σ (29 + v.toNat) 0) (σ (29 + v.toNat) 1) kind) σ) (hk2 : w = 2 → k (if Qc (ra σ v.toNat) (σ (29 + v.toNat) 0) (σ (29 + v.toNat) 1) kind = 0 then 1 else 0) σ) : ∃ N, wX7_quarrels_41 k N v kind w 0 (-4) 0 σ := by
  have hnb := hr.1.1
  have hne : σ 18 v.toNat = σ (29 + v.toNat) 0 := hr.2.1
  generalize hn : σ (29 + v.toNat) 0 = n at *
  have zb := fun N => zs_b (f := fun a => zs (fun d => zs (fun c => Fq (ra σ v.toNat) n (σ (29 + v.toNat) 1) kind a c d) 12) 12) (c := 144) (by decide) N (fun l _ => by
    have := zs_b (f := fun d => zs (fun c => Fq (ra σ v.toNat) n (σ (29 + v.toNat) 1) kind l c d) 12) (c := 12) (by decide) 12 (fun j _ => by
      have := zs_b (f := fun c => Fq (ra σ v.toNat) n (σ (29 + v.toNat) 1) kind l c j) (c := 1) (by decide) 12 (fun i _ => by
        have := Fq_or (ra σ v.toNat) n (σ (29 + v.toNat) 1) kind l i j
        show 0 ≤ Fq (ra σ v.toNat) n (σ (29 + v.toNat) 1) kind l i j ∧ Fq (ra σ v.toNat) n (σ (29 + v.toNat) 1) kind l i j ≤ 1
        omega)
      show 0 ≤ zs (fun c => Fq (ra σ v.toNat) n (σ (29 + v.toNat) 1) kind l c j) 12 ∧ zs (fun c => Fq (ra σ v.toNat) n (σ (29 + v.toNat) 1) kind l c j) 12 ≤ 12
      omega)
    show 0 ≤ zs (fun d => zs (fun c => Fq (ra σ v.toNat) n (σ (29 + v.toNat) 1) kind l c d) 12) 12 ∧ zs (fun d => zs (fun c => Fq (ra σ v.toNat) n (σ (29 + v.toNat) 1) kind l c d) 12) 12 ≤ 144
    omega)
  have key : ∀ (q a : Nat) (v5 : Int), (a : Int) + q = n → Jq a0 d0 c0 (zs (fun a => zs (fun d => zs (fun c => Fq (ra σ v.toNat) n (σ (29 + v.toNat) 1) kind a c d) 12) 12) a) v5 a 0 0 → wX7_quarrels_41 k (q + 1) v kind w (zs (fun a => zs (fun d => zs (fun c => Fq (ra σ v.toNat) n (σ (29 + v.toNat) 1) kind a c d) 12) 12) a) v5 a σ := by
    intro q
    induction q with
    | zero =>
      intro a v5 ha hJ
      refine ⟨⟨by omega, by omega⟩, zr (by omega) (by omega), zr (by omega) (by omega), fun _ => ⟨zr (by omega) (by omega), fun hw1 => ⟨fun hw2 => ?_, fun hw2 => ?_⟩, fun hw0 => ?_⟩, fun hx => by omega⟩
      · have e : Qd (ra σ v.toNat) n (σ (29 + v.toNat) 1) kind = zs (fun a => zs (fun d => zs (fun c => Fq (ra σ v.toNat) n (σ (29 + v.toNat) 1) kind a c d) 12) 12) a := zs_to (by omega) (fun i i1 i2 => zs_zero 12 (fun d _ => zs_zero 12 (fun c _ => show Fq (ra σ v.toNat) n (σ (29 + v.toNat) 1) kind i c d = 0 from if_neg (by omega))))
        rw [← Qcd, e] at hk2
        have zc := zb a
        refine ⟨zr (by omega) (by omega), fun hc => ?_, fun hc => ?_⟩
        · have := hk2 (by omega); rw [if_neg hc] at this; exact this
        · have := hk2 (by omega); rw [if_pos (by omega)] at this; exact this
      · have e : Qd (ra σ v.toNat) n (σ (29 + v.toNat) 1) kind = zs (fun a => zs (fun d => zs (fun c => Fq (ra σ v.toNat) n (σ (29 + v.toNat) 1) kind a c d) 12) 12) a := zs_to (by omega) (fun i i1 i2 => zs_zero 12 (fun d _ => zs_zero 12 (fun c _ => show Fq (ra σ v.toNat) n (σ (29 + v.toNat) 1) kind i c d = 0 from if_neg (by omega))))
        rw [← Qcd, e] at hk1
        exact hk1 (by omega)
      · have hv : v5 = Qv a0 d0 c0 := by
          by_cases hl : Lx a0 d0 c0 a 0 0
          · exact (hJ.2 hl).2
          · rw [(hJ.1 hl).2]
            unfold Lx at hl
            unfold Qv
            rw [if_pos]
            rcases hQ.2 with hq | hq
            · exact hq
            · omega
        rw [hv]
        exact hk0 (by omega)
    | succ q ih =>
      intro a v5 ha hJ
      refine ⟨⟨by omega, by omega⟩, zr (by omega) (by omega), zr (by omega) (by omega), fun hx => by omega, fun _ => ?_⟩
      have za := zb a
      have ih := fun v5 => ih (a + 1) v5 (by omega)
      rw [show ((a + 1 : Nat) : Int) = (a : Int) + 1 by omega, show zs (fun a => zs (fun d => zs (fun c => Fq (ra σ v.toNat) n (σ (29 + v.toNat) 1) kind a c d) 12) 12) (a + 1) = zs (fun a => zs (fun d => zs (fun c => Fq (ra σ v.toNat) n (σ (29 + v.toNat) 1) kind a c d) 12) 12) a + zs (fun d => zs (fun c => Fq (ra σ v.toNat) n (σ (29 + v.toNat) 1) kind a c d) 12) 12 from rfl] at ih
      have z1 : zs (fun d => zs (fun c => Fq (ra σ v.toNat) n (σ (29 + v.toNat) 1) kind a c d) 12) 1 = 0 := zs_zero 1 (fun i hi => zs_zero 12 (fun c _ => show Fq (ra σ v.toNat) n (σ (29 + v.toNat) 1) kind a c i = 0 from if_neg (by omega)))
      have g := rq_mid (k := k) (w := w) (K41 := fun v1 v2 v3 v4 v5 v6 σ => wX7_quarrels_41 k (q + 1) v1 v2 v3 v4 v5 v6 σ) (base := zs (fun a => zs (fun d => zs (fun c => Fq (ra σ v.toNat) n (σ (29 + v.toNat) 1) kind a c d) 12) 12) a) (a := a) h0 h5 hr hn.symm hkd (by omega) hQ (by omega) ih (n.toNat - a - 1) 1 v5 (by omega) (by omega)
      rw [z1, Int.add_zero] at g
      exact ⟨_, g (hJ.mv (by
        unfold Lx
        rcases hQ.2 with hq | hq
        · omega
        · omega))⟩
  refine ⟨_, key n.toNat 0 (-4) (by omega) ⟨fun _ => ⟨rfl, rfl⟩, fun hl => ?_⟩⟩
  unfold Lx at hl
  omega
theorem T_quarrels {K : Hp → Prop} (hK : ∀ σ, Inv σ → K σ) {v1 v2 v3 : Int} (h1 : zrg v1) (h2 : zrg v2) (h3 : zrg v3) {σ : Hp} (hI : Inv σ) : wX6_quarrels v1 v2 v3 σ (fun a s => wX7_quarrels v1 v2 v3 s (fun b t => zrg a ∧ zrg b ∧ ((a = b → K t) ∧ (¬ (a = b) → False)))) := by
  have fok : zrg (-1) ∧ zrg (-1) ∧ (((-1 : Int) = -1 → K σ) ∧ (¬ ((-1 : Int) = -1) → False)) := fin rfl (zrg_d rfl) (hK _ hI)
  have bad : v1 < 0 ∨ 5 < v1 ∨ v2 < 0 ∨ 1 < v2 ∨ v3 < 0 ∨ 2 < v3 → wX7_quarrels v1 v2 v3 σ (fun b t => zrg (-1) ∧ zrg b ∧ (((-1) = b → K t) ∧ (¬ ((-1) = b) → False))) := fun hb => by
    refine isRow_br h1 (fun _ => fok) (fun a1 a2 => ⟨h2, ?_⟩)
    refine ibr h2 (zrg_d rfl) (zrg_d rfl) (fun _ => fok) (fun c1 c2 => ⟨h3, ?_⟩)
    exact ibrn h3 (zrg_d rfl) (zrg_d rfl) (fun _ => fok) (fun d1 d2 => by omega)
  unfold wX6_quarrels
  refine rowAt_br h1 (fun hc => bad (by omega)) (fun a1 a2 => ?_)
  refine isKind_bre h2 (fun hc => bad (by omega)) (fun hkd => ?_)
  refine wbrn h3 (zrg_d rfl) (zrg_d rfl) (fun hc => bad (by omega)) (fun d1 d2 => ?_)
  have hr := hI.row a1 a2
  obtain ⟨a0, d0, c0, hQ⟩ := Q1_ex (ra σ v1.toNat) (σ (29 + v1.toNat) 0) (σ (29 + v1.toNat) 1) v2 hr.1.1.2
  have hnb := hr.1.1
  have hQb : 0 ≤ Qc (ra σ v1.toNat) (σ (29 + v1.toNat) 0) (σ (29 + v1.toNat) 1) v2 ∧ Qc (ra σ v1.toNat) (σ (29 + v1.toNat) 0) (σ (29 + v1.toNat) 1) v2 ≤ 12 * 144 := by
    have := zs_b (f := fun d => zs (fun c => zs (fun a => Fq (ra σ v1.toNat) (σ (29 + v1.toNat) 0) (σ (29 + v1.toNat) 1) v2 a c d) 12) 12) (c := 144) (by decide) 12 (fun l _ => by
      have := zs_b (f := fun c => zs (fun a => Fq (ra σ v1.toNat) (σ (29 + v1.toNat) 0) (σ (29 + v1.toNat) 1) v2 a c l) 12) (c := 12) (by decide) 12 (fun j _ => by
        have := zs_b (f := fun a => Fq (ra σ v1.toNat) (σ (29 + v1.toNat) 0) (σ (29 + v1.toNat) 1) v2 a j l) (c := 1) (by decide) 12 (fun i _ => by
          have := Fq_or (ra σ v1.toNat) (σ (29 + v1.toNat) 0) (σ (29 + v1.toNat) 1) v2 i j l
          show 0 ≤ Fq (ra σ v1.toNat) (σ (29 + v1.toNat) 0) (σ (29 + v1.toNat) 1) v2 i j l ∧ Fq (ra σ v1.toNat) (σ (29 + v1.toNat) 0) (σ (29 + v1.toNat) 1) v2 i j l ≤ 1
          omega)
        show 0 ≤ zs (fun a => Fq (ra σ v1.toNat) (σ (29 + v1.toNat) 0) (σ (29 + v1.toNat) 1) v2 a j l) 12 ∧ zs (fun a => Fq (ra σ v1.toNat) (σ (29 + v1.toNat) 0) (σ (29 + v1.toNat) 1) v2 a j l) 12 ≤ 12
        omega)
      show 0 ≤ zs (fun c => zs (fun a => Fq (ra σ v1.toNat) (σ (29 + v1.toNat) 0) (σ (29 + v1.toNat) 1) v2 a c l) 12) 12 ∧ zs (fun c => zs (fun a => Fq (ra σ v1.toNat) (σ (29 + v1.toNat) 0) (σ (29 + v1.toNat) 1) v2 a c l) 12) 12 ≤ 144
      omega)
    unfold Qc
    omega
  have hvr : zrg (Qv a0 d0 c0) := by
    unfold Qv
    split
    · exact zrg_d rfl
    · rcases hQ.2 with hq | hq
      · omega
      · exact zr (by omega) (by omega)
  have ref : ∀ z : Int, zrg z → (v3 = 0 → z = Qv a0 d0 c0) → (v3 = 1 → z = Qc (ra σ v1.toNat) (σ (29 + v1.toNat) 0) (σ (29 + v1.toNat) 1) v2) → (v3 = 2 → z = if Qc (ra σ v1.toNat) (σ (29 + v1.toNat) 0) (σ (29 + v1.toNat) 1) v2 = 0 then 1 else 0) → wX7_quarrels v1 v2 v3 σ (fun b t => zrg z ∧ zrg b ∧ ((z = b → K t) ∧ (¬ (z = b) → False))) := fun z hz e0 e1 e2 => by
    refine isRow_br h1 (fun hc => by omega) (fun _ _ => ⟨h2, ?_⟩)
    refine ibr h2 (zrg_d rfl) (zrg_d rfl) (fun hc => by omega) (fun _ _ => ⟨h3, ?_⟩)
    refine ibrn h3 (zrg_d rfl) (zrg_d rfl) (fun hc => by omega) (fun _ _ => ?_)
    exact quarrels_r a1 a2 hr hkd ⟨d1, d2⟩ hQ (fun e => fin (e0 e) hz (hK _ hI)) (fun e => fin (e1 e) hz (hK _ hI)) (fun e => fin (e2 e) hz (hK _ hI))
  refine ⟨h3, fun hw => ?_, fun hw => ?_⟩
  · refine quarrelCount_s hr.1 hkd ⟨fun hw2 => ⟨zr (by omega) (by omega), fun hc => ?_, fun hc => ?_⟩, fun hw2 => ?_⟩
    · exact ref 0 (zrg_d rfl) (fun e => absurd e hw) (fun e => absurd e hw2) (fun _ => (if_neg hc).symm)
    · exact ref 1 (zrg_d rfl) (fun e => absurd e hw) (fun e => absurd e hw2) (fun _ => (if_pos (by omega)).symm)
    · exact ref _ (zr (by omega) (by omega)) (fun e => absurd e hw) (fun _ => rfl) (fun e => by omega)
  · exact firstQuarrel_s hr.1 hkd hQ (ref _ hvr (fun _ => rfl) (fun e => by omega) (fun e => by omega))
