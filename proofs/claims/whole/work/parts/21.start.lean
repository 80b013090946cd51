theorem kw_cl_L_7 : Cond.classLink RL 7 RX6 ∈ ztb := zmem 53 (by decide +kernel) (by decide +kernel)
theorem kw_cl_L_10 : Cond.classLink RL 10 RX7 ∈ ztb := zmem 655 (by decide +kernel) (by decide +kernel)
theorem kw_ml_L_9 : Cond.methodLink RL 9 yX6_init ∈ ztb := zmem 55 (by decide +kernel) (by decide +kernel)
theorem kw_ml_L_12 : Cond.methodLink RL 12 yX7_init ∈ ztb := zmem 657 (by decide +kernel) (by decide +kernel)
theorem kw_in_X6 : Cond.instantiable RX6 8 ∈ ztb := zmem 54 (by decide +kernel) (by decide +kernel)
theorem kw_ini_X6 : Cond.initialized RX6 ∈ ztb := zmem 42 (by decide +kernel) (by decide +kernel)
theorem kw_im_X6 : Cond.instanceMethod yX6_init ∈ ztb := zmem 56 (by decide +kernel) (by decide +kernel)
theorem kw_co_X6 : Cond.code yX6_init cX6_init 2 none ∈ ztb := zmem 57 (by decide +kernel) (by decide +kernel)
theorem kw_in_X7 : Cond.instantiable RX7 18 ∈ ztb := zmem 656 (by decide +kernel) (by decide +kernel)
theorem kw_ini_X7 : Cond.initialized RX7 ∈ ztb := zmem 49 (by decide +kernel) (by decide +kernel)
theorem kw_im_X7 : Cond.instanceMethod yX7_init ∈ ztb := zmem 658 (by decide +kernel) (by decide +kernel)
theorem kw_co_X7 : Cond.code yX7_init cX7_init 1 none ∈ ztb := zmem 659 (by decide +kernel) (by decide +kernel)
theorem zarrV {cA : ClassId} {n : Nat} {f g : Nat → Option Nat} (h : ∀ j, j < n → f j = g j) : vp_cell cA (n, .inr (.inr (.inr (.inr f)))) = vp_cell cA (n, .inr (.inr (.inr (.inr g)))) := by
  rw [vp_cell_q, vp_cell_q]
  unfold arrV
  congr 1
  apply congrArg
  funext j
  show va_rf (f j.val) = va_rf (g j.val)
  rw [h j.val j.isLt]
def zs0 : Hp := fun p => match p with
  | 6 => fun j => if j = 3 ∨ j = 4 then 1 else 0
  | 10 => fun j => if j = 1 then 1 else 0
  | 18 => fun j => if j < 6 then 1 else 0
  | 19 => fun j => if j < 6 then 1 else 0
  | 29 => fun j => if j < 2 then 1 else 0
  | 30 => fun j => if j < 2 then 1 else 0
  | 31 => fun j => if j < 2 then 1 else 0
  | 32 => fun j => if j < 2 then 1 else 0
  | 33 => fun j => if j < 2 then 1 else 0
  | 34 => fun j => if j < 2 then 1 else 0
  | 35 => fun j => if j < 2 then 1 else 0
  | _ => fun _ => 0
theorem zs0_six : (upd (upd (upd (upd (upd (upd (fun _ => 0) 0 (zI (1))) 1 (zI (1))) 2 (zI (1))) 3 (zI (1))) 4 (zI (1))) 5 (zI (1))) = fun j => zI (if j < 6 then 1 else 0) := by
  funext j
  match j with
  | 0 => rfl
  | 1 => rfl
  | 2 => rfl
  | 3 => rfl
  | 4 => rfl
  | 5 => rfl
  | n + 6 =>
    rw [if_neg (show ¬ n + 6 < 6 by omega)]
    simp [upd]
    rfl
abbrev zWs (ca : Nat → ClassId) (h1 h2 : Nat) (u1 u2 : Nat → Nat) : va_W := [(h1, .inr (6, [.ref (u1 0), .ref (u1 1), .ref (u1 3), .ref (u1 5), .ref (u1 7), .ref (u1 11), .ref (u1 13), .ref (u1 17)])), ((u1 0), .inl (ca 3, 6, .inr (.inr (.inr (.inr (va_up (va_up (va_up (va_up (va_up (va_up (fun _ => none) 0 (some ((u1 18)))) 1 (some ((u1 20)))) 2 (some ((u1 22)))) 3 (some ((u1 24)))) 4 (some ((u1 26)))) 5 (some ((u1 28))))))))), ((u1 1), .inr (3, [.int (zI (1)), .int (zI (1)), .ref (u1 2)])), ((u1 2), .inl (ca 0, 12, .inl (fun _ => 0))), ((u1 3), .inr (5, [.ref (u1 4), .int (zI (0))])), ((u1 4), .inl (ca 0, 60, .inl (fun _ => 0))), ((u1 5), .inr (1, [.ref (u1 6), .int 0, .int 0, .int 0])), ((u1 6), .inl (ca 0, 625, .inl (fun _ => 0))), ((u1 7), .inr (4, [.ref (u1 8), .ref (u1 9), .ref (u1 10), .int (zI (1)), .int (zI (1)), .int 0, .int 0, .int 0, .int 0])), ((u1 8), .inl (ca 0, 12, .inl (fun _ => 0))), ((u1 9), .inl (ca 0, 12, .inl (fun _ => 0))), ((u1 10), .inl (ca 0, 12, .inl (fun _ => 0))), ((u1 11), .inr (2, [.ref (u1 12), .int (zI (1))])), ((u1 12), .inl (ca 0, 6, .inl (fun _ => 0))), ((u1 13), .inr (0, [.ref (u1 14), .ref (u1 15), .int (zI (0)), .ref (u1 16), .int 0])), ((u1 14), .inl (ca 0, 40, .inl (fun _ => 0))), ((u1 15), .inl (ca 0, 40, .inl (fun _ => 0))), ((u1 16), .inl (ca 0, 779, .inl (fun _ => 0))), ((u1 17), .inl (ca 2, 8, .inr (.inl (fun _ => 0)))), ((u1 18), .inr (3, [.int (zI (1)), .int (zI (1)), .ref (u1 19)])), ((u1 19), .inl (ca 0, 12, .inl (fun _ => 0))), ((u1 20), .inr (3, [.int (zI (1)), .int (zI (1)), .ref (u1 21)])), ((u1 21), .inl (ca 0, 12, .inl (fun _ => 0))), ((u1 22), .inr (3, [.int (zI (1)), .int (zI (1)), .ref (u1 23)])), ((u1 23), .inl (ca 0, 12, .inl (fun _ => 0))), ((u1 24), .inr (3, [.int (zI (1)), .int (zI (1)), .ref (u1 25)])), ((u1 25), .inl (ca 0, 12, .inl (fun _ => 0))), ((u1 26), .inr (3, [.int (zI (1)), .int (zI (1)), .ref (u1 27)])), ((u1 27), .inl (ca 0, 12, .inl (fun _ => 0))), ((u1 28), .inr (3, [.int (zI (1)), .int (zI (1)), .ref (u1 29)])), ((u1 29), .inl (ca 0, 12, .inl (fun _ => 0))), (h2, .inr (7, [.ref (u2 0), .ref (u2 1), .ref (u2 2), .int 0, .ref (u2 3), .int 0, .ref (u2 4), .ref (u2 5), .ref (u2 6), .int 0, .ref (u2 7), .ref (u2 8), .int 0, .ref (u2 9), .ref (u2 10), .int 0, .int 0, .int 0])), ((u2 0), .inl (ca 0, 6, .inl (upd (upd (upd (upd (upd (upd (fun _ => 0) 0 (zI (1))) 1 (zI (1))) 2 (zI (1))) 3 (zI (1))) 4 (zI (1))) 5 (zI (1))))), ((u2 1), .inl (ca 0, 6, .inl (upd (upd (upd (upd (upd (upd (fun _ => 0) 0 (zI (1))) 1 (zI (1))) 2 (zI (1))) 3 (zI (1))) 4 (zI (1))) 5 (zI (1))))), ((u2 2), .inl (ca 0, 72, .inl (fun _ => 0))), ((u2 3), .inl (ca 1, 60, .inl (fun _ => 0))), ((u2 4), .inl (ca 0, 40, .inl (fun _ => 0))), ((u2 5), .inl (ca 0, 40, .inl (fun _ => 0))), ((u2 6), .inl (ca 0, 12, .inl (fun _ => 0))), ((u2 7), .inl (ca 0, 72, .inl (fun _ => 0))), ((u2 8), .inl (ca 0, 6, .inl (fun _ => 0))), ((u2 9), .inl (ca 0, 12, .inl (fun _ => 0))), ((u2 10), .inl (ca 0, 12, .inl (fun _ => 0)))]
abbrev zAd (h1 h2 : Nat) (u1 u2 : Nat → Nat) : Nat → Nat := fun p => [h1, (u1 0), (u1 3), (u1 4), (u1 5), (u1 6), (u1 7), (u1 8), (u1 9), (u1 10), (u1 11), (u1 12), (u1 13), (u1 14), (u1 15), (u1 16), (u1 17), h2, (u2 0), (u2 1), (u2 2), (u2 3), (u2 4), (u2 5), (u2 6), (u2 7), (u2 8), (u2 9), (u2 10), (u1 18), (u1 20), (u1 22), (u1 24), (u1 26), (u1 28), (u1 1), (u1 19), (u1 21), (u1 23), (u1 25), (u1 27), (u1 29), (u1 2)].getD p 0
def zPs : List Nat := [0, 1, 4, 5, 6, 7, 8, 9, 10, 11, 12, 13, 14, 15, 16, 17, 18, 31, 32, 33, 34, 35, 36, 37, 38, 39, 40, 41, 42, 19, 21, 23, 25, 27, 29, 2, 20, 22, 24, 26, 28, 30, 3]
theorem zPs_ad (ca : Nat → ClassId) (h1 h2 : Nat) (u1 u2 : Nat → Nat) : ∀ p, p < 43 → ∃ e, (zWs ca h1 h2 u1 u2)[zPs.getD p 0]? = some (zAd h1 h2 u1 u2 p, e) := by
  intro p hp
  match p, hp with
  | 0, _ => exact ⟨_, rfl⟩
  | 1, _ => exact ⟨_, rfl⟩
  | 2, _ => exact ⟨_, rfl⟩
  | 3, _ => exact ⟨_, rfl⟩
  | 4, _ => exact ⟨_, rfl⟩
  | 5, _ => exact ⟨_, rfl⟩
  | 6, _ => exact ⟨_, rfl⟩
  | 7, _ => exact ⟨_, rfl⟩
  | 8, _ => exact ⟨_, rfl⟩
  | 9, _ => exact ⟨_, rfl⟩
  | 10, _ => exact ⟨_, rfl⟩
  | 11, _ => exact ⟨_, rfl⟩
  | 12, _ => exact ⟨_, rfl⟩
  | 13, _ => exact ⟨_, rfl⟩
  | 14, _ => exact ⟨_, rfl⟩
  | 15, _ => exact ⟨_, rfl⟩
  | 16, _ => exact ⟨_, rfl⟩
  | 17, _ => exact ⟨_, rfl⟩
  | 18, _ => exact ⟨_, rfl⟩
  | 19, _ => exact ⟨_, rfl⟩
  | 20, _ => exact ⟨_, rfl⟩
  | 21, _ => exact ⟨_, rfl⟩
  | 22, _ => exact ⟨_, rfl⟩
  | 23, _ => exact ⟨_, rfl⟩
  | 24, _ => exact ⟨_, rfl⟩
  | 25, _ => exact ⟨_, rfl⟩
  | 26, _ => exact ⟨_, rfl⟩
  | 27, _ => exact ⟨_, rfl⟩
  | 28, _ => exact ⟨_, rfl⟩
  | 29, _ => exact ⟨_, rfl⟩
  | 30, _ => exact ⟨_, rfl⟩
  | 31, _ => exact ⟨_, rfl⟩
  | 32, _ => exact ⟨_, rfl⟩
  | 33, _ => exact ⟨_, rfl⟩
  | 34, _ => exact ⟨_, rfl⟩
  | 35, _ => exact ⟨_, rfl⟩
  | 36, _ => exact ⟨_, rfl⟩
  | 37, _ => exact ⟨_, rfl⟩
  | 38, _ => exact ⟨_, rfl⟩
  | 39, _ => exact ⟨_, rfl⟩
  | 40, _ => exact ⟨_, rfl⟩
  | 41, _ => exact ⟨_, rfl⟩
  | 42, _ => exact ⟨_, rfl⟩
  | n + 43, hp => omega
theorem zPs_inj : ∀ p, p < 43 → ∀ q, q < 43 → zPs.getD p 0 = zPs.getD q 0 → p = q := by decide +kernel
theorem zconv_D {A : Nat → Prop} {D : va_G} {ca : Nat → ClassId} {h1 h2 : Nat} {u1 u2 : Nat → Nat} (h : va_D A (zWs ca h1 h2 u1 u2)) (σ : Hp) : va_D A (zwd (D, zAd h1 h2 u1 u2, ca) σ) := by
  have key : ∀ (k : Nat) (q : Nat × va_E), (zwd (D, zAd h1 h2 u1 u2, ca) σ)[k]? = some q → k < 43 ∧ q.1 = zAd h1 h2 u1 u2 k := by
    intro k q hk
    have hlt : k < 43 := by
      have := (List.getElem?_eq_some_iff.mp hk).1
      simpa [zwd] using this
    rw [zwd_at hlt] at hk
    cases hk
    exact ⟨hlt, rfl⟩
  refine ⟨fun i j p q hi hj hpq => ?_, fun k q hk => ?_⟩
  · obtain ⟨a1, a2⟩ := key i p hi
    obtain ⟨b1, b2⟩ := key j q hj
    obtain ⟨e1, f1⟩ := zPs_ad ca h1 h2 u1 u2 i a1
    obtain ⟨e2, f2⟩ := zPs_ad ca h1 h2 u1 u2 j b1
    exact zPs_inj i a1 j b1 (h.1 _ _ _ _ f1 f2 (a2.symm.trans (hpq.trans b2)))
  · obtain ⟨a1, a2⟩ := key k q hk
    obtain ⟨e1, f1⟩ := zPs_ad ca h1 h2 u1 u2 k a1
    rw [a2]
    exact h.2 _ _ f1
set_option maxRecDepth 100000 in
theorem zconv_P {D : va_G} {ca : Nat → ClassId} {h1 h2 : Nat} {u1 u2 : Nat → Nat} {H : Heap} (h : va_P D vwCl (zWs ca h1 h2 u1 u2) H) : va_P D vwCl (zwd (D, zAd h1 h2 u1 u2, ca) zs0) H := by
  intro k q hk
  have hlt : k < 43 := by
    have := (List.getElem?_eq_some_iff.mp hk).1
    simpa [zwd] using this
  rw [zwd_at hlt] at hk
  cases hk
  match k, hlt with
  | 0, _ => exact h 0 _ rfl
  | 1, _ =>
    have e := h 1 _ rfl
    show H[_]? = some (vp_cell _ _)
    refine Eq.trans e (congrArg some (zarrV (fun j hj => ?_)))
    match j, hj with
    | 0, _ => rfl
    | 1, _ => rfl
    | 2, _ => rfl
    | 3, _ => rfl
    | 4, _ => rfl
    | 5, _ => rfl
    | n + 6, hj => omega
  | 2, _ => exact h 4 _ rfl
  | 3, _ => exact h 5 _ rfl
  | 4, _ => exact h 6 _ rfl
  | 5, _ => exact h 7 _ rfl
  | 6, _ => exact h 8 _ rfl
  | 7, _ => exact h 9 _ rfl
  | 8, _ => exact h 10 _ rfl
  | 9, _ => exact h 11 _ rfl
  | 10, _ => exact h 12 _ rfl
  | 11, _ => exact h 13 _ rfl
  | 12, _ => exact h 14 _ rfl
  | 13, _ => exact h 15 _ rfl
  | 14, _ => exact h 16 _ rfl
  | 15, _ => exact h 17 _ rfl
  | 16, _ => exact h 18 _ rfl
  | 17, _ => exact h 31 _ rfl
  | 18, _ =>
    have e := h 32 _ rfl
    rw [zs0_six] at e
    exact e
  | 19, _ =>
    have e := h 33 _ rfl
    rw [zs0_six] at e
    exact e
  | 20, _ => exact h 34 _ rfl
  | 21, _ => exact h 35 _ rfl
  | 22, _ => exact h 36 _ rfl
  | 23, _ => exact h 37 _ rfl
  | 24, _ => exact h 38 _ rfl
  | 25, _ => exact h 39 _ rfl
  | 26, _ => exact h 40 _ rfl
  | 27, _ => exact h 41 _ rfl
  | 28, _ => exact h 42 _ rfl
  | 29, _ => exact h 19 _ rfl
  | 30, _ => exact h 21 _ rfl
  | 31, _ => exact h 23 _ rfl
  | 32, _ => exact h 25 _ rfl
  | 33, _ => exact h 27 _ rfl
  | 34, _ => exact h 29 _ rfl
  | 35, _ => exact h 2 _ rfl
  | 36, _ => exact h 20 _ rfl
  | 37, _ => exact h 22 _ rfl
  | 38, _ => exact h 24 _ rfl
  | 39, _ => exact h 26 _ rfl
  | 40, _ => exact h 28 _ rfl
  | 41, _ => exact h 30 _ rfl
  | 42, _ => exact h 3 _ rfl
  | n + 43, hp => omega
set_option maxRecDepth 100000 in
set_option maxHeartbeats 8000000 in
/-- the law, from its entry, out of its loop's predicate -/
theorem start_of {p : Program} {e : Env} {s : State} {m : MethodId} {below : List Frame} {meth : Method} {c : Code} (l : Launch) {b L : Nat} {xs : Nat → Int32} (hL : L ≤ 3072) (C0 : lw_At p s m meth c b L xs) (hp : ∃ n, wL_law_18 L xs n 0 zs0) : W p l e room_1 s m #[Value.ref b] below meth c s.heap [] 0 0 (lw_Z below #[Value.ref b] s) (entryFrame m ([Value.ref b] : List Value).toArray 4) := by
  obtain ⟨hx, hb, hr, hml, hown, hts0, hX, hbl, hlocks, hgv⟩ := id C0
  have hts : ∀ w ∈ ztb, w.before #[Value.ref b] s = true := fun w hw => hts0 w (List.mem_filter.mp hw).1
  obtain ⟨c0, iS0, hKn0⟩ := u_known (C := RX0) (T := TX0) (N := 5) (n := 5) hts iw_X0 (hts (.instantiable RX0 5) (zmem 159 (by decide +kernel) (by decide +kernel)))
  obtain ⟨c1, iS1, hKn1⟩ := u_known (C := RX1) (T := TX1) (N := 4) (n := 4) hts iw_X1 (hts (.instantiable RX1 4) (zmem 93 (by decide +kernel) (by decide +kernel)))
  obtain ⟨c2, iS2, hKn2⟩ := u_known (C := RX2) (T := TX2) (N := 2) (n := 2) hts iw_X2 (hts (.instantiable RX2 2) (zmem 146 (by decide +kernel) (by decide +kernel)))
  obtain ⟨c3, iS3, hKn3⟩ := u_known (C := RX3) (T := TX3) (N := 3) (n := 3) hts iw_X3 (hts (.instantiable RX3 3) (zmem 63 (by decide +kernel) (by decide +kernel)))
  obtain ⟨c4, iS4, hKn4⟩ := u_known (C := RX4) (T := TX4) (N := 9) (n := 9) hts iw_X4 (hts (.instantiable RX4 9) (zmem 112 (by decide +kernel) (by decide +kernel)))
  obtain ⟨c5, iS5, hKn5⟩ := u_known (C := RX5) (T := TX5) (N := 2) (n := 2) hts iw_X5 (hts (.instantiable RX5 2) (zmem 80 (by decide +kernel) (by decide +kernel)))
  obtain ⟨c6, iS6, hKn6⟩ := u_known (C := RX6) (T := TX6) (N := 8) (n := 8) hts iw_X6 (hts (.instantiable RX6 8) (zmem 54 (by decide +kernel) (by decide +kernel)))
  obtain ⟨c7, iS7, hKn7⟩ := u_known (C := RX7) (T := TX7) (N := 18) (n := 18) hts iw_X7 (hts (.instantiable RX7 18) (zmem 656 (by decide +kernel) (by decide +kernel)))
  obtain ⟨D, hKc⟩ : ∃ D : va_G, ∀ (k : Nat) (q : vw_C), vwCl[k]? = some q → u_Kn s q.1 q.2.1 q.2.2 (D.1 k) (D.2 k) := by
    refine ⟨(fun k => [c0, c1, c2, c3, c4, c5, c6, c7].getD k c0, fun k => [iS0, iS1, iS2, iS3, iS4, iS5, iS6, iS7].getD k iS0), ?_⟩
    intro k q hq
    match k, hq with
    | 0, hq => cases hq; exact hKn0
    | 1, hq => cases hq; exact hKn1
    | 2, hq => cases hq; exact hKn2
    | 3, hq => cases hq; exact hKn3
    | 4, hq => cases hq; exact hKn4
    | 5, hq => cases hq; exact hKn5
    | 6, hq => cases hq; exact hKn6
    | 7, hq => cases hq; exact hKn7
    | k + 8, hq => simp [vwCl] at hq
  have hAO : va_AO RX3 s := va_AO.of (A := #[Value.ref b]) (hts0 (.arrayOver (.object RX3)) (List.mem_of_getElem? (i := 62) (by decide +kernel)))
  obtain ⟨ca, hKa⟩ : ∃ ca : Nat → ClassId, va_K D vwCl (ztyc ca) s := by
    obtain ⟨aI, kI, mI, f1, f2, f3⟩ := Cond.arrayClass_spec (hts (.arrayClass .int) (zmem 78 (by decide +kernel) (by decide +kernel)))
    obtain ⟨aB, kB, mB, g1, g2, g3⟩ := Cond.arrayClass_spec (hts (.arrayClass .byte) (zmem 716 (by decide +kernel) (by decide +kernel)))
    obtain ⟨aJ, kJ, mJ, i1, i2, i3⟩ := Cond.arrayClass_spec (hts (.arrayClass .long) (zmem 205 (by decide +kernel) (by decide +kernel)))
    obtain ⟨mO, aO, kO, j1, -, j2, j3, j4⟩ := Cond.arrayOver_spec hAO
    refine ⟨fun k => [aI, aB, aJ, aO].getD k aI, hKc, ?_⟩
    intro k q hq
    match k, hq with
    | 0, hq => cases hq; exact ⟨fun N z => ⟨(fun k h => by cases h), kI, f2, mI, f3⟩, f1⟩
    | 1, hq => cases hq; exact ⟨fun N z => ⟨(fun k h => by cases h), kB, g2, mB, g3⟩, g1⟩
    | 2, hq => cases hq; exact ⟨fun N z => ⟨(fun k h => by cases h), kJ, i2, mJ, i3⟩, i1⟩
    | 3, hq => cases hq; exact ⟨fun N z => ⟨(fun k h => by cases h), kO, j2, mO, j3⟩, kO, mO, j2, j3, j1, j4⟩
    | k + 4, hq => simp [ztyc] at hq
  have hN : ∀ n ∈ znest, va_Nw n s := by
    intro n hn
    exact va_Nw.of ((show ∀ n ∈ znest, n.onTables = true by decide +kernel) n hn) (hts0 n ((show ∀ n ∈ znest, n ∈ lw_tbl by decide +kernel) n hn))
  have hbA : ¬ (fun q : Nat => s.heap.size ≤ q) b := Nat.not_le.mpr hbl
  rw [lg_entry_eq]
  have start : ∀ x : Cx, x = ((p, l, e, room_1, s, m, #[Value.ref b], below, meth, c), (D, (fun _ => 0), ca), (fun q : Nat => s.heap.size ≤ q), lw_Z below #[Value.ref b] s, 4, 0, 0) → zC x 0 0 [] 0 [(0, .ref b)] [] := by
    intro x hxe
    have C : zOc x cL_law RL 4 21 492 600000 7302250 := by
      subst hxe
      exact ⟨hx, hb, hml, hown, hts, hKa, hAO, fun q h => h, rfl, by decide, by decide, by decide, by decide⟩
    have hxD : x.2.1.1 = D := by rw [hxe]
    have hxc : x.2.1.2.2 = ca := by rw [hxe]

    refine zc_new (ci := 6) (fs := [.null, .null, .null, .null, .null, .null, .null, .null]) C rfl iw_X6 tyX6_ok kw_cl_L_7 kw_in_X6 kw_ini_X6 (fun j hj => by rcases (show j = 0 ∨ j = 1 ∨ j = 2 ∨ j = 3 ∨ j = 4 ∨ j = 5 ∨ j = 6 ∨ j = 7 by omega) with rfl | rfl | rfl | rfl | rfl | rfl | rfl | rfl <;> rfl) (by decide) (by decide) dL_law_0 (fun h1 => ?_)
    change zC x 1 8 [(h1, .inr (6, [.null, .null, .null, .null, .null, .null, .null, .null]))] 3 [(0, .ref b)] [.ref h1]
    refine zc_dup C dL_law_3 rfl ?_
    refine zc_call (e0 := .inr (6, [.null, .null, .null, .null, .null, .null, .null, .null])) C [.ref h1] [0] [] [] (fun l sz => n_X6 l x.2.1.1 x.2.1.2.2 h1 sz) kw_co_X6 kw_ini_X6 kw_ml_L_9 kw_im_X6 rfl (by decide) ⟨by decide, by decide⟩ (Nat.le_of_ble_eq_true rfl) ⟨by decide, by decide⟩ rfl rfl rfl (by decide) (by decide) dL_law_4 (fun u1 => ?_)
    change zC x 31 1735 [(h1, .inr (6, [.ref (u1 0), .ref (u1 1), .ref (u1 3), .ref (u1 5), .ref (u1 7), .ref (u1 11), .ref (u1 13), .ref (u1 17)])), ((u1 0), .inl (x.2.1.2.2 3, 6, .inr (.inr (.inr (.inr (va_up (va_up (va_up (va_up (va_up (va_up (fun _ => none) 0 (some ((u1 18)))) 1 (some ((u1 20)))) 2 (some ((u1 22)))) 3 (some ((u1 24)))) 4 (some ((u1 26)))) 5 (some ((u1 28))))))))), ((u1 1), .inr (3, [.int (zI (1)), .int (zI (1)), .ref (u1 2)])), ((u1 2), .inl (x.2.1.2.2 0, 12, .inl (fun _ => 0))), ((u1 3), .inr (5, [.ref (u1 4), .int (zI (0))])), ((u1 4), .inl (x.2.1.2.2 0, 60, .inl (fun _ => 0))), ((u1 5), .inr (1, [.ref (u1 6), .int 0, .int 0, .int 0])), ((u1 6), .inl (x.2.1.2.2 0, 625, .inl (fun _ => 0))), ((u1 7), .inr (4, [.ref (u1 8), .ref (u1 9), .ref (u1 10), .int (zI (1)), .int (zI (1)), .int 0, .int 0, .int 0, .int 0])), ((u1 8), .inl (x.2.1.2.2 0, 12, .inl (fun _ => 0))), ((u1 9), .inl (x.2.1.2.2 0, 12, .inl (fun _ => 0))), ((u1 10), .inl (x.2.1.2.2 0, 12, .inl (fun _ => 0))), ((u1 11), .inr (2, [.ref (u1 12), .int (zI (1))])), ((u1 12), .inl (x.2.1.2.2 0, 6, .inl (fun _ => 0))), ((u1 13), .inr (0, [.ref (u1 14), .ref (u1 15), .int (zI (0)), .ref (u1 16), .int 0])), ((u1 14), .inl (x.2.1.2.2 0, 40, .inl (fun _ => 0))), ((u1 15), .inl (x.2.1.2.2 0, 40, .inl (fun _ => 0))), ((u1 16), .inl (x.2.1.2.2 0, 779, .inl (fun _ => 0))), ((u1 17), .inl (x.2.1.2.2 2, 8, .inr (.inl (fun _ => 0)))), ((u1 18), .inr (3, [.int (zI (1)), .int (zI (1)), .ref (u1 19)])), ((u1 19), .inl (x.2.1.2.2 0, 12, .inl (fun _ => 0))), ((u1 20), .inr (3, [.int (zI (1)), .int (zI (1)), .ref (u1 21)])), ((u1 21), .inl (x.2.1.2.2 0, 12, .inl (fun _ => 0))), ((u1 22), .inr (3, [.int (zI (1)), .int (zI (1)), .ref (u1 23)])), ((u1 23), .inl (x.2.1.2.2 0, 12, .inl (fun _ => 0))), ((u1 24), .inr (3, [.int (zI (1)), .int (zI (1)), .ref (u1 25)])), ((u1 25), .inl (x.2.1.2.2 0, 12, .inl (fun _ => 0))), ((u1 26), .inr (3, [.int (zI (1)), .int (zI (1)), .ref (u1 27)])), ((u1 27), .inl (x.2.1.2.2 0, 12, .inl (fun _ => 0))), ((u1 28), .inr (3, [.int (zI (1)), .int (zI (1)), .ref (u1 29)])), ((u1 29), .inl (x.2.1.2.2 0, 12, .inl (fun _ => 0)))] 7 [(0, .ref b)] [.ref h1]
    refine zc_astore_n C [(1, .ref h1), (0, .ref b)] dL_law_7 rfl (by decide) rfl ?_
    refine zc_new (ci := 7) (fs := [.null, .null, .null, .int 0, .null, .int 0, .null, .null, .null, .int 0, .null, .null, .int 0, .null, .null, .int 0, .int 0, .int 0]) C rfl iw_X7 tyX7_ok kw_cl_L_10 kw_in_X7 kw_ini_X7 (fun j hj => by rcases (show j = 0 ∨ j = 1 ∨ j = 2 ∨ j = 3 ∨ j = 4 ∨ j = 5 ∨ j = 6 ∨ j = 7 ∨ j = 8 ∨ j = 9 ∨ j = 10 ∨ j = 11 ∨ j = 12 ∨ j = 13 ∨ j = 14 ∨ j = 15 ∨ j = 16 ∨ j = 17 by omega) with rfl | rfl | rfl | rfl | rfl | rfl | rfl | rfl | rfl | rfl | rfl | rfl | rfl | rfl | rfl | rfl | rfl | rfl <;> rfl) (by decide) (by decide) dL_law_8 (fun h2 => ?_)
    change zC x 32 1753 [(h1, .inr (6, [.ref (u1 0), .ref (u1 1), .ref (u1 3), .ref (u1 5), .ref (u1 7), .ref (u1 11), .ref (u1 13), .ref (u1 17)])), ((u1 0), .inl (x.2.1.2.2 3, 6, .inr (.inr (.inr (.inr (va_up (va_up (va_up (va_up (va_up (va_up (fun _ => none) 0 (some ((u1 18)))) 1 (some ((u1 20)))) 2 (some ((u1 22)))) 3 (some ((u1 24)))) 4 (some ((u1 26)))) 5 (some ((u1 28))))))))), ((u1 1), .inr (3, [.int (zI (1)), .int (zI (1)), .ref (u1 2)])), ((u1 2), .inl (x.2.1.2.2 0, 12, .inl (fun _ => 0))), ((u1 3), .inr (5, [.ref (u1 4), .int (zI (0))])), ((u1 4), .inl (x.2.1.2.2 0, 60, .inl (fun _ => 0))), ((u1 5), .inr (1, [.ref (u1 6), .int 0, .int 0, .int 0])), ((u1 6), .inl (x.2.1.2.2 0, 625, .inl (fun _ => 0))), ((u1 7), .inr (4, [.ref (u1 8), .ref (u1 9), .ref (u1 10), .int (zI (1)), .int (zI (1)), .int 0, .int 0, .int 0, .int 0])), ((u1 8), .inl (x.2.1.2.2 0, 12, .inl (fun _ => 0))), ((u1 9), .inl (x.2.1.2.2 0, 12, .inl (fun _ => 0))), ((u1 10), .inl (x.2.1.2.2 0, 12, .inl (fun _ => 0))), ((u1 11), .inr (2, [.ref (u1 12), .int (zI (1))])), ((u1 12), .inl (x.2.1.2.2 0, 6, .inl (fun _ => 0))), ((u1 13), .inr (0, [.ref (u1 14), .ref (u1 15), .int (zI (0)), .ref (u1 16), .int 0])), ((u1 14), .inl (x.2.1.2.2 0, 40, .inl (fun _ => 0))), ((u1 15), .inl (x.2.1.2.2 0, 40, .inl (fun _ => 0))), ((u1 16), .inl (x.2.1.2.2 0, 779, .inl (fun _ => 0))), ((u1 17), .inl (x.2.1.2.2 2, 8, .inr (.inl (fun _ => 0)))), ((u1 18), .inr (3, [.int (zI (1)), .int (zI (1)), .ref (u1 19)])), ((u1 19), .inl (x.2.1.2.2 0, 12, .inl (fun _ => 0))), ((u1 20), .inr (3, [.int (zI (1)), .int (zI (1)), .ref (u1 21)])), ((u1 21), .inl (x.2.1.2.2 0, 12, .inl (fun _ => 0))), ((u1 22), .inr (3, [.int (zI (1)), .int (zI (1)), .ref (u1 23)])), ((u1 23), .inl (x.2.1.2.2 0, 12, .inl (fun _ => 0))), ((u1 24), .inr (3, [.int (zI (1)), .int (zI (1)), .ref (u1 25)])), ((u1 25), .inl (x.2.1.2.2 0, 12, .inl (fun _ => 0))), ((u1 26), .inr (3, [.int (zI (1)), .int (zI (1)), .ref (u1 27)])), ((u1 27), .inl (x.2.1.2.2 0, 12, .inl (fun _ => 0))), ((u1 28), .inr (3, [.int (zI (1)), .int (zI (1)), .ref (u1 29)])), ((u1 29), .inl (x.2.1.2.2 0, 12, .inl (fun _ => 0))), (h2, .inr (7, [.null, .null, .null, .int 0, .null, .int 0, .null, .null, .null, .int 0, .null, .null, .int 0, .null, .null, .int 0, .int 0, .int 0]))] 11 [(1, .ref h1), (0, .ref b)] [.ref h2]
    refine zc_dup C dL_law_11 rfl ?_
    refine zc_call (e0 := .inr (7, [.null, .null, .null, .int 0, .null, .int 0, .null, .null, .null, .int 0, .null, .null, .int 0, .null, .null, .int 0, .int 0, .int 0])) C [.ref h2] [31] [0, 1, 2, 3, 4, 5, 6, 7, 8, 9, 10, 11, 12, 13, 14, 15, 16, 17, 18, 19, 20, 21, 22, 23, 24, 25, 26, 27, 28, 29, 30] [(h1, .inr (6, [.ref (u1 0), .ref (u1 1), .ref (u1 3), .ref (u1 5), .ref (u1 7), .ref (u1 11), .ref (u1 13), .ref (u1 17)])), ((u1 0), .inl (x.2.1.2.2 3, 6, .inr (.inr (.inr (.inr (va_up (va_up (va_up (va_up (va_up (va_up (fun _ => none) 0 (some ((u1 18)))) 1 (some ((u1 20)))) 2 (some ((u1 22)))) 3 (some ((u1 24)))) 4 (some ((u1 26)))) 5 (some ((u1 28))))))))), ((u1 1), .inr (3, [.int (zI (1)), .int (zI (1)), .ref (u1 2)])), ((u1 2), .inl (x.2.1.2.2 0, 12, .inl (fun _ => 0))), ((u1 3), .inr (5, [.ref (u1 4), .int (zI (0))])), ((u1 4), .inl (x.2.1.2.2 0, 60, .inl (fun _ => 0))), ((u1 5), .inr (1, [.ref (u1 6), .int 0, .int 0, .int 0])), ((u1 6), .inl (x.2.1.2.2 0, 625, .inl (fun _ => 0))), ((u1 7), .inr (4, [.ref (u1 8), .ref (u1 9), .ref (u1 10), .int (zI (1)), .int (zI (1)), .int 0, .int 0, .int 0, .int 0])), ((u1 8), .inl (x.2.1.2.2 0, 12, .inl (fun _ => 0))), ((u1 9), .inl (x.2.1.2.2 0, 12, .inl (fun _ => 0))), ((u1 10), .inl (x.2.1.2.2 0, 12, .inl (fun _ => 0))), ((u1 11), .inr (2, [.ref (u1 12), .int (zI (1))])), ((u1 12), .inl (x.2.1.2.2 0, 6, .inl (fun _ => 0))), ((u1 13), .inr (0, [.ref (u1 14), .ref (u1 15), .int (zI (0)), .ref (u1 16), .int 0])), ((u1 14), .inl (x.2.1.2.2 0, 40, .inl (fun _ => 0))), ((u1 15), .inl (x.2.1.2.2 0, 40, .inl (fun _ => 0))), ((u1 16), .inl (x.2.1.2.2 0, 779, .inl (fun _ => 0))), ((u1 17), .inl (x.2.1.2.2 2, 8, .inr (.inl (fun _ => 0)))), ((u1 18), .inr (3, [.int (zI (1)), .int (zI (1)), .ref (u1 19)])), ((u1 19), .inl (x.2.1.2.2 0, 12, .inl (fun _ => 0))), ((u1 20), .inr (3, [.int (zI (1)), .int (zI (1)), .ref (u1 21)])), ((u1 21), .inl (x.2.1.2.2 0, 12, .inl (fun _ => 0))), ((u1 22), .inr (3, [.int (zI (1)), .int (zI (1)), .ref (u1 23)])), ((u1 23), .inl (x.2.1.2.2 0, 12, .inl (fun _ => 0))), ((u1 24), .inr (3, [.int (zI (1)), .int (zI (1)), .ref (u1 25)])), ((u1 25), .inl (x.2.1.2.2 0, 12, .inl (fun _ => 0))), ((u1 26), .inr (3, [.int (zI (1)), .int (zI (1)), .ref (u1 27)])), ((u1 27), .inl (x.2.1.2.2 0, 12, .inl (fun _ => 0))), ((u1 28), .inr (3, [.int (zI (1)), .int (zI (1)), .ref (u1 29)])), ((u1 29), .inl (x.2.1.2.2 0, 12, .inl (fun _ => 0)))] (fun l sz => n_X7 l x.2.1.1 x.2.1.2.2 h2 sz) kw_co_X7 kw_ini_X7 kw_ml_L_12 kw_im_X7 rfl (by decide) ⟨by decide, by decide⟩ (Nat.le_of_ble_eq_true rfl) ⟨by decide, by decide⟩ rfl rfl rfl (by decide) (by decide) dL_law_12 (fun u2 => ?_)
    refine zc_astore_n C [(2, .ref h2), (1, .ref h1), (0, .ref b)] dL_law_15 rfl (by decide) rfl ?_
    refine zc_iconst C dL_law_16 ?_
    refine zc_istore_n C [(3, .int (zI 0)), (2, .ref h2), (1, .ref h1), (0, .ref b)] dL_law_17 rfl (by decide) rfl ?_
    change zC x 43 2091 (zWs x.2.1.2.2 h1 h2 u1 u2) 18 [(3, .int (zI 0)), (2, .ref h2), (1, .ref h1), (0, .ref b)] []
    clear C
    subst hxe
    intro H locs ls hl hP hD hS
    obtain ⟨n, hn⟩ := hp
    refine W.widen (k := 600000) (n := 7302250) (by decide) (by decide) ?_
    exact sL_law_18 (x := ((p, l, e, room_1, s, m, #[Value.ref b], below, meth, c), (D, zAd h1 h2 u1 u2, ca), (fun q : Nat => s.heap.size ≤ q), lw_Z below #[Value.ref b] s, 4, 600000, 7302250)) (b := b) (L := L) (xs := xs)
      ⟨hx, hb, hml, hown, hts, hKa, fun σ => zconv_D hD σ, hN, hr, hlocks, by decide, by decide, Nat.le_refl _, Nat.le_refl _⟩ rfl ⟨rfl, rfl, rfl, rfl, rfl, fun _ h => h⟩ ⟨hX, hbl, hbA, by omega⟩ n 0 zs0 hn H locs ls (lv_sub hl [3, 2, 1, 0] rfl) (zconv_P hP) hS
  exact start _ rfl s.heap [] _ (lv_entry [.ref b] (Nat.le_of_ble_eq_true rfl)) (fun k q h => by simp at h) ⟨fun i j p q h => by simp at h, fun k q h => by simp at h⟩ va_S.rf
