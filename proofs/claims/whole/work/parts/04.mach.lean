/-! The world of this claim: 43 places (cells), each an object or an array, all made before the law's loop; a heap picture is a function
from place and slot to whole numbers. zV: the machine stands at pc with locals lv and stack st, the world holds the picture σ: it comes to its end. -/
def zI (z : Int) : Int32 := Int32.ofInt z
def zJ (z : Int) : Int64 := Int64.ofInt z
def zrg (z : Int) : Prop := -2147483648 ≤ z ∧ z < 2147483648
def zrl (z : Int) : Prop := -9223372036854775808 ≤ z ∧ z < 9223372036854775808
abbrev Hp : Type := Nat → Nat → Int
def zst (σ : Hp) (p j : Nat) (v : Int) : Hp := fun q => if q = p then (fun t => if t = j then v else σ q t) else σ q
theorem zI_add (a b : Int) : zI a + zI b = zI (a + b) := (Int32.ofInt_add a b).symm
theorem zI_sub (a b : Int) : zI a - zI b = zI (a - b) := (Int32.ofInt_sub a b).symm
theorem zI_mul (a b : Int) : zI a * zI b = zI (a * b) := (Int32.ofInt_mul a b).symm
theorem zJ_add (a b : Int) : zJ a + zJ b = zJ (a + b) := (Int64.ofInt_add a b).symm
theorem zJ_mul (a b : Int) : zJ a * zJ b = zJ (a * b) := (Int64.ofInt_mul a b).symm
theorem zI_toInt {z : Int} (h : zrg z) : (zI z).toInt = z := Int32.toInt_ofInt_of_le (by have := h.1; omega) (by have := h.2; omega)
theorem zJ_toInt {z : Int} (h : zrl z) : (zJ z).toInt = z := Int64.toInt_ofInt_of_le (by have := h.1; omega) (by have := h.2; omega)
theorem zI_of (x : Int32) : zI x.toInt = x := Int32.ofInt_toInt x
theorem zJ_of (x : Int64) : zJ x.toInt = x := Int64.ofInt_toInt x
theorem zI_lt {a b : Int} (ha : zrg a) (hb : zrg b) : zI a < zI b ↔ a < b := by rw [Int32.lt_iff_toInt_lt, zI_toInt ha, zI_toInt hb]
theorem zI_le {a b : Int} (ha : zrg a) (hb : zrg b) : zI a ≤ zI b ↔ a ≤ b := by rw [Int32.le_iff_toInt_le, zI_toInt ha, zI_toInt hb]
theorem zI_eq {a b : Int} (ha : zrg a) (hb : zrg b) : zI a = zI b ↔ a = b := by rw [← Int32.toInt_inj, zI_toInt ha, zI_toInt hb]
theorem zJ_lt {a b : Int} (ha : zrl a) (hb : zrl b) : zJ a < zJ b ↔ a < b := by rw [Int64.lt_iff_toInt_lt, zJ_toInt ha, zJ_toInt hb]
theorem zJ_le {a b : Int} (ha : zrl a) (hb : zrl b) : zJ a ≤ zJ b ↔ a ≤ b := by rw [Int64.le_iff_toInt_le, zJ_toInt ha, zJ_toInt hb]
theorem zJ_eq {a b : Int} (ha : zrl a) (hb : zrl b) : zJ a = zJ b ↔ a = b := by rw [← Int64.toInt_inj, zJ_toInt ha, zJ_toInt hb]
theorem zrg_0 : zrg 0 := by constructor <;> decide
theorem zI_0 : zI 0 = 0 := by decide
theorem zI_cl {i : Int} {n : Nat} (h0 : 0 ≤ i) (h1 : i < n) (hn : n < 2147483648) : (zI i).toNatClampNeg = i.toNat := Int32.toNatClampNeg_ofInt_of_le (by omega) (by omega)
theorem zI_in {i : Int} {n : Nat} (h0 : 0 ≤ i) (h1 : i < n) (hn : n < 2147483648) : vp_in (zI i) n := by
  rw [vp_in_iff, zI_toInt ⟨by omega, by omega⟩]; omega
theorem zI_quo {a b : Int} (ha : zrg a) (hb : zrg b) (h0 : 0 < b) : zI a / zI b = zI (a.tdiv b) := by
  apply Int32.toInt_inj.mp
  have hne : zI b ≠ -1 := fun h => by
    have h1 : (zI b).toInt = (-1 : Int32).toInt := by rw [h]
    rw [zI_toInt hb] at h1
    have h2 : (-1 : Int32).toInt = -1 := by decide
    omega
  have h1 : (a.tdiv b).natAbs ≤ a.natAbs := by rw [Int.natAbs_tdiv]; exact Nat.div_le_self _ _
  have h2 : -a.natAbs ≤ a.tdiv b ∧ a.tdiv b ≤ a.natAbs := by omega
  have h3 : zrg (a.tdiv b) := by
    obtain ⟨a1, a2⟩ := ha
    by_cases hn : a = -2147483648
    · subst hn
      refine ⟨by omega, ?_⟩
      have : (-2147483648 : Int).tdiv b ≤ 0 := by
        rw [Int.neg_tdiv]
        have := Int.tdiv_nonneg (a := 2147483648) (b := b) (by omega) (by omega)
        omega
      omega
    · constructor <;> omega
  rw [Int32.toInt_div_of_ne_right _ _ hne, zI_toInt ha, zI_toInt hb, zI_toInt h3]
theorem zI_rem {a b : Int} (ha : zrg a) (hb : zrg b) (h0 : 0 < b) : zI a - zI a / zI b * zI b = zI (a.tmod b) := by
  rw [zI_quo ha hb h0, zI_mul, zI_sub]
  congr 1
  have := Int.mul_tdiv_add_tmod a b
  rw [Int.mul_comm]
  omega
theorem zI_l {a : Int} (ha : zrg a) : (zI a).toInt64 = zJ a := by
  apply Int64.toInt_inj.mp
  rw [Int32.toInt_toInt64, zI_toInt ha, zJ_toInt ⟨by have := ha.1; omega, by have := ha.2; omega⟩]
theorem zJ_i (a : Int) : (zJ a).toInt32 = zI a := Int64.toInt32_ofInt
/-- the machine's own bits, over whole numbers -/
def zand (a b : Int) : Int := (zI a &&& zI b).toInt
def zor (a b : Int) : Int := (zI a ||| zI b).toInt
def zxor (a b : Int) : Int := (zI a ^^^ zI b).toInt
def zshl (a b : Int) : Int := (zI a <<< (zI b &&& 31)).toInt
def zshr (a b : Int) : Int := (zI a >>> (zI b &&& 31)).toInt
def zushr (a b : Int) : Int := ((zI a).toUInt32 >>> ((zI b).toUInt32 &&& Int32.toUInt32 31)).toInt32.toInt
def zi2b (a : Int) : Int := (zI a).toInt8.toInt32.toInt
def zLand (a b : Int) : Int := (zJ a &&& zJ b).toInt
def zLor (a b : Int) : Int := (zJ a ||| zJ b).toInt
def zLshl (a b : Int) : Int := (zJ a <<< ((zI b).toInt64 &&& 63)).toInt
def zLshr (a b : Int) : Int := (zJ a >>> ((zI b).toInt64 &&& 63)).toInt
def zLushr (a b : Int) : Int := ((zJ a).toUInt64 >>> ((zI b).toInt64.toUInt64 &&& Int64.toUInt64 63)).toInt64.toInt
-- the tables' words that are good in every frame; the nest's links
def ztb : List Cond := lw_tbl.filter goodWord
theorem zmem {w : Cond} (i : Nat) (h : lw_tbl[i]? = some w) (hg : goodWord w = true) : w ∈ ztb := List.mem_filter.mpr ⟨List.mem_of_getElem? h, hg⟩
theorem zgood {y : MethodName} {cc : ByteArray} {n : Nat} {ret : Option FieldType} {big : List Cond} (hc : Cond.code y cc n ret ∈ ztb) (hb : ∀ w ∈ ztb, w ∈ big) : GoodIn big (.code y cc n ret :: ztb) := fun w hw =>
  (List.mem_cons.mp hw).elim (fun e => by subst e; exact ⟨hb _ hc, good_of_word (List.mem_filter.mp hc).2⟩) (fun h => ⟨hb _ h, good_of_word (List.mem_filter.mp h).2⟩)

def znest : List Cond := [.methodLinkNest RX3 22 yX6_within RX6, .methodLinkNest RX5 19 yX6_within RX6, .methodLinkNest RX3 36 yX6_rest RX6, .methodLinkNest RX1 47 yX6_isMove RX6, .methodLinkNest RX4 28 yX6_within RX6, .methodLinkNest RX4 93 yX6_rest RX6, .methodLinkNest RX2 19 yX6_within RX6, .methodLinkNest RX0 23 yX6_within RX6]
-- the world: class numbers and slots; addresses; array classes (int, byte, long, Row)
abbrev Wp : Type := va_G × (Nat → Nat) × (Nat → ClassId)
def ztys (w : Wp) : List (ClassId × FieldType) := [(w.2.2 0, .int), (w.2.2 1, .byte), (w.2.2 2, .long), (w.2.2 3, .object RX3)]

def zcell (w : Wp) (p : Nat) (f : Nat → Int) : va_E := match p with
  | 0 => .inr (6, [.ref (w.2.1 1), .ref (w.2.1 35), .ref (w.2.1 2), .ref (w.2.1 4), .ref (w.2.1 6), .ref (w.2.1 10), .ref (w.2.1 12), .ref (w.2.1 16)])
  | 1 => .inl (w.2.2 3, 6, .inr (.inr (.inr (.inr (fun j => some (w.2.1 (29 + j)))))))
  | 2 => .inr (5, [.ref (w.2.1 3), .int (zI (f 1))])
  | 3 => .inl (w.2.2 0, 60, .inl (fun j => zI (f j)))
  | 4 => .inr (1, [.ref (w.2.1 5), .int (zI (f 1)), .int (zI (f 2)), .int (zI (f 3))])
  | 5 => .inl (w.2.2 0, 625, .inl (fun j => zI (f j)))
  | 6 => .inr (4, [.ref (w.2.1 7), .ref (w.2.1 8), .ref (w.2.1 9), .int (zI (f 3)), .int (zI (f 4)), .int (zI (f 5)), .int (zI (f 6)), .int (zI (f 7)), .int (zI (f 8))])
  | 7 => .inl (w.2.2 0, 12, .inl (fun j => zI (f j)))
  | 8 => .inl (w.2.2 0, 12, .inl (fun j => zI (f j)))
  | 9 => .inl (w.2.2 0, 12, .inl (fun j => zI (f j)))
  | 10 => .inr (2, [.ref (w.2.1 11), .int (zI (f 1))])
  | 11 => .inl (w.2.2 0, 6, .inl (fun j => zI (f j)))
  | 12 => .inr (0, [.ref (w.2.1 13), .ref (w.2.1 14), .int (zI (f 2)), .ref (w.2.1 15), .int (zI (f 4))])
  | 13 => .inl (w.2.2 0, 40, .inl (fun j => zI (f j)))
  | 14 => .inl (w.2.2 0, 40, .inl (fun j => zI (f j)))
  | 15 => .inl (w.2.2 0, 779, .inl (fun j => zI (f j)))
  | 16 => .inl (w.2.2 2, 8, .inr (.inl (fun j => zJ (f j))))
  | 17 => .inr (7, [.ref (w.2.1 18), .ref (w.2.1 19), .ref (w.2.1 20), .int (zI (f 3)), .ref (w.2.1 21), .int (zI (f 5)), .ref (w.2.1 22), .ref (w.2.1 23), .ref (w.2.1 24), .int (zI (f 9)), .ref (w.2.1 25), .ref (w.2.1 26), .int (zI (f 12)), .ref (w.2.1 27), .ref (w.2.1 28), .int (zI (f 15)), .int (zI (f 16)), .int (zI (f 17))])
  | 18 => .inl (w.2.2 0, 6, .inl (fun j => zI (f j)))
  | 19 => .inl (w.2.2 0, 6, .inl (fun j => zI (f j)))
  | 20 => .inl (w.2.2 0, 72, .inl (fun j => zI (f j)))
  | 21 => .inl (w.2.2 1, 60, .inl (fun j => zI (f j)))
  | 22 => .inl (w.2.2 0, 40, .inl (fun j => zI (f j)))
  | 23 => .inl (w.2.2 0, 40, .inl (fun j => zI (f j)))
  | 24 => .inl (w.2.2 0, 12, .inl (fun j => zI (f j)))
  | 25 => .inl (w.2.2 0, 72, .inl (fun j => zI (f j)))
  | 26 => .inl (w.2.2 0, 6, .inl (fun j => zI (f j)))
  | 27 => .inl (w.2.2 0, 12, .inl (fun j => zI (f j)))
  | 28 => .inl (w.2.2 0, 12, .inl (fun j => zI (f j)))
  | q + 29 => if q < 7 then .inr (3, [.int (zI (f 0)), .int (zI (f 1)), .ref (w.2.1 (q + 36))]) else .inl (w.2.2 0, 12, .inl (fun j => zI (f j)))
theorem zcell_row {r : Nat} (hr : r < 7) (w : Wp) (f : Nat → Int) : zcell w (29 + r) f = .inr (3, [.int (zI (f 0)), .int (zI (f 1)), .ref (w.2.1 (36 + r))]) := by
  rcases (show r = 0 ∨ r = 1 ∨ r = 2 ∨ r = 3 ∨ r = 4 ∨ r = 5 ∨ r = 6 by omega) with rfl | rfl | rfl | rfl | rfl | rfl | rfl <;> rfl
theorem zcell_line {r : Nat} (hr : r < 7) (w : Wp) (f : Nat → Int) : zcell w (36 + r) f = .inl (w.2.2 0, 12, .inl (fun j => zI (f j))) := by
  rcases (show r = 0 ∨ r = 1 ∨ r = 2 ∨ r = 3 ∨ r = 4 ∨ r = 5 ∨ r = 6 by omega) with rfl | rfl | rfl | rfl | rfl | rfl | rfl <;> rfl
def zwd (w : Wp) (σ : Hp) : va_W := (List.range 43).map (fun p => (w.2.1 p, zcell w p (σ p)))
theorem zwd_at {w : Wp} {σ : Hp} {p : Nat} (h : p < 43) : (zwd w σ)[p]? = some (w.2.1 p, zcell w p (σ p)) := by simp [zwd, h]
theorem zwd_set {w : Wp} {σ σ' : Hp} {p : Nat} {e : va_E} (h : p < 43) (he : e = zcell w p (σ' p)) (ho : ∀ q, q ≠ p → σ' q = σ q) : (zwd w σ).set p (w.2.1 p, e) = zwd w σ' := by
  apply List.ext_getElem?
  intro k
  rw [List.getElem?_set]
  by_cases hk : p = k
  · subst hk
    rw [if_pos rfl, zwd_at h, he]
    simp [zwd, h]
  · rw [if_neg hk]
    by_cases h2 : k < 43
    · rw [zwd_at h2, zwd_at h2, ho k (Ne.symm hk)]
    · simp [zwd, h2]
theorem zst_o {σ : Hp} {p j : Nat} {v : Int} : ∀ q, q ≠ p → zst σ p j v q = σ q := fun q h => by simp [zst, h]
theorem zst_p {σ : Hp} {p j : Nat} {v : Int} : zst σ p j v p = fun t => if t = j then v else σ p t := by simp [zst]
abbrev Cx : Type := (Program × Launch × Env × Room × State × MethodId × Array Value × List Frame × Method × Code) × Wp × (Nat → Prop) × (State → Prop) × Nat × Nat × Nat
def zV (x : Cx) (σ : Hp) (pc : Nat) (lv : List (Nat × Value)) (st : List Value) : Prop := match x with
  | ((p, l, e, R, s, m, args, below, meth, c), w, A, Q, nL, ce, sl) => ∀ (H : Heap) (locs : List Loc) (ls : Array Slot), lv_has ls nL lv → va_P w.1 vwCl (zwd w σ) H → va_S A s.heap H locs → W p l e R s m args below meth c H locs ce sl Q (F0 m pc ls st)
def zOk (x : Cx) (cc : ByteArray) (own : String) (ret : Option FieldType) (f L : Nat) : Prop := match x with
  | ((p, l, e, R, s, m, args, below, meth, c), w, A, Q, nL, ce, sl) => p.tables.exec = Jvm.exec ∧ c.code = cc ∧ c.maxLocals = nL ∧ s.vm.findClass own = some m.cls ∧ (∀ w ∈ ztb, w.before args s = true) ∧ va_K w.1 vwCl (ztys w) s ∧ (∀ σ, va_D A (zwd w σ)) ∧ (∀ n ∈ znest, va_Nw n s) ∧ meth.sig.returnType = ret ∧ meth.locks = false ∧ f ≤ R.frames ∧ L ≤ R.locals ∧ ce ≤ R.cells ∧ sl ≤ R.slots
def za (x : Cx) (p : Nat) : Value := .ref (x.2.1.2.1 p)
def zQ (w : Wp) (A : Nat → Prop) (post : Option Value → Hp → Prop) : Array Value → State → Outcome → State → Prop := fun _ st oc t => (∃ (r : Option Value) (σ : Hp), oc = .returned r ∧ post r σ ∧ va_P w.1 vwCl (zwd w σ) t.heap) ∧ va_F A st t
def zEnd (x : Cx) (post : Option Value → Hp → Prop) : Prop := match x with
  | ((p, l, e, R, s, m, args, below, meth, c), w, A, Q, nL, ce, sl) => Q = MQ below (zQ w A post) args s 0 0 A ∧ ce = 0 ∧ sl = 0
def zWd (w : Wp) (A : Nat → Prop) (σ : Hp) (U : State) : Prop := va_P w.1 vwCl (zwd w σ) U.heap ∧ va_K w.1 vwCl (ztys w) U ∧ (∀ σ, va_D A (zwd w σ)) ∧ (∀ n ∈ znest, va_Nw n U)
def zMt (l : Launch) (y : MethodName) (cc : ByteArray) (nL : Nat) (ret : Option FieldType) (rm : Room) (av : Wp → List Value) (σ : Hp) (post : Wp → Option Value → Hp → Prop) : Prop := ∀ (w : Wp) (A : Nat → Prop), Met l y (.code y cc nL ret :: ztb) rm (va_Pc (av w) (zWd w A σ)) (zQ w A (post w)) 0 0 A
def zPi (k : Int → Hp → Prop) : Wp → Option Value → Hp → Prop := fun _ r σ => ∃ z, r = some (.int (zI z)) ∧ k z σ
def zPl (k : Int → Hp → Prop) : Wp → Option Value → Hp → Prop := fun _ r σ => ∃ z, r = some (.long (zJ z)) ∧ k z σ
def zPv (k : Hp → Prop) : Wp → Option Value → Hp → Prop := fun _ r σ => r = none ∧ k σ
/-- a ROW or null -/
def zPr (k : Option Nat → Hp → Prop) : Wp → Option Value → Hp → Prop := fun w v σ => (v = some .null ∧ k none σ) ∨ ∃ r, r < 7 ∧ v = some (.ref (w.2.1 (29 + r))) ∧ k (some r) σ
theorem zNw_warm {s U : State} (hW : s.WarmedH U.vm) (h : ∀ n ∈ znest, va_Nw n s) : ∀ n ∈ znest, va_Nw n U := by
  intro n hn
  have h1 := h n hn
  simp only [znest, List.mem_cons, List.not_mem_nil, or_false] at hn
  rcases hn with rfl | rfl | rfl | rfl | rfl | rfl | rfl | rfl <;> exact va_Nw.warmM hW h1

theorem z_iconst {x : Cx} {cc : ByteArray} {own : String} {ret : Option FieldType} {f L : Nat} {σ : Hp} {pc : Nat} {lv : List (Nat × Value)} {st : List Value} (C : zOk x cc own ret f L) {n : Int} (d : decode cc pc = .ok (.iconst n, 1)) (k : zV x σ (pc + 1) lv (.int (zI n) :: st)) : zV x σ pc lv st := by
  obtain ⟨⟨p, l, e, R, s, m, args, below, meth, c⟩, w, A, Q, nL, ce, sl⟩ := x
  intro H locs ls hl hP hS
  exact lv_iconst C.1 C.2.1 d rfl (k H locs ls hl hP hS)
theorem z_bipush {x : Cx} {cc : ByteArray} {own : String} {ret : Option FieldType} {f L : Nat} {σ : Hp} {pc : Nat} {lv : List (Nat × Value)} {st : List Value} (C : zOk x cc own ret f L) {n : Int} (d : decode cc pc = .ok (.bipush n, 2)) (h : (Int8.ofInt n).toInt32 = zI n) (k : zV x σ (pc + 2) lv (.int (zI n) :: st)) : zV x σ pc lv st := by
  obtain ⟨⟨p, l, e, R, s, m, args, below, meth, c⟩, w, A, Q, nL, ce, sl⟩ := x
  intro H locs ls hl hP hS
  exact lv_bipush C.1 C.2.1 d h (k H locs ls hl hP hS)
theorem z_sipush {x : Cx} {cc : ByteArray} {own : String} {ret : Option FieldType} {f L : Nat} {σ : Hp} {pc : Nat} {lv : List (Nat × Value)} {st : List Value} (C : zOk x cc own ret f L) {n : Int} (d : decode cc pc = .ok (.sipush n, 3)) (h : (Int16.ofInt n).toInt32 = zI n) (k : zV x σ (pc + 3) lv (.int (zI n) :: st)) : zV x σ pc lv st := by
  obtain ⟨⟨p, l, e, R, s, m, args, below, meth, c⟩, w, A, Q, nL, ce, sl⟩ := x
  intro H locs ls hl hP hS
  exact lv_sipush C.1 C.2.1 d h (k H locs ls hl hP hS)
theorem z_lconst {x : Cx} {cc : ByteArray} {own : String} {ret : Option FieldType} {f L : Nat} {σ : Hp} {pc : Nat} {lv : List (Nat × Value)} {st : List Value} (C : zOk x cc own ret f L) {n : Fin 2} {z : Int} (d : decode cc pc = .ok (.lconst n, 1)) (h : Int64.ofNat (n : Nat) = zJ z) (k : zV x σ (pc + 1) lv (.long (zJ z) :: st)) : zV x σ pc lv st := by
  obtain ⟨⟨p, l, e, R, s, m, args, below, meth, c⟩, w, A, Q, nL, ce, sl⟩ := x
  intro H locs ls hl hP hS
  exact lv_lconst C.1 C.2.1 d h (k H locs ls hl hP hS)
theorem z_ldc2 {x : Cx} {cc : ByteArray} {own : String} {ret : Option FieldType} {f L : Nat} {σ : Hp} {pc : Nat} {lv : List (Nat × Value)} {st : List Value} (C : zOk x cc own ret f L) {idx : Nat} {v : Int64} {z : Int} (hw : Cond.constantLong own idx v ∈ ztb) (h : v = zJ z) (d : decode cc pc = .ok (.ldc2_w idx, 3)) (k : zV x σ (pc + 3) lv (.long (zJ z) :: st)) : zV x σ pc lv st := by
  obtain ⟨⟨p, l, e, R, s, m, args, below, meth, c⟩, w, A, Q, nL, ce, sl⟩ := x
  intro H locs ls hl hP hS
  subst h
  exact lv_ldc2 C.1 C.2.1 C.2.2.2.1 (C.2.2.2.2.1 _ hw) d (k H locs ls hl hP hS)
theorem z_ldcw {x : Cx} {cc : ByteArray} {own : String} {ret : Option FieldType} {f L : Nat} {σ : Hp} {pc : Nat} {lv : List (Nat × Value)} {st : List Value} (C : zOk x cc own ret f L) {idx : Nat} {v : Int32} {z : Int} (hw : Cond.constant own idx v ∈ ztb) (h : v = zI z) (d : decode cc pc = .ok (.ldc_w idx, 3)) (k : zV x σ (pc + 3) lv (.int (zI z) :: st)) : zV x σ pc lv st := by
  obtain ⟨⟨p, l, e, R, s, m, args, below, meth, c⟩, w, A, Q, nL, ce, sl⟩ := x
  intro H locs ls hl hP hS
  subst h
  exact lv_ldcw C.1 C.2.1 C.2.2.2.1 (C.2.2.2.2.1 _ hw) d (k H locs ls hl hP hS)
theorem z_null {x : Cx} {cc : ByteArray} {own : String} {ret : Option FieldType} {f L : Nat} {σ : Hp} {pc : Nat} {lv : List (Nat × Value)} {st : List Value} (C : zOk x cc own ret f L) (d : decode cc pc = .ok (.aconst_null, 1)) (k : zV x σ (pc + 1) lv (.null :: st)) : zV x σ pc lv st := by
  obtain ⟨⟨p, l, e, R, s, m, args, below, meth, c⟩, w, A, Q, nL, ce, sl⟩ := x
  intro H locs ls hl hP hS
  exact lv_null C.1 C.2.1 d (k H locs ls hl hP hS)
theorem z_iload_n {x : Cx} {cc : ByteArray} {own : String} {ret : Option FieldType} {f L : Nat} {σ : Hp} {pc : Nat} {lv : List (Nat × Value)} {st : List Value} (C : zOk x cc own ret f L) {k4 : Fin 4} {i : Nat} (j : Nat) {z : Int} (d : decode cc pc = .ok (.iload_n k4, 1)) (hi : (k4 : Nat) = i) (hj : lv[j]? = some (i, .int (zI z))) (k : zV x σ (pc + 1) lv (.int (zI z) :: st)) : zV x σ pc lv st := by
  obtain ⟨⟨p, l, e, R, s, m, args, below, meth, c⟩, w, A, Q, nL, ce, sl⟩ := x
  intro H locs ls hl hP hS
  exact lv_iload_n C.1 C.2.1 d hi (lv_at hl j hj) (k H locs ls hl hP hS)
theorem z_iload {x : Cx} {cc : ByteArray} {own : String} {ret : Option FieldType} {f L : Nat} {σ : Hp} {pc : Nat} {lv : List (Nat × Value)} {st : List Value} (C : zOk x cc own ret f L) {i : Nat} (j : Nat) {z : Int} (d : decode cc pc = .ok (.iload i, 2)) (hj : lv[j]? = some (i, .int (zI z))) (k : zV x σ (pc + 2) lv (.int (zI z) :: st)) : zV x σ pc lv st := by
  obtain ⟨⟨p, l, e, R, s, m, args, below, meth, c⟩, w, A, Q, nL, ce, sl⟩ := x
  intro H locs ls hl hP hS
  exact lv_iload C.1 C.2.1 d (lv_at hl j hj) (k H locs ls hl hP hS)
theorem z_lload_n {x : Cx} {cc : ByteArray} {own : String} {ret : Option FieldType} {f L : Nat} {σ : Hp} {pc : Nat} {lv : List (Nat × Value)} {st : List Value} (C : zOk x cc own ret f L) {k4 : Fin 4} {i : Nat} (j : Nat) {z : Int} (d : decode cc pc = .ok (.lload_n k4, 1)) (hi : (k4 : Nat) = i) (hj : lv[j]? = some (i, .long (zJ z))) (k : zV x σ (pc + 1) lv (.long (zJ z) :: st)) : zV x σ pc lv st := by
  obtain ⟨⟨p, l, e, R, s, m, args, below, meth, c⟩, w, A, Q, nL, ce, sl⟩ := x
  intro H locs ls hl hP hS
  exact lv_lload_n C.1 C.2.1 d hi (lv_at hl j hj) (k H locs ls hl hP hS)
theorem z_lload {x : Cx} {cc : ByteArray} {own : String} {ret : Option FieldType} {f L : Nat} {σ : Hp} {pc : Nat} {lv : List (Nat × Value)} {st : List Value} (C : zOk x cc own ret f L) {i : Nat} (j : Nat) {z : Int} (d : decode cc pc = .ok (.lload i, 2)) (hj : lv[j]? = some (i, .long (zJ z))) (k : zV x σ (pc + 2) lv (.long (zJ z) :: st)) : zV x σ pc lv st := by
  obtain ⟨⟨p, l, e, R, s, m, args, below, meth, c⟩, w, A, Q, nL, ce, sl⟩ := x
  intro H locs ls hl hP hS
  exact lv_lload C.1 C.2.1 d (lv_at hl j hj) (k H locs ls hl hP hS)
theorem z_aload_n {x : Cx} {cc : ByteArray} {own : String} {ret : Option FieldType} {f L : Nat} {σ : Hp} {pc : Nat} {lv : List (Nat × Value)} {st : List Value} (C : zOk x cc own ret f L) {k4 : Fin 4} {i q : Nat} (j : Nat) (d : decode cc pc = .ok (.aload_n k4, 1)) (hi : (k4 : Nat) = i) (hj : lv[j]? = some (i, za x q)) (k : zV x σ (pc + 1) lv (za x q :: st)) : zV x σ pc lv st := by
  obtain ⟨⟨p, l, e, R, s, m, args, below, meth, c⟩, w, A, Q, nL, ce, sl⟩ := x
  intro H locs ls hl hP hS
  exact lv_aload_n C.1 C.2.1 d hi (lv_at hl j hj) (k H locs ls hl hP hS)
theorem z_aload {x : Cx} {cc : ByteArray} {own : String} {ret : Option FieldType} {f L : Nat} {σ : Hp} {pc : Nat} {lv : List (Nat × Value)} {st : List Value} (C : zOk x cc own ret f L) {i q : Nat} (j : Nat) (d : decode cc pc = .ok (.aload i, 2)) (hj : lv[j]? = some (i, za x q)) (k : zV x σ (pc + 2) lv (za x q :: st)) : zV x σ pc lv st := by
  obtain ⟨⟨p, l, e, R, s, m, args, below, meth, c⟩, w, A, Q, nL, ce, sl⟩ := x
  intro H locs ls hl hP hS
  exact lv_aload C.1 C.2.1 d (lv_at hl j hj) (k H locs ls hl hP hS)
theorem z_aload_nN {x : Cx} {cc : ByteArray} {own : String} {ret : Option FieldType} {f L : Nat} {σ : Hp} {pc : Nat} {lv : List (Nat × Value)} {st : List Value} (C : zOk x cc own ret f L) {k4 : Fin 4} {i : Nat} (j : Nat) (d : decode cc pc = .ok (.aload_n k4, 1)) (hi : (k4 : Nat) = i) (hj : lv[j]? = some (i, .null)) (k : zV x σ (pc + 1) lv (.null :: st)) : zV x σ pc lv st := by
  obtain ⟨⟨p, l, e, R, s, m, args, below, meth, c⟩, w, A, Q, nL, ce, sl⟩ := x
  intro H locs ls hl hP hS
  exact lv_aload_nN C.1 C.2.1 d hi (lv_at hl j hj) (k H locs ls hl hP hS)
theorem z_aloadN {x : Cx} {cc : ByteArray} {own : String} {ret : Option FieldType} {f L : Nat} {σ : Hp} {pc : Nat} {lv : List (Nat × Value)} {st : List Value} (C : zOk x cc own ret f L) {i : Nat} (j : Nat) (d : decode cc pc = .ok (.aload i, 2)) (hj : lv[j]? = some (i, .null)) (k : zV x σ (pc + 2) lv (.null :: st)) : zV x σ pc lv st := by
  obtain ⟨⟨p, l, e, R, s, m, args, below, meth, c⟩, w, A, Q, nL, ce, sl⟩ := x
  intro H locs ls hl hP hS
  exact lv_aloadN C.1 C.2.1 d (lv_at hl j hj) (k H locs ls hl hP hS)
theorem z_istore_n {x : Cx} {cc : ByteArray} {own : String} {ret : Option FieldType} {f L : Nat} {σ : Hp} {pc : Nat} {lv : List (Nat × Value)} {st : List Value} (C : zOk x cc own ret f L) {k4 : Fin 4} {i : Nat} {z : Int} (lv2 : List (Nat × Value)) (d : decode cc pc = .ok (.istore_n k4, 1)) (hi : (k4 : Nat) = i) (hn : i < x.2.2.2.2.1) (hl2 : (i, .int (zI z)) :: lv.filter (fun q => !(q.1 == i) && !(q.1 + 1 == i && q.2.category == 2)) = lv2) (k : zV x σ (pc + 1) lv2 st) : zV x σ pc lv (.int (zI z) :: st) := by
  obtain ⟨⟨p, l, e, R, s, m, args, below, meth, c⟩, w, A, Q, nL, ce, sl⟩ := x
  intro H locs ls hl hP hS
  exact lv_istore_n C.1 C.2.1 d hi hl hn hl2 (fun ls hl => k H locs ls hl hP hS)
theorem z_istore {x : Cx} {cc : ByteArray} {own : String} {ret : Option FieldType} {f L : Nat} {σ : Hp} {pc : Nat} {lv : List (Nat × Value)} {st : List Value} (C : zOk x cc own ret f L) {i : Nat} {z : Int} (lv2 : List (Nat × Value)) (d : decode cc pc = .ok (.istore i, 2)) (hn : i < x.2.2.2.2.1) (hl2 : (i, .int (zI z)) :: lv.filter (fun q => !(q.1 == i) && !(q.1 + 1 == i && q.2.category == 2)) = lv2) (k : zV x σ (pc + 2) lv2 st) : zV x σ pc lv (.int (zI z) :: st) := by
  obtain ⟨⟨p, l, e, R, s, m, args, below, meth, c⟩, w, A, Q, nL, ce, sl⟩ := x
  intro H locs ls hl hP hS
  exact lv_istore C.1 C.2.1 d hl hn hl2 (fun ls hl => k H locs ls hl hP hS)
theorem z_lstore_n {x : Cx} {cc : ByteArray} {own : String} {ret : Option FieldType} {f L : Nat} {σ : Hp} {pc : Nat} {lv : List (Nat × Value)} {st : List Value} (C : zOk x cc own ret f L) {k4 : Fin 4} {i : Nat} {z : Int} (lv2 : List (Nat × Value)) (d : decode cc pc = .ok (.lstore_n k4, 1)) (hi : (k4 : Nat) = i) (hn : i + 1 < x.2.2.2.2.1) (hl2 : (i, .long (zJ z)) :: lv.filter (fun q => !(q.1 == i) && (!(q.1 == i + 1) && !(q.1 + 1 == i && q.2.category == 2))) = lv2) (k : zV x σ (pc + 1) lv2 st) : zV x σ pc lv (.long (zJ z) :: st) := by
  obtain ⟨⟨p, l, e, R, s, m, args, below, meth, c⟩, w, A, Q, nL, ce, sl⟩ := x
  intro H locs ls hl hP hS
  exact lv_lstore_n C.1 C.2.1 d hi hl hn hl2 (fun ls hl => k H locs ls hl hP hS)
theorem z_lstore {x : Cx} {cc : ByteArray} {own : String} {ret : Option FieldType} {f L : Nat} {σ : Hp} {pc : Nat} {lv : List (Nat × Value)} {st : List Value} (C : zOk x cc own ret f L) {i : Nat} {z : Int} (lv2 : List (Nat × Value)) (d : decode cc pc = .ok (.lstore i, 2)) (hn : i + 1 < x.2.2.2.2.1) (hl2 : (i, .long (zJ z)) :: lv.filter (fun q => !(q.1 == i) && (!(q.1 == i + 1) && !(q.1 + 1 == i && q.2.category == 2))) = lv2) (k : zV x σ (pc + 2) lv2 st) : zV x σ pc lv (.long (zJ z) :: st) := by
  obtain ⟨⟨p, l, e, R, s, m, args, below, meth, c⟩, w, A, Q, nL, ce, sl⟩ := x
  intro H locs ls hl hP hS
  exact lv_lstore C.1 C.2.1 d hl hn hl2 (fun ls hl => k H locs ls hl hP hS)
theorem z_astore_n {x : Cx} {cc : ByteArray} {own : String} {ret : Option FieldType} {f L : Nat} {σ : Hp} {pc : Nat} {lv : List (Nat × Value)} {st : List Value} (C : zOk x cc own ret f L) {k4 : Fin 4} {i : Nat} {q0 : Nat} (lv2 : List (Nat × Value)) (d : decode cc pc = .ok (.astore_n k4, 1)) (hi : (k4 : Nat) = i) (hn : i < x.2.2.2.2.1) (hl2 : (i, za x q0) :: lv.filter (fun q => !(q.1 == i) && !(q.1 + 1 == i && q.2.category == 2)) = lv2) (k : zV x σ (pc + 1) lv2 st) : zV x σ pc lv (za x q0 :: st) := by
  obtain ⟨⟨p, l, e, R, s, m, args, below, meth, c⟩, w, A, Q, nL, ce, sl⟩ := x
  intro H locs ls hl hP hS
  exact lv_astore_n C.1 C.2.1 d hi hl hn hl2 (fun ls hl => k H locs ls hl hP hS)
theorem z_astore {x : Cx} {cc : ByteArray} {own : String} {ret : Option FieldType} {f L : Nat} {σ : Hp} {pc : Nat} {lv : List (Nat × Value)} {st : List Value} (C : zOk x cc own ret f L) {i : Nat} {q0 : Nat} (lv2 : List (Nat × Value)) (d : decode cc pc = .ok (.astore i, 2)) (hn : i < x.2.2.2.2.1) (hl2 : (i, za x q0) :: lv.filter (fun q => !(q.1 == i) && !(q.1 + 1 == i && q.2.category == 2)) = lv2) (k : zV x σ (pc + 2) lv2 st) : zV x σ pc lv (za x q0 :: st) := by
  obtain ⟨⟨p, l, e, R, s, m, args, below, meth, c⟩, w, A, Q, nL, ce, sl⟩ := x
  intro H locs ls hl hP hS
  exact lv_astore C.1 C.2.1 d hl hn hl2 (fun ls hl => k H locs ls hl hP hS)
theorem z_astore_nN {x : Cx} {cc : ByteArray} {own : String} {ret : Option FieldType} {f L : Nat} {σ : Hp} {pc : Nat} {lv : List (Nat × Value)} {st : List Value} (C : zOk x cc own ret f L) {k4 : Fin 4} {i : Nat} (lv2 : List (Nat × Value)) (d : decode cc pc = .ok (.astore_n k4, 1)) (hi : (k4 : Nat) = i) (hn : i < x.2.2.2.2.1) (hl2 : (i, .null) :: lv.filter (fun q => !(q.1 == i) && !(q.1 + 1 == i && q.2.category == 2)) = lv2) (k : zV x σ (pc + 1) lv2 st) : zV x σ pc lv (.null :: st) := by
  obtain ⟨⟨p, l, e, R, s, m, args, below, meth, c⟩, w, A, Q, nL, ce, sl⟩ := x
  intro H locs ls hl hP hS
  exact lv_astore_nN C.1 C.2.1 d hi hl hn hl2 (fun ls hl => k H locs ls hl hP hS)
theorem z_astoreN {x : Cx} {cc : ByteArray} {own : String} {ret : Option FieldType} {f L : Nat} {σ : Hp} {pc : Nat} {lv : List (Nat × Value)} {st : List Value} (C : zOk x cc own ret f L) {i : Nat} (lv2 : List (Nat × Value)) (d : decode cc pc = .ok (.astore i, 2)) (hn : i < x.2.2.2.2.1) (hl2 : (i, .null) :: lv.filter (fun q => !(q.1 == i) && !(q.1 + 1 == i && q.2.category == 2)) = lv2) (k : zV x σ (pc + 2) lv2 st) : zV x σ pc lv (.null :: st) := by
  obtain ⟨⟨p, l, e, R, s, m, args, below, meth, c⟩, w, A, Q, nL, ce, sl⟩ := x
  intro H locs ls hl hP hS
  exact lv_astoreN C.1 C.2.1 d hl hn hl2 (fun ls hl => k H locs ls hl hP hS)
theorem z_iinc {x : Cx} {cc : ByteArray} {own : String} {ret : Option FieldType} {f L : Nat} {σ : Hp} {pc : Nat} {lv : List (Nat × Value)} {st : List Value} (C : zOk x cc own ret f L) {i : Nat} {n z : Int} (j : Nat) (lv2 : List (Nat × Value)) (d : decode cc pc = .ok (.iinc i n, 3)) (hj : lv[j]? = some (i, .int (zI z))) (hn : i < x.2.2.2.2.1) (hl2 : (i, .int (zI (z + n))) :: lv.filter (fun q => !(q.1 == i) && !(q.1 + 1 == i && q.2.category == 2)) = lv2) (k : zV x σ (pc + 3) lv2 st) : zV x σ pc lv st := by
  obtain ⟨⟨p, l, e, R, s, m, args, below, meth, c⟩, w, A, Q, nL, ce, sl⟩ := x
  intro H locs ls hl hP hS
  exact lv_iinc C.1 C.2.1 d hl hj (zI_add z n) hn hl2 (fun ls hl => k H locs ls hl hP hS)
theorem z_iadd {x : Cx} {cc : ByteArray} {own : String} {ret : Option FieldType} {f L : Nat} {σ : Hp} {pc : Nat} {lv : List (Nat × Value)} {st : List Value} (C : zOk x cc own ret f L) {a b : Int} (d : decode cc pc = .ok (.iadd, 1)) (k : zV x σ (pc + 1) lv (.int (zI (a + b)) :: st)) : zV x σ pc lv (.int (zI b) :: .int (zI a) :: st) := by
  obtain ⟨⟨p, l, e, R, s, m, args, below, meth, c⟩, w, A, Q, nL, ce, sl⟩ := x
  intro H locs ls hl hP hS
  refine lv_iadd C.1 C.2.1 d ?_
  rw [zI_add]
  exact k H locs ls hl hP hS
theorem z_isub {x : Cx} {cc : ByteArray} {own : String} {ret : Option FieldType} {f L : Nat} {σ : Hp} {pc : Nat} {lv : List (Nat × Value)} {st : List Value} (C : zOk x cc own ret f L) {a b : Int} (d : decode cc pc = .ok (.isub, 1)) (k : zV x σ (pc + 1) lv (.int (zI (a - b)) :: st)) : zV x σ pc lv (.int (zI b) :: .int (zI a) :: st) := by
  obtain ⟨⟨p, l, e, R, s, m, args, below, meth, c⟩, w, A, Q, nL, ce, sl⟩ := x
  intro H locs ls hl hP hS
  refine lv_isub C.1 C.2.1 d ?_
  rw [zI_sub]
  exact k H locs ls hl hP hS
theorem z_imul {x : Cx} {cc : ByteArray} {own : String} {ret : Option FieldType} {f L : Nat} {σ : Hp} {pc : Nat} {lv : List (Nat × Value)} {st : List Value} (C : zOk x cc own ret f L) {a b : Int} (d : decode cc pc = .ok (.imul, 1)) (k : zV x σ (pc + 1) lv (.int (zI (a * b)) :: st)) : zV x σ pc lv (.int (zI b) :: .int (zI a) :: st) := by
  obtain ⟨⟨p, l, e, R, s, m, args, below, meth, c⟩, w, A, Q, nL, ce, sl⟩ := x
  intro H locs ls hl hP hS
  refine lv_imul C.1 C.2.1 d ?_
  rw [zI_mul]
  exact k H locs ls hl hP hS
theorem z_ladd {x : Cx} {cc : ByteArray} {own : String} {ret : Option FieldType} {f L : Nat} {σ : Hp} {pc : Nat} {lv : List (Nat × Value)} {st : List Value} (C : zOk x cc own ret f L) {a b : Int} (d : decode cc pc = .ok (.ladd, 1)) (k : zV x σ (pc + 1) lv (.long (zJ (a + b)) :: st)) : zV x σ pc lv (.long (zJ b) :: .long (zJ a) :: st) := by
  obtain ⟨⟨p, l, e, R, s, m, args, below, meth, c⟩, w, A, Q, nL, ce, sl⟩ := x
  intro H locs ls hl hP hS
  refine lv_ladd C.1 C.2.1 d ?_
  rw [zJ_add]
  exact k H locs ls hl hP hS
theorem z_lmul {x : Cx} {cc : ByteArray} {own : String} {ret : Option FieldType} {f L : Nat} {σ : Hp} {pc : Nat} {lv : List (Nat × Value)} {st : List Value} (C : zOk x cc own ret f L) {a b : Int} (d : decode cc pc = .ok (.lmul, 1)) (k : zV x σ (pc + 1) lv (.long (zJ (a * b)) :: st)) : zV x σ pc lv (.long (zJ b) :: .long (zJ a) :: st) := by
  obtain ⟨⟨p, l, e, R, s, m, args, below, meth, c⟩, w, A, Q, nL, ce, sl⟩ := x
  intro H locs ls hl hP hS
  refine lv_lmul C.1 C.2.1 d ?_
  rw [zJ_mul]
  exact k H locs ls hl hP hS
theorem z_iand {x : Cx} {cc : ByteArray} {own : String} {ret : Option FieldType} {f L : Nat} {σ : Hp} {pc : Nat} {lv : List (Nat × Value)} {st : List Value} (C : zOk x cc own ret f L) {a b : Int} (d : decode cc pc = .ok (.iand, 1)) (k : zV x σ (pc + 1) lv (.int (zI (zand a b)) :: st)) : zV x σ pc lv (.int (zI b) :: .int (zI a) :: st) := by
  obtain ⟨⟨p, l, e, R, s, m, args, below, meth, c⟩, w, A, Q, nL, ce, sl⟩ := x
  intro H locs ls hl hP hS
  refine lv_iand C.1 C.2.1 d ?_
  have k := k H locs ls hl hP hS
  rw [zand, zI_of] at k
  exact k
theorem z_ior {x : Cx} {cc : ByteArray} {own : String} {ret : Option FieldType} {f L : Nat} {σ : Hp} {pc : Nat} {lv : List (Nat × Value)} {st : List Value} (C : zOk x cc own ret f L) {a b : Int} (d : decode cc pc = .ok (.ior, 1)) (k : zV x σ (pc + 1) lv (.int (zI (zor a b)) :: st)) : zV x σ pc lv (.int (zI b) :: .int (zI a) :: st) := by
  obtain ⟨⟨p, l, e, R, s, m, args, below, meth, c⟩, w, A, Q, nL, ce, sl⟩ := x
  intro H locs ls hl hP hS
  refine lv_ior C.1 C.2.1 d ?_
  have k := k H locs ls hl hP hS
  rw [zor, zI_of] at k
  exact k
theorem z_ixor {x : Cx} {cc : ByteArray} {own : String} {ret : Option FieldType} {f L : Nat} {σ : Hp} {pc : Nat} {lv : List (Nat × Value)} {st : List Value} (C : zOk x cc own ret f L) {a b : Int} (d : decode cc pc = .ok (.ixor, 1)) (k : zV x σ (pc + 1) lv (.int (zI (zxor a b)) :: st)) : zV x σ pc lv (.int (zI b) :: .int (zI a) :: st) := by
  obtain ⟨⟨p, l, e, R, s, m, args, below, meth, c⟩, w, A, Q, nL, ce, sl⟩ := x
  intro H locs ls hl hP hS
  refine lv_ixor C.1 C.2.1 d ?_
  have k := k H locs ls hl hP hS
  rw [zxor, zI_of] at k
  exact k
theorem z_ishl {x : Cx} {cc : ByteArray} {own : String} {ret : Option FieldType} {f L : Nat} {σ : Hp} {pc : Nat} {lv : List (Nat × Value)} {st : List Value} (C : zOk x cc own ret f L) {a b : Int} (d : decode cc pc = .ok (.ishl, 1)) (k : zV x σ (pc + 1) lv (.int (zI (zshl a b)) :: st)) : zV x σ pc lv (.int (zI b) :: .int (zI a) :: st) := by
  obtain ⟨⟨p, l, e, R, s, m, args, below, meth, c⟩, w, A, Q, nL, ce, sl⟩ := x
  intro H locs ls hl hP hS
  refine lv_ishl C.1 C.2.1 d ?_
  have k := k H locs ls hl hP hS
  rw [zshl, zI_of] at k
  exact k
theorem z_ishr {x : Cx} {cc : ByteArray} {own : String} {ret : Option FieldType} {f L : Nat} {σ : Hp} {pc : Nat} {lv : List (Nat × Value)} {st : List Value} (C : zOk x cc own ret f L) {a b : Int} (d : decode cc pc = .ok (.ishr, 1)) (k : zV x σ (pc + 1) lv (.int (zI (zshr a b)) :: st)) : zV x σ pc lv (.int (zI b) :: .int (zI a) :: st) := by
  obtain ⟨⟨p, l, e, R, s, m, args, below, meth, c⟩, w, A, Q, nL, ce, sl⟩ := x
  intro H locs ls hl hP hS
  refine lv_ishr C.1 C.2.1 d ?_
  have k := k H locs ls hl hP hS
  rw [zshr, zI_of] at k
  exact k
theorem z_land {x : Cx} {cc : ByteArray} {own : String} {ret : Option FieldType} {f L : Nat} {σ : Hp} {pc : Nat} {lv : List (Nat × Value)} {st : List Value} (C : zOk x cc own ret f L) {a b : Int} (d : decode cc pc = .ok (.land, 1)) (k : zV x σ (pc + 1) lv (.long (zJ (zLand a b)) :: st)) : zV x σ pc lv (.long (zJ b) :: .long (zJ a) :: st) := by
  obtain ⟨⟨p, l, e, R, s, m, args, below, meth, c⟩, w, A, Q, nL, ce, sl⟩ := x
  intro H locs ls hl hP hS
  refine lv_land C.1 C.2.1 d ?_
  have k := k H locs ls hl hP hS
  rw [zLand, zJ_of] at k
  exact k
theorem z_lor {x : Cx} {cc : ByteArray} {own : String} {ret : Option FieldType} {f L : Nat} {σ : Hp} {pc : Nat} {lv : List (Nat × Value)} {st : List Value} (C : zOk x cc own ret f L) {a b : Int} (d : decode cc pc = .ok (.lor, 1)) (k : zV x σ (pc + 1) lv (.long (zJ (zLor a b)) :: st)) : zV x σ pc lv (.long (zJ b) :: .long (zJ a) :: st) := by
  obtain ⟨⟨p, l, e, R, s, m, args, below, meth, c⟩, w, A, Q, nL, ce, sl⟩ := x
  intro H locs ls hl hP hS
  refine lv_lor C.1 C.2.1 d ?_
  have k := k H locs ls hl hP hS
  rw [zLor, zJ_of] at k
  exact k
theorem z_iushr {x : Cx} {cc : ByteArray} {own : String} {ret : Option FieldType} {f L : Nat} {σ : Hp} {pc : Nat} {lv : List (Nat × Value)} {st : List Value} (C : zOk x cc own ret f L) {a b : Int} (d : decode cc pc = .ok (.iushr, 1)) (k : zV x σ (pc + 1) lv (.int (zI (zushr a b)) :: st)) : zV x σ pc lv (.int (zI b) :: .int (zI a) :: st) := by
  obtain ⟨⟨p, l, e, R, s, m, args, below, meth, c⟩, w, A, Q, nL, ce, sl⟩ := x
  intro H locs ls hl hP hS
  exact lv_iushr C.1 C.2.1 d (zI_of _).symm (k H locs ls hl hP hS)
theorem z_lshl {x : Cx} {cc : ByteArray} {own : String} {ret : Option FieldType} {f L : Nat} {σ : Hp} {pc : Nat} {lv : List (Nat × Value)} {st : List Value} (C : zOk x cc own ret f L) {a b : Int} (d : decode cc pc = .ok (.lshl, 1)) (k : zV x σ (pc + 1) lv (.long (zJ (zLshl a b)) :: st)) : zV x σ pc lv (.int (zI b) :: .long (zJ a) :: st) := by
  obtain ⟨⟨p, l, e, R, s, m, args, below, meth, c⟩, w, A, Q, nL, ce, sl⟩ := x
  intro H locs ls hl hP hS
  exact lv_lshl C.1 C.2.1 d (zJ_of _).symm (k H locs ls hl hP hS)
theorem z_lshr {x : Cx} {cc : ByteArray} {own : String} {ret : Option FieldType} {f L : Nat} {σ : Hp} {pc : Nat} {lv : List (Nat × Value)} {st : List Value} (C : zOk x cc own ret f L) {a b : Int} (d : decode cc pc = .ok (.lshr, 1)) (k : zV x σ (pc + 1) lv (.long (zJ (zLshr a b)) :: st)) : zV x σ pc lv (.int (zI b) :: .long (zJ a) :: st) := by
  obtain ⟨⟨p, l, e, R, s, m, args, below, meth, c⟩, w, A, Q, nL, ce, sl⟩ := x
  intro H locs ls hl hP hS
  exact lv_lshr C.1 C.2.1 d (zJ_of _).symm (k H locs ls hl hP hS)
theorem z_lushr {x : Cx} {cc : ByteArray} {own : String} {ret : Option FieldType} {f L : Nat} {σ : Hp} {pc : Nat} {lv : List (Nat × Value)} {st : List Value} (C : zOk x cc own ret f L) {a b : Int} (d : decode cc pc = .ok (.lushr, 1)) (k : zV x σ (pc + 1) lv (.long (zJ (zLushr a b)) :: st)) : zV x σ pc lv (.int (zI b) :: .long (zJ a) :: st) := by
  obtain ⟨⟨p, l, e, R, s, m, args, below, meth, c⟩, w, A, Q, nL, ce, sl⟩ := x
  intro H locs ls hl hP hS
  exact lv_lushr C.1 C.2.1 d (zJ_of _).symm (k H locs ls hl hP hS)
theorem z_idiv {x : Cx} {cc : ByteArray} {own : String} {ret : Option FieldType} {f L : Nat} {σ : Hp} {pc : Nat} {lv : List (Nat × Value)} {st : List Value} (C : zOk x cc own ret f L) {a b : Int} (d : decode cc pc = .ok (.idiv, 1)) (ha : zrg a) (hb : zrg b) (h0 : 0 < b) (k : zV x σ (pc + 1) lv (.int (zI (a.tdiv b)) :: st)) : zV x σ pc lv (.int (zI b) :: .int (zI a) :: st) := by
  obtain ⟨⟨p, l, e, R, s, m, args, below, meth, c⟩, w, A, Q, nL, ce, sl⟩ := x
  intro H locs ls hl hP hS
  refine lv_idiv C.1 C.2.1 d (fun h => absurd ((zI_eq hb zrg_0).mp (h.trans zI_0.symm)) (by omega)) ?_
  rw [zI_quo ha hb h0]
  exact k H locs ls hl hP hS
theorem z_irem {x : Cx} {cc : ByteArray} {own : String} {ret : Option FieldType} {f L : Nat} {σ : Hp} {pc : Nat} {lv : List (Nat × Value)} {st : List Value} (C : zOk x cc own ret f L) {a b : Int} (d : decode cc pc = .ok (.irem, 1)) (ha : zrg a) (hb : zrg b) (h0 : 0 < b) (k : zV x σ (pc + 1) lv (.int (zI (a.tmod b)) :: st)) : zV x σ pc lv (.int (zI b) :: .int (zI a) :: st) := by
  obtain ⟨⟨p, l, e, R, s, m, args, below, meth, c⟩, w, A, Q, nL, ce, sl⟩ := x
  intro H locs ls hl hP hS
  refine lv_irem C.1 C.2.1 d (fun h => absurd ((zI_eq hb zrg_0).mp (h.trans zI_0.symm)) (by omega)) ?_
  rw [zI_rem ha hb h0]
  exact k H locs ls hl hP hS
theorem z_i2l {x : Cx} {cc : ByteArray} {own : String} {ret : Option FieldType} {f L : Nat} {σ : Hp} {pc : Nat} {lv : List (Nat × Value)} {st : List Value} (C : zOk x cc own ret f L) {a : Int} (d : decode cc pc = .ok (.i2l, 1)) (ha : zrg a) (k : zV x σ (pc + 1) lv (.long (zJ a) :: st)) : zV x σ pc lv (.int (zI a) :: st) := by
  obtain ⟨⟨p, l, e, R, s, m, args, below, meth, c⟩, w, A, Q, nL, ce, sl⟩ := x
  intro H locs ls hl hP hS
  exact lv_i2l C.1 C.2.1 d (zI_l ha) (k H locs ls hl hP hS)
theorem z_l2i {x : Cx} {cc : ByteArray} {own : String} {ret : Option FieldType} {f L : Nat} {σ : Hp} {pc : Nat} {lv : List (Nat × Value)} {st : List Value} (C : zOk x cc own ret f L) {a : Int} (d : decode cc pc = .ok (.l2i, 1)) (k : zV x σ (pc + 1) lv (.int (zI a) :: st)) : zV x σ pc lv (.long (zJ a) :: st) := by
  obtain ⟨⟨p, l, e, R, s, m, args, below, meth, c⟩, w, A, Q, nL, ce, sl⟩ := x
  intro H locs ls hl hP hS
  exact lv_l2i C.1 C.2.1 d (zJ_i a) (k H locs ls hl hP hS)
theorem z_i2b {x : Cx} {cc : ByteArray} {own : String} {ret : Option FieldType} {f L : Nat} {σ : Hp} {pc : Nat} {lv : List (Nat × Value)} {st : List Value} (C : zOk x cc own ret f L) {a : Int} (d : decode cc pc = .ok (.i2b, 1)) (k : zV x σ (pc + 1) lv (.int (zI (zi2b a)) :: st)) : zV x σ pc lv (.int (zI a) :: st) := by
  obtain ⟨⟨p, l, e, R, s, m, args, below, meth, c⟩, w, A, Q, nL, ce, sl⟩ := x
  intro H locs ls hl hP hS
  exact lv_i2b C.1 C.2.1 d (zI_of _).symm (k H locs ls hl hP hS)
theorem z_dup {x : Cx} {cc : ByteArray} {own : String} {ret : Option FieldType} {f L : Nat} {σ : Hp} {pc : Nat} {lv : List (Nat × Value)} {st : List Value} (C : zOk x cc own ret f L) {v : Value} (d : decode cc pc = .ok (.dup, 1)) (hv : v.category = 1) (k : zV x σ (pc + 1) lv (v :: v :: st)) : zV x σ pc lv (v :: st) := by
  obtain ⟨⟨p, l, e, R, s, m, args, below, meth, c⟩, w, A, Q, nL, ce, sl⟩ := x
  intro H locs ls hl hP hS
  exact lv_dup C.1 C.2.1 d hv (k H locs ls hl hP hS)
theorem z_pop {x : Cx} {cc : ByteArray} {own : String} {ret : Option FieldType} {f L : Nat} {σ : Hp} {pc : Nat} {lv : List (Nat × Value)} {st : List Value} (C : zOk x cc own ret f L) {v : Value} (d : decode cc pc = .ok (.pop, 1)) (hv : v.category = 1) (k : zV x σ (pc + 1) lv st) : zV x σ pc lv (v :: st) := by
  obtain ⟨⟨p, l, e, R, s, m, args, below, meth, c⟩, w, A, Q, nL, ce, sl⟩ := x
  intro H locs ls hl hP hS
  exact lv_pop C.1 C.2.1 d hv (k H locs ls hl hP hS)
theorem z_dup2 {x : Cx} {cc : ByteArray} {own : String} {ret : Option FieldType} {f L : Nat} {σ : Hp} {pc : Nat} {lv : List (Nat × Value)} {st : List Value} (C : zOk x cc own ret f L) {v u : Value} (d : decode cc pc = .ok (.dup2, 1)) (hv : v.category = 1) (hu : u.category = 1) (k : zV x σ (pc + 1) lv (v :: u :: v :: u :: st)) : zV x σ pc lv (v :: u :: st) := by
  obtain ⟨⟨p, l, e, R, s, m, args, below, meth, c⟩, w, A, Q, nL, ce, sl⟩ := x
  intro H locs ls hl hP hS
  exact lv_dup2_11 C.1 C.2.1 d hv hu (k H locs ls hl hP hS)
theorem z_goto {x : Cx} {cc : ByteArray} {own : String} {ret : Option FieldType} {f L : Nat} {σ : Hp} {pc : Nat} {lv : List (Nat × Value)} {st : List Value} (C : zOk x cc own ret f L) {off : Int} (tgt : Nat) (d : decode cc pc = .ok (.goto off, 3)) (ht : (pc : Int) + off = (tgt : Int)) (k : zV x σ tgt lv st) : zV x σ pc lv st := by
  obtain ⟨⟨p, l, e, R, s, m, args, below, meth, c⟩, w, A, Q, nL, ce, sl⟩ := x
  intro H locs ls hl hP hS
  exact lv_goto C.1 C.2.1 d ht (k H locs ls hl hP hS)
theorem z_icmp_eq {x : Cx} {cc : ByteArray} {own : String} {ret : Option FieldType} {f L : Nat} {σ : Hp} {pc : Nat} {lv : List (Nat × Value)} {st : List Value} (C : zOk x cc own ret f L) {a b off : Int} (tgt : Nat) (d : decode cc pc = .ok (.if_icmp .eq off, 3)) (ht : (pc : Int) + off = (tgt : Int)) (ha : zrg a) (hb : zrg b) (kt : a = b → zV x σ tgt lv st) (kf : ¬ (a = b) → zV x σ (pc + 3) lv st) : zV x σ pc lv (.int (zI b) :: .int (zI a) :: st) := by
  obtain ⟨⟨p, l, e, R, s, m, args, below, meth, c⟩, w, A, Q, nL, ce, sl⟩ := x
  intro H locs ls hl hP hS
  exact lv_icmp_eq C.1 C.2.1 d ht (fun h => kt ((zI_eq ha hb).mp h) H locs ls hl hP hS) (fun h => kf (fun q => h ((zI_eq ha hb).mpr q)) H locs ls hl hP hS)
theorem z_if_eq {x : Cx} {cc : ByteArray} {own : String} {ret : Option FieldType} {f L : Nat} {σ : Hp} {pc : Nat} {lv : List (Nat × Value)} {st : List Value} (C : zOk x cc own ret f L) {a off : Int} (tgt : Nat) (d : decode cc pc = .ok (.ifCond .eq off, 3)) (ht : (pc : Int) + off = (tgt : Int)) (ha : zrg a) (kt : a = 0 → zV x σ tgt lv st) (kf : ¬ (a = 0) → zV x σ (pc + 3) lv st) : zV x σ pc lv (.int (zI a) :: st) := by
  obtain ⟨⟨p, l, e, R, s, m, args, below, meth, c⟩, w, A, Q, nL, ce, sl⟩ := x
  intro H locs ls hl hP hS
  exact lv_if_eq C.1 C.2.1 d ht (fun h => kt ((zI_eq ha zrg_0).mp (by rw [zI_0]; exact h)) H locs ls hl hP hS) (fun h => kf (fun q => h (by have q := (zI_eq ha zrg_0).mpr q; rw [zI_0] at q; exact q)) H locs ls hl hP hS)
theorem z_icmp_ne {x : Cx} {cc : ByteArray} {own : String} {ret : Option FieldType} {f L : Nat} {σ : Hp} {pc : Nat} {lv : List (Nat × Value)} {st : List Value} (C : zOk x cc own ret f L) {a b off : Int} (tgt : Nat) (d : decode cc pc = .ok (.if_icmp .ne off, 3)) (ht : (pc : Int) + off = (tgt : Int)) (ha : zrg a) (hb : zrg b) (kt : a ≠ b → zV x σ tgt lv st) (kf : ¬ (a ≠ b) → zV x σ (pc + 3) lv st) : zV x σ pc lv (.int (zI b) :: .int (zI a) :: st) := by
  obtain ⟨⟨p, l, e, R, s, m, args, below, meth, c⟩, w, A, Q, nL, ce, sl⟩ := x
  intro H locs ls hl hP hS
  exact lv_icmp_ne C.1 C.2.1 d ht (fun h => kt ((not_congr (zI_eq ha hb)).mp h) H locs ls hl hP hS) (fun h => kf (fun q => q ((zI_eq ha hb).mp h)) H locs ls hl hP hS)
theorem z_if_ne {x : Cx} {cc : ByteArray} {own : String} {ret : Option FieldType} {f L : Nat} {σ : Hp} {pc : Nat} {lv : List (Nat × Value)} {st : List Value} (C : zOk x cc own ret f L) {a off : Int} (tgt : Nat) (d : decode cc pc = .ok (.ifCond .ne off, 3)) (ht : (pc : Int) + off = (tgt : Int)) (ha : zrg a) (kt : a ≠ 0 → zV x σ tgt lv st) (kf : ¬ (a ≠ 0) → zV x σ (pc + 3) lv st) : zV x σ pc lv (.int (zI a) :: st) := by
  obtain ⟨⟨p, l, e, R, s, m, args, below, meth, c⟩, w, A, Q, nL, ce, sl⟩ := x
  intro H locs ls hl hP hS
  exact lv_if_ne C.1 C.2.1 d ht (fun h => kt ((not_congr (zI_eq ha zrg_0)).mp (by rw [zI_0]; exact h)) H locs ls hl hP hS) (fun h => kf (fun q => q ((zI_eq ha zrg_0).mp (by rw [zI_0]; exact h))) H locs ls hl hP hS)
theorem z_icmp_lt {x : Cx} {cc : ByteArray} {own : String} {ret : Option FieldType} {f L : Nat} {σ : Hp} {pc : Nat} {lv : List (Nat × Value)} {st : List Value} (C : zOk x cc own ret f L) {a b off : Int} (tgt : Nat) (d : decode cc pc = .ok (.if_icmp .lt off, 3)) (ht : (pc : Int) + off = (tgt : Int)) (ha : zrg a) (hb : zrg b) (kt : a < b → zV x σ tgt lv st) (kf : ¬ (a < b) → zV x σ (pc + 3) lv st) : zV x σ pc lv (.int (zI b) :: .int (zI a) :: st) := by
  obtain ⟨⟨p, l, e, R, s, m, args, below, meth, c⟩, w, A, Q, nL, ce, sl⟩ := x
  intro H locs ls hl hP hS
  exact lv_icmp_lt C.1 C.2.1 d ht (fun h => kt ((zI_lt ha hb).mp h) H locs ls hl hP hS) (fun h => kf (fun q => h ((zI_lt ha hb).mpr q)) H locs ls hl hP hS)
theorem z_if_lt {x : Cx} {cc : ByteArray} {own : String} {ret : Option FieldType} {f L : Nat} {σ : Hp} {pc : Nat} {lv : List (Nat × Value)} {st : List Value} (C : zOk x cc own ret f L) {a off : Int} (tgt : Nat) (d : decode cc pc = .ok (.ifCond .lt off, 3)) (ht : (pc : Int) + off = (tgt : Int)) (ha : zrg a) (kt : a < 0 → zV x σ tgt lv st) (kf : ¬ (a < 0) → zV x σ (pc + 3) lv st) : zV x σ pc lv (.int (zI a) :: st) := by
  obtain ⟨⟨p, l, e, R, s, m, args, below, meth, c⟩, w, A, Q, nL, ce, sl⟩ := x
  intro H locs ls hl hP hS
  exact lv_if_lt C.1 C.2.1 d ht (fun h => kt ((zI_lt ha zrg_0).mp (by rw [zI_0]; exact h)) H locs ls hl hP hS) (fun h => kf (fun q => h (by have q := (zI_lt ha zrg_0).mpr q; rw [zI_0] at q; exact q)) H locs ls hl hP hS)
theorem z_icmp_ge {x : Cx} {cc : ByteArray} {own : String} {ret : Option FieldType} {f L : Nat} {σ : Hp} {pc : Nat} {lv : List (Nat × Value)} {st : List Value} (C : zOk x cc own ret f L) {a b off : Int} (tgt : Nat) (d : decode cc pc = .ok (.if_icmp .ge off, 3)) (ht : (pc : Int) + off = (tgt : Int)) (ha : zrg a) (hb : zrg b) (kt : b ≤ a → zV x σ tgt lv st) (kf : ¬ (b ≤ a) → zV x σ (pc + 3) lv st) : zV x σ pc lv (.int (zI b) :: .int (zI a) :: st) := by
  obtain ⟨⟨p, l, e, R, s, m, args, below, meth, c⟩, w, A, Q, nL, ce, sl⟩ := x
  intro H locs ls hl hP hS
  exact lv_icmp_ge C.1 C.2.1 d ht (fun h => kt ((zI_le hb ha).mp h) H locs ls hl hP hS) (fun h => kf (fun q => h ((zI_le hb ha).mpr q)) H locs ls hl hP hS)
theorem z_if_ge {x : Cx} {cc : ByteArray} {own : String} {ret : Option FieldType} {f L : Nat} {σ : Hp} {pc : Nat} {lv : List (Nat × Value)} {st : List Value} (C : zOk x cc own ret f L) {a off : Int} (tgt : Nat) (d : decode cc pc = .ok (.ifCond .ge off, 3)) (ht : (pc : Int) + off = (tgt : Int)) (ha : zrg a) (kt : 0 ≤ a → zV x σ tgt lv st) (kf : ¬ (0 ≤ a) → zV x σ (pc + 3) lv st) : zV x σ pc lv (.int (zI a) :: st) := by
  obtain ⟨⟨p, l, e, R, s, m, args, below, meth, c⟩, w, A, Q, nL, ce, sl⟩ := x
  intro H locs ls hl hP hS
  exact lv_if_ge C.1 C.2.1 d ht (fun h => kt ((zI_le zrg_0 ha).mp (by rw [zI_0]; exact h)) H locs ls hl hP hS) (fun h => kf (fun q => h (by have q := (zI_le zrg_0 ha).mpr q; rw [zI_0] at q; exact q)) H locs ls hl hP hS)
theorem z_icmp_gt {x : Cx} {cc : ByteArray} {own : String} {ret : Option FieldType} {f L : Nat} {σ : Hp} {pc : Nat} {lv : List (Nat × Value)} {st : List Value} (C : zOk x cc own ret f L) {a b off : Int} (tgt : Nat) (d : decode cc pc = .ok (.if_icmp .gt off, 3)) (ht : (pc : Int) + off = (tgt : Int)) (ha : zrg a) (hb : zrg b) (kt : b < a → zV x σ tgt lv st) (kf : ¬ (b < a) → zV x σ (pc + 3) lv st) : zV x σ pc lv (.int (zI b) :: .int (zI a) :: st) := by
  obtain ⟨⟨p, l, e, R, s, m, args, below, meth, c⟩, w, A, Q, nL, ce, sl⟩ := x
  intro H locs ls hl hP hS
  exact lv_icmp_gt C.1 C.2.1 d ht (fun h => kt ((zI_lt hb ha).mp h) H locs ls hl hP hS) (fun h => kf (fun q => h ((zI_lt hb ha).mpr q)) H locs ls hl hP hS)
theorem z_if_gt {x : Cx} {cc : ByteArray} {own : String} {ret : Option FieldType} {f L : Nat} {σ : Hp} {pc : Nat} {lv : List (Nat × Value)} {st : List Value} (C : zOk x cc own ret f L) {a off : Int} (tgt : Nat) (d : decode cc pc = .ok (.ifCond .gt off, 3)) (ht : (pc : Int) + off = (tgt : Int)) (ha : zrg a) (kt : 0 < a → zV x σ tgt lv st) (kf : ¬ (0 < a) → zV x σ (pc + 3) lv st) : zV x σ pc lv (.int (zI a) :: st) := by
  obtain ⟨⟨p, l, e, R, s, m, args, below, meth, c⟩, w, A, Q, nL, ce, sl⟩ := x
  intro H locs ls hl hP hS
  exact lv_if_gt C.1 C.2.1 d ht (fun h => kt ((zI_lt zrg_0 ha).mp (by rw [zI_0]; exact h)) H locs ls hl hP hS) (fun h => kf (fun q => h (by have q := (zI_lt zrg_0 ha).mpr q; rw [zI_0] at q; exact q)) H locs ls hl hP hS)
theorem z_icmp_le {x : Cx} {cc : ByteArray} {own : String} {ret : Option FieldType} {f L : Nat} {σ : Hp} {pc : Nat} {lv : List (Nat × Value)} {st : List Value} (C : zOk x cc own ret f L) {a b off : Int} (tgt : Nat) (d : decode cc pc = .ok (.if_icmp .le off, 3)) (ht : (pc : Int) + off = (tgt : Int)) (ha : zrg a) (hb : zrg b) (kt : a ≤ b → zV x σ tgt lv st) (kf : ¬ (a ≤ b) → zV x σ (pc + 3) lv st) : zV x σ pc lv (.int (zI b) :: .int (zI a) :: st) := by
  obtain ⟨⟨p, l, e, R, s, m, args, below, meth, c⟩, w, A, Q, nL, ce, sl⟩ := x
  intro H locs ls hl hP hS
  exact lv_icmp_le C.1 C.2.1 d ht (fun h => kt ((zI_le ha hb).mp h) H locs ls hl hP hS) (fun h => kf (fun q => h ((zI_le ha hb).mpr q)) H locs ls hl hP hS)
theorem z_if_le {x : Cx} {cc : ByteArray} {own : String} {ret : Option FieldType} {f L : Nat} {σ : Hp} {pc : Nat} {lv : List (Nat × Value)} {st : List Value} (C : zOk x cc own ret f L) {a off : Int} (tgt : Nat) (d : decode cc pc = .ok (.ifCond .le off, 3)) (ht : (pc : Int) + off = (tgt : Int)) (ha : zrg a) (kt : a ≤ 0 → zV x σ tgt lv st) (kf : ¬ (a ≤ 0) → zV x σ (pc + 3) lv st) : zV x σ pc lv (.int (zI a) :: st) := by
  obtain ⟨⟨p, l, e, R, s, m, args, below, meth, c⟩, w, A, Q, nL, ce, sl⟩ := x
  intro H locs ls hl hP hS
  exact lv_if_le C.1 C.2.1 d ht (fun h => kt ((zI_le ha zrg_0).mp (by rw [zI_0]; exact h)) H locs ls hl hP hS) (fun h => kf (fun q => h (by have q := (zI_le ha zrg_0).mpr q; rw [zI_0] at q; exact q)) H locs ls hl hP hS)
def zcmpv (a b : Int) : Int := if b < a then 1 else if a = b then 0 else -1
theorem zcmp_toInt {a b : Int} (ha : zrl a) (hb : zrl b) : lg_cmp (zJ a) (zJ b) = zI (zcmpv a b) := by
  unfold lg_cmp zcmpv
  by_cases h1 : b < a
  · rw [if_pos ((zJ_lt hb ha).mpr h1), if_pos h1]; rfl
  · rw [if_neg (fun h => h1 ((zJ_lt hb ha).mp h)), if_neg h1]
    by_cases h2 : a = b
    · rw [if_pos ((zJ_eq ha hb).mpr h2), if_pos h2]; rfl
    · rw [if_neg (fun h => h2 ((zJ_eq ha hb).mp h)), if_neg h2]; rfl
theorem zcmp_rg (a b : Int) : zrg (zcmpv a b) := by
  unfold zcmpv
  repeat' split
  all_goals (constructor <;> decide)
theorem zcmp_eq (a b : Int) : (zcmpv a b = 0) ↔ (a = b) := by
  unfold zcmpv
  repeat' split
  all_goals omega
theorem zcmp_ne (a b : Int) : (zcmpv a b ≠ 0) ↔ (a ≠ b) := by
  unfold zcmpv
  repeat' split
  all_goals omega
theorem zcmp_lt (a b : Int) : (zcmpv a b < 0) ↔ (a < b) := by
  unfold zcmpv
  repeat' split
  all_goals omega
theorem zcmp_ge (a b : Int) : (0 ≤ zcmpv a b) ↔ (b ≤ a) := by
  unfold zcmpv
  repeat' split
  all_goals omega
theorem zcmp_gt (a b : Int) : (0 < zcmpv a b) ↔ (b < a) := by
  unfold zcmpv
  repeat' split
  all_goals omega
theorem zcmp_le (a b : Int) : (zcmpv a b ≤ 0) ↔ (a ≤ b) := by
  unfold zcmpv
  repeat' split
  all_goals omega
theorem z_lcmp_eq {x : Cx} {cc : ByteArray} {own : String} {ret : Option FieldType} {f L : Nat} {σ : Hp} {pc : Nat} {lv : List (Nat × Value)} {st : List Value} (C : zOk x cc own ret f L) {a b off : Int} (tgt : Nat) (d : decode cc pc = .ok (.lcmp, 1)) (d2 : decode cc (pc + 1) = .ok (.ifCond .eq off, 3)) (ht : ((pc + 1 : Nat) : Int) + off = (tgt : Int)) (ha : zrl a) (hb : zrl b) (kt : a = b → zV x σ tgt lv st) (kf : ¬ (a = b) → zV x σ (pc + 4) lv st) : zV x σ pc lv (.long (zJ b) :: .long (zJ a) :: st) := by
  obtain ⟨⟨p, l, e, R, s, m, args, below, meth, c⟩, w, A, Q, nL, ce, sl⟩ := x
  intro H locs ls hl hP hS
  refine W.lcmp C.1 C.2.1 d ?_
  rw [zcmp_toInt ha hb]
  exact z_if_eq C tgt d2 ht (zcmp_rg a b) (fun h => kt ((zcmp_eq a b).mp h)) (fun h => kf (fun q => h ((zcmp_eq a b).mpr q))) H locs ls hl hP hS
theorem z_lcmp_ne {x : Cx} {cc : ByteArray} {own : String} {ret : Option FieldType} {f L : Nat} {σ : Hp} {pc : Nat} {lv : List (Nat × Value)} {st : List Value} (C : zOk x cc own ret f L) {a b off : Int} (tgt : Nat) (d : decode cc pc = .ok (.lcmp, 1)) (d2 : decode cc (pc + 1) = .ok (.ifCond .ne off, 3)) (ht : ((pc + 1 : Nat) : Int) + off = (tgt : Int)) (ha : zrl a) (hb : zrl b) (kt : a ≠ b → zV x σ tgt lv st) (kf : ¬ (a ≠ b) → zV x σ (pc + 4) lv st) : zV x σ pc lv (.long (zJ b) :: .long (zJ a) :: st) := by
  obtain ⟨⟨p, l, e, R, s, m, args, below, meth, c⟩, w, A, Q, nL, ce, sl⟩ := x
  intro H locs ls hl hP hS
  refine W.lcmp C.1 C.2.1 d ?_
  rw [zcmp_toInt ha hb]
  exact z_if_ne C tgt d2 ht (zcmp_rg a b) (fun h => kt ((zcmp_ne a b).mp h)) (fun h => kf (fun q => h ((zcmp_ne a b).mpr q))) H locs ls hl hP hS
theorem z_lcmp_lt {x : Cx} {cc : ByteArray} {own : String} {ret : Option FieldType} {f L : Nat} {σ : Hp} {pc : Nat} {lv : List (Nat × Value)} {st : List Value} (C : zOk x cc own ret f L) {a b off : Int} (tgt : Nat) (d : decode cc pc = .ok (.lcmp, 1)) (d2 : decode cc (pc + 1) = .ok (.ifCond .lt off, 3)) (ht : ((pc + 1 : Nat) : Int) + off = (tgt : Int)) (ha : zrl a) (hb : zrl b) (kt : a < b → zV x σ tgt lv st) (kf : ¬ (a < b) → zV x σ (pc + 4) lv st) : zV x σ pc lv (.long (zJ b) :: .long (zJ a) :: st) := by
  obtain ⟨⟨p, l, e, R, s, m, args, below, meth, c⟩, w, A, Q, nL, ce, sl⟩ := x
  intro H locs ls hl hP hS
  refine W.lcmp C.1 C.2.1 d ?_
  rw [zcmp_toInt ha hb]
  exact z_if_lt C tgt d2 ht (zcmp_rg a b) (fun h => kt ((zcmp_lt a b).mp h)) (fun h => kf (fun q => h ((zcmp_lt a b).mpr q))) H locs ls hl hP hS
theorem z_lcmp_ge {x : Cx} {cc : ByteArray} {own : String} {ret : Option FieldType} {f L : Nat} {σ : Hp} {pc : Nat} {lv : List (Nat × Value)} {st : List Value} (C : zOk x cc own ret f L) {a b off : Int} (tgt : Nat) (d : decode cc pc = .ok (.lcmp, 1)) (d2 : decode cc (pc + 1) = .ok (.ifCond .ge off, 3)) (ht : ((pc + 1 : Nat) : Int) + off = (tgt : Int)) (ha : zrl a) (hb : zrl b) (kt : b ≤ a → zV x σ tgt lv st) (kf : ¬ (b ≤ a) → zV x σ (pc + 4) lv st) : zV x σ pc lv (.long (zJ b) :: .long (zJ a) :: st) := by
  obtain ⟨⟨p, l, e, R, s, m, args, below, meth, c⟩, w, A, Q, nL, ce, sl⟩ := x
  intro H locs ls hl hP hS
  refine W.lcmp C.1 C.2.1 d ?_
  rw [zcmp_toInt ha hb]
  exact z_if_ge C tgt d2 ht (zcmp_rg a b) (fun h => kt ((zcmp_ge a b).mp h)) (fun h => kf (fun q => h ((zcmp_ge a b).mpr q))) H locs ls hl hP hS
theorem z_lcmp_gt {x : Cx} {cc : ByteArray} {own : String} {ret : Option FieldType} {f L : Nat} {σ : Hp} {pc : Nat} {lv : List (Nat × Value)} {st : List Value} (C : zOk x cc own ret f L) {a b off : Int} (tgt : Nat) (d : decode cc pc = .ok (.lcmp, 1)) (d2 : decode cc (pc + 1) = .ok (.ifCond .gt off, 3)) (ht : ((pc + 1 : Nat) : Int) + off = (tgt : Int)) (ha : zrl a) (hb : zrl b) (kt : b < a → zV x σ tgt lv st) (kf : ¬ (b < a) → zV x σ (pc + 4) lv st) : zV x σ pc lv (.long (zJ b) :: .long (zJ a) :: st) := by
  obtain ⟨⟨p, l, e, R, s, m, args, below, meth, c⟩, w, A, Q, nL, ce, sl⟩ := x
  intro H locs ls hl hP hS
  refine W.lcmp C.1 C.2.1 d ?_
  rw [zcmp_toInt ha hb]
  exact z_if_gt C tgt d2 ht (zcmp_rg a b) (fun h => kt ((zcmp_gt a b).mp h)) (fun h => kf (fun q => h ((zcmp_gt a b).mpr q))) H locs ls hl hP hS
theorem z_lcmp_le {x : Cx} {cc : ByteArray} {own : String} {ret : Option FieldType} {f L : Nat} {σ : Hp} {pc : Nat} {lv : List (Nat × Value)} {st : List Value} (C : zOk x cc own ret f L) {a b off : Int} (tgt : Nat) (d : decode cc pc = .ok (.lcmp, 1)) (d2 : decode cc (pc + 1) = .ok (.ifCond .le off, 3)) (ht : ((pc + 1 : Nat) : Int) + off = (tgt : Int)) (ha : zrl a) (hb : zrl b) (kt : a ≤ b → zV x σ tgt lv st) (kf : ¬ (a ≤ b) → zV x σ (pc + 4) lv st) : zV x σ pc lv (.long (zJ b) :: .long (zJ a) :: st) := by
  obtain ⟨⟨p, l, e, R, s, m, args, below, meth, c⟩, w, A, Q, nL, ce, sl⟩ := x
  intro H locs ls hl hP hS
  refine W.lcmp C.1 C.2.1 d ?_
  rw [zcmp_toInt ha hb]
  exact z_if_le C tgt d2 ht (zcmp_rg a b) (fun h => kt ((zcmp_le a b).mp h)) (fun h => kf (fun q => h ((zcmp_le a b).mpr q))) H locs ls hl hP hS
theorem z_ifnull {x : Cx} {cc : ByteArray} {own : String} {ret : Option FieldType} {f L : Nat} {σ : Hp} {pc : Nat} {lv : List (Nat × Value)} {st : List Value} (C : zOk x cc own ret f L) {off : Int} {q : Nat} (d : decode cc pc = .ok (.ifnull off, 3)) (k : zV x σ (pc + 3) lv st) : zV x σ pc lv (za x q :: st) := by
  obtain ⟨⟨p, l, e, R, s, m, args, below, meth, c⟩, w, A, Q, nL, ce, sl⟩ := x
  intro H locs ls hl hP hS
  exact lv_ifnull C.1 C.2.1 d (k H locs ls hl hP hS)
theorem z_ifnonnull {x : Cx} {cc : ByteArray} {own : String} {ret : Option FieldType} {f L : Nat} {σ : Hp} {pc : Nat} {lv : List (Nat × Value)} {st : List Value} (C : zOk x cc own ret f L) {off : Int} {q : Nat} (tgt : Nat) (d : decode cc pc = .ok (.ifnonnull off, 3)) (ht : (pc : Int) + off = (tgt : Int)) (k : zV x σ tgt lv st) : zV x σ pc lv (za x q :: st) := by
  obtain ⟨⟨p, l, e, R, s, m, args, below, meth, c⟩, w, A, Q, nL, ce, sl⟩ := x
  intro H locs ls hl hP hS
  exact lv_ifnonnull C.1 C.2.1 d ht (k H locs ls hl hP hS)
theorem z_ifnullN {x : Cx} {cc : ByteArray} {own : String} {ret : Option FieldType} {f L : Nat} {σ : Hp} {pc : Nat} {lv : List (Nat × Value)} {st : List Value} (C : zOk x cc own ret f L) {off : Int} (tgt : Nat) (d : decode cc pc = .ok (.ifnull off, 3)) (ht : (pc : Int) + off = (tgt : Int)) (k : zV x σ tgt lv st) : zV x σ pc lv (.null :: st) := by
  obtain ⟨⟨p, l, e, R, s, m, args, below, meth, c⟩, w, A, Q, nL, ce, sl⟩ := x
  intro H locs ls hl hP hS
  exact lv_ifnullN C.1 C.2.1 d ht (k H locs ls hl hP hS)
theorem z_ifnonnullN {x : Cx} {cc : ByteArray} {own : String} {ret : Option FieldType} {f L : Nat} {σ : Hp} {pc : Nat} {lv : List (Nat × Value)} {st : List Value} (C : zOk x cc own ret f L) {off : Int} (d : decode cc pc = .ok (.ifnonnull off, 3)) (k : zV x σ (pc + 3) lv st) : zV x σ pc lv (.null :: st) := by
  obtain ⟨⟨p, l, e, R, s, m, args, below, meth, c⟩, w, A, Q, nL, ce, sl⟩ := x
  intro H locs ls hl hP hS
  exact lv_ifnonnullN C.1 C.2.1 d (k H locs ls hl hP hS)
theorem z_tabOut {x : Cx} {cc : ByteArray} {own : String} {ret : Option FieldType} {f L : Nat} {σ : Hp} {pc : Nat} {lv : List (Nat × Value)} {st : List Value} (C : zOk x cc own ret f L) {dflt lo hi a : Int} {offs : Array Int} {len : Nat} (tgt : Nat) (d : decode cc pc = .ok (.tableswitch dflt lo hi offs, len)) (ha : zrg a) (h : a < lo ∨ hi < a) (ht : (pc : Int) + dflt = (tgt : Int)) (k : zV x σ tgt lv st) : zV x σ pc lv (.int (zI a) :: st) := by
  obtain ⟨⟨p, l, e, R, s, m, args, below, meth, c⟩, w, A, Q, nL, ce, sl⟩ := x
  intro H locs ls hl hP hS
  exact lv_tableOut C.1 C.2.1 d (by rw [zI_toInt ha]; exact h) ht (k H locs ls hl hP hS)
theorem z_tabIn {x : Cx} {cc : ByteArray} {own : String} {ret : Option FieldType} {f L : Nat} {σ : Hp} {pc : Nat} {lv : List (Nat × Value)} {st : List Value} (C : zOk x cc own ret f L) {dflt lo hi a off : Int} {offs : Array Int} {len : Nat} (tgt : Nat) (d : decode cc pc = .ok (.tableswitch dflt lo hi offs, len)) (ha : zrg a) (h1 : ¬ a < lo) (h2 : ¬ hi < a) (ho : offs[(a - lo).toNat]? = some off) (ht : (pc : Int) + off = (tgt : Int)) (k : zV x σ tgt lv st) : zV x σ pc lv (.int (zI a) :: st) := by
  obtain ⟨⟨p, l, e, R, s, m, args, below, meth, c⟩, w, A, Q, nL, ce, sl⟩ := x
  intro H locs ls hl hP hS
  exact lv_tableIn C.1 C.2.1 d (by rw [zI_toInt ha]; exact h1) (by rw [zI_toInt ha]; exact h2) (by rw [zI_toInt ha]; exact ho) ht (k H locs ls hl hP hS)
def zIA (p n : Nat) : Prop := p < 43 ∧ n < 2147483648 ∧ ∀ (w : Wp) (f : Nat → Int), zcell w p f = .inl (w.2.2 0, n, .inl (fun j => zI (f j)))
def zLA (p n : Nat) : Prop := p < 43 ∧ n < 2147483648 ∧ ∀ (w : Wp) (f : Nat → Int), zcell w p f = .inl (w.2.2 2, n, .inr (.inl (fun j => zJ (f j))))
def zBA (p n : Nat) : Prop := p < 43 ∧ n < 2147483648 ∧ ∀ (w : Wp) (f : Nat → Int), zcell w p f = .inl (w.2.2 1, n, .inl (fun j => zI (f j)))
theorem zIA_line {r : Nat} (hr : r < 7) : zIA (36 + r) 12 := ⟨by omega, by decide, zcell_line hr⟩
theorem zup (f : Nat → Int) (j : Nat) (v : Int) : upd (fun t => zI (f t)) j (zI v) = fun t => zI (if t = j then v else f t) := by
  funext t
  by_cases h : t = j <;> simp [upd, h]
theorem zupL (f : Nat → Int) (j : Nat) (v : Int) : vp_updL (fun t => zJ (f t)) j (zJ v) = fun t => zJ (if t = j then v else f t) := by
  funext t
  by_cases h : t = j <;> simp [vp_updL, h]
theorem z_iald {x : Cx} {cc : ByteArray} {own : String} {ret : Option FieldType} {f L : Nat} {σ : Hp} {pc : Nat} {lv : List (Nat × Value)} {st : List Value} (C : zOk x cc own ret f L) {q n : Nat} {i : Int} (ha : zIA q n) (d : decode cc pc = .ok (.iaload, 1)) (h0 : 0 ≤ i) (h1 : i < n) (k : zV x σ (pc + 1) lv (.int (zI (σ q i.toNat)) :: st)) : zV x σ pc lv (.int (zI i) :: za x q :: st) := by
  obtain ⟨⟨p, l, e, R, s, m, args, below, meth, c⟩, w, A, Q, nL, ce, sl⟩ := x
  intro H locs ls hl hP hS
  obtain ⟨a1, a2, a3⟩ := ha
  refine va_iald C.1 C.2.1 C.2.2.2.2.2.1 hP _ 0 (by rw [zwd_at a1, a3]) rfl (zI_in h0 h1 a2) d ?_
  rw [zI_cl h0 h1 a2]
  exact k H locs ls hl hP hS
theorem z_bald {x : Cx} {cc : ByteArray} {own : String} {ret : Option FieldType} {f L : Nat} {σ : Hp} {pc : Nat} {lv : List (Nat × Value)} {st : List Value} (C : zOk x cc own ret f L) {q n : Nat} {i : Int} (ha : zBA q n) (d : decode cc pc = .ok (.baload, 1)) (h0 : 0 ≤ i) (h1 : i < n) (k : zV x σ (pc + 1) lv (.int (zI (σ q i.toNat)) :: st)) : zV x σ pc lv (.int (zI i) :: za x q :: st) := by
  obtain ⟨⟨p, l, e, R, s, m, args, below, meth, c⟩, w, A, Q, nL, ce, sl⟩ := x
  intro H locs ls hl hP hS
  obtain ⟨a1, a2, a3⟩ := ha
  refine va_bald C.1 C.2.1 C.2.2.2.2.2.1 hP _ 1 (by rw [zwd_at a1, a3]) rfl (zI_in h0 h1 a2) d ?_
  rw [zI_cl h0 h1 a2]
  exact k H locs ls hl hP hS
theorem z_lald {x : Cx} {cc : ByteArray} {own : String} {ret : Option FieldType} {f L : Nat} {σ : Hp} {pc : Nat} {lv : List (Nat × Value)} {st : List Value} (C : zOk x cc own ret f L) {q n : Nat} {i : Int} (ha : zLA q n) (d : decode cc pc = .ok (.laload, 1)) (h0 : 0 ≤ i) (h1 : i < n) (k : zV x σ (pc + 1) lv (.long (zJ (σ q i.toNat)) :: st)) : zV x σ pc lv (.int (zI i) :: za x q :: st) := by
  obtain ⟨⟨p, l, e, R, s, m, args, below, meth, c⟩, w, A, Q, nL, ce, sl⟩ := x
  intro H locs ls hl hP hS
  obtain ⟨a1, a2, a3⟩ := ha
  refine va_lald C.1 C.2.1 C.2.2.2.2.2.1 hP _ 2 (by rw [zwd_at a1, a3]) rfl (zI_in h0 h1 a2) d ?_
  rw [zI_cl h0 h1 a2]
  exact k H locs ls hl hP hS
theorem z_iast {x : Cx} {cc : ByteArray} {own : String} {ret : Option FieldType} {f L : Nat} {σ : Hp} {pc : Nat} {lv : List (Nat × Value)} {st : List Value} (C : zOk x cc own ret f L) {q n : Nat} {i v : Int} (ha : zIA q n) (d : decode cc pc = .ok (.iastore, 1)) (h0 : 0 ≤ i) (h1 : i < n) (k : zV x (zst σ q i.toNat v) (pc + 1) lv st) : zV x σ pc lv (.int (zI v) :: .int (zI i) :: za x q :: st) := by
  obtain ⟨⟨p, l, e, R, s, m, args, below, meth, c⟩, w, A, Q, nL, ce, sl⟩ := x
  intro H locs ls hl hP hS
  obtain ⟨a1, a2, a3⟩ := ha
  refine va_iast C.1 C.2.1 C.2.2.2.2.2.1 hP (C.2.2.2.2.2.2.1 σ) hS _ 0 (by rw [zwd_at a1, a3]) rfl (zI_in h0 h1 a2) d (fun H1 locs1 hP1 hD1 hS1 => ?_)
  rw [zI_cl h0 h1 a2, zup, zwd_set (σ' := zst σ q i.toNat v) a1 (by rw [a3, zst_p]) zst_o] at hP1
  exact k H1 locs1 ls hl hP1 hS1
theorem z_last {x : Cx} {cc : ByteArray} {own : String} {ret : Option FieldType} {f L : Nat} {σ : Hp} {pc : Nat} {lv : List (Nat × Value)} {st : List Value} (C : zOk x cc own ret f L) {q n : Nat} {i v : Int} (ha : zLA q n) (d : decode cc pc = .ok (.lastore, 1)) (h0 : 0 ≤ i) (h1 : i < n) (k : zV x (zst σ q i.toNat v) (pc + 1) lv st) : zV x σ pc lv (.long (zJ v) :: .int (zI i) :: za x q :: st) := by
  obtain ⟨⟨p, l, e, R, s, m, args, below, meth, c⟩, w, A, Q, nL, ce, sl⟩ := x
  intro H locs ls hl hP hS
  obtain ⟨a1, a2, a3⟩ := ha
  refine va_last C.1 C.2.1 C.2.2.2.2.2.1 hP (C.2.2.2.2.2.2.1 σ) hS _ 2 (by rw [zwd_at a1, a3]) rfl (zI_in h0 h1 a2) d (fun H1 locs1 hP1 hD1 hS1 => ?_)
  rw [zI_cl h0 h1 a2, zupL, zwd_set (σ' := zst σ q i.toNat v) a1 (by rw [a3, zst_p]) zst_o] at hP1
  exact k H1 locs1 ls hl hP1 hS1
theorem zi2b_i (a : Int) : vp_nar .byte (zI a) = zI (zi2b a) := by rw [vp_nar_byte, zi2b, zI_of]
theorem z_bast {x : Cx} {cc : ByteArray} {own : String} {ret : Option FieldType} {f L : Nat} {σ : Hp} {pc : Nat} {lv : List (Nat × Value)} {st : List Value} (C : zOk x cc own ret f L) {q n : Nat} {i v : Int} (ha : zBA q n) (d : decode cc pc = .ok (.bastore, 1)) (h0 : 0 ≤ i) (h1 : i < n) (k : zV x (zst σ q i.toNat (zi2b v)) (pc + 1) lv st) : zV x σ pc lv (.int (zI v) :: .int (zI i) :: za x q :: st) := by
  obtain ⟨⟨p, l, e, R, s, m, args, below, meth, c⟩, w, A, Q, nL, ce, sl⟩ := x
  intro H locs ls hl hP hS
  obtain ⟨a1, a2, a3⟩ := ha
  refine va_bast C.1 C.2.1 C.2.2.2.2.2.1 hP (C.2.2.2.2.2.2.1 σ) hS _ 1 (by rw [zwd_at a1, a3]) rfl (zI_in h0 h1 a2) d (fun H1 locs1 hP1 hD1 hS1 => ?_)
  rw [zI_cl h0 h1 a2, zi2b_i, zup, zwd_set (σ' := zst σ q i.toNat (zi2b v)) a1 (by rw [a3, zst_p]) zst_o] at hP1
  exact k H1 locs1 ls hl hP1 hS1
theorem z_alen {x : Cx} {cc : ByteArray} {own : String} {ret : Option FieldType} {f L : Nat} {σ : Hp} {pc : Nat} {lv : List (Nat × Value)} {st : List Value} (C : zOk x cc own ret f L) {q n : Nat} (ha : zIA q n) (d : decode cc pc = .ok (.arraylength, 1)) (k : zV x σ (pc + 1) lv (.int (zI n) :: st)) : zV x σ pc lv (za x q :: st) := by
  obtain ⟨⟨p, l, e, R, s, m, args, below, meth, c⟩, w, A, Q, nL, ce, sl⟩ := x
  intro H locs ls hl hP hS
  obtain ⟨a1, a2, a3⟩ := ha
  exact va_alen (x := (n, .inl (fun j => zI (σ q j)))) (v := zI n) C.1 C.2.1 C.2.2.2.2.2.1 hP _ 0 (by rw [zwd_at a1, a3]) rfl Int32.ofInt_eq_ofNat.symm d (k H locs ls hl hP hS)
theorem z_alenL {x : Cx} {cc : ByteArray} {own : String} {ret : Option FieldType} {f L : Nat} {σ : Hp} {pc : Nat} {lv : List (Nat × Value)} {st : List Value} (C : zOk x cc own ret f L) {q n : Nat} (ha : zLA q n) (d : decode cc pc = .ok (.arraylength, 1)) (k : zV x σ (pc + 1) lv (.int (zI n) :: st)) : zV x σ pc lv (za x q :: st) := by
  obtain ⟨⟨p, l, e, R, s, m, args, below, meth, c⟩, w, A, Q, nL, ce, sl⟩ := x
  intro H locs ls hl hP hS
  obtain ⟨a1, a2, a3⟩ := ha
  exact va_alen (x := (n, .inr (.inl (fun j => zJ (σ q j))))) (v := zI n) C.1 C.2.1 C.2.2.2.2.2.1 hP _ 2 (by rw [zwd_at a1, a3]) rfl Int32.ofInt_eq_ofNat.symm d (k H locs ls hl hP hS)
theorem z_aald {x : Cx} {cc : ByteArray} {own : String} {ret : Option FieldType} {f L : Nat} {σ : Hp} {pc : Nat} {lv : List (Nat × Value)} {st : List Value} (C : zOk x cc own ret f L) {i : Int} (d : decode cc pc = .ok (.aaload, 1)) (h0 : 0 ≤ i) (h1 : i < 6) (k : zV x σ (pc + 1) lv (za x (29 + i.toNat) :: st)) : zV x σ pc lv (.int (zI i) :: za x 1 :: st) := by
  obtain ⟨⟨p, l, e, R, s, m, args, below, meth, c⟩, w, A, Q, nL, ce, sl⟩ := x
  intro H locs ls hl hP hS
  refine va_aldq (n := 6) C.1 C.2.1 C.2.2.2.2.2.1 hP 1 3 (zwd_at (by decide)) rfl (zI_in h0 h1 (by decide)) d ?_
  rw [zI_cl (n := 6) h0 h1 (by decide)]
  exact k H locs ls hl hP hS
theorem z_sub {x : Cx} {cc : ByteArray} {own : String} {ret : Option FieldType} {f L : Nat} {σ : Hp} {pc : Nat} {lv : List (Nat × Value)} {st : List Value} (C : zOk x cc own ret f L) (js : List Nat) (lv2 : List (Nat × Value)) (h : lv_pick lv js = lv2) (k : zV x σ pc lv2 st) : zV x σ pc lv st := by
  obtain ⟨⟨p, l, e, R, s, m, args, below, meth, c⟩, w, A, Q, nL, ce, sl⟩ := x
  intro H locs ls hl hP hS
  exact k H locs ls (lv_sub hl js h) hP hS
theorem z_iret {x : Cx} {cc : ByteArray} {own : String} {f L : Nat} {σ : Hp} {pc : Nat} {lv : List (Nat × Value)} (C : zOk x cc own (some .int) f L) {post : Option Value → Hp → Prop} (E : zEnd x post) {z : Int} (d : decode cc pc = .ok (.ireturn, 1)) (h : post (some (.int (zI z))) σ) : zV x σ pc lv [.int (zI z)] := by
  obtain ⟨⟨p, l, e, R, s, m, args, below, meth, c⟩, w, A, Q, nL, ce, sl⟩ := x
  obtain ⟨rfl, rfl, rfl⟩ := E
  intro H locs ls hl hP hS
  exact W.iret (hlocks := C.2.2.2.2.2.2.2.2.2.1) C.1 C.2.1 C.2.2.2.2.2.2.2.2.1 (fun t ht hW => ⟨⟨_, σ, rfl, h, by rw [ht]; exact hP⟩, hS.F ht⟩) hS.2.2 d
theorem z_lret {x : Cx} {cc : ByteArray} {own : String} {f L : Nat} {σ : Hp} {pc : Nat} {lv : List (Nat × Value)} (C : zOk x cc own (some .long) f L) {post : Option Value → Hp → Prop} (E : zEnd x post) {z : Int} (d : decode cc pc = .ok (.lreturn, 1)) (h : post (some (.long (zJ z))) σ) : zV x σ pc lv [.long (zJ z)] := by
  obtain ⟨⟨p, l, e, R, s, m, args, below, meth, c⟩, w, A, Q, nL, ce, sl⟩ := x
  obtain ⟨rfl, rfl, rfl⟩ := E
  intro H locs ls hl hP hS
  exact W.lret (hlocks := C.2.2.2.2.2.2.2.2.2.1) C.1 C.2.1 C.2.2.2.2.2.2.2.2.1 (fun t ht hW => ⟨⟨_, σ, rfl, h, by rw [ht]; exact hP⟩, hS.F ht⟩) hS.2.2 d
theorem znarb {z : Int} (h : z = 0 ∨ z = 1) : narrow .boolean (.int (zI z)) = .int (zI z) := by rcases h with rfl | rfl <;> rfl
theorem z_zret {x : Cx} {cc : ByteArray} {own : String} {f L : Nat} {σ : Hp} {pc : Nat} {lv : List (Nat × Value)} (C : zOk x cc own (some .boolean) f L) {post : Option Value → Hp → Prop} (E : zEnd x post) {z : Int} (d : decode cc pc = .ok (.ireturn, 1)) (hz : z = 0 ∨ z = 1) (h : post (some (.int (zI z))) σ) : zV x σ pc lv [.int (zI z)] := by
  obtain ⟨⟨p, l, e, R, s, m, args, below, meth, c⟩, w, A, Q, nL, ce, sl⟩ := x
  obtain ⟨rfl, rfl, rfl⟩ := E
  intro H locs ls hl hP hS
  exact W.zret (hlocks := C.2.2.2.2.2.2.2.2.2.1) C.1 C.2.1 C.2.2.2.2.2.2.2.2.1 (znarb hz) (fun t ht hW => ⟨⟨_, σ, rfl, h, by rw [ht]; exact hP⟩, hS.F ht⟩) hS.2.2 d
theorem z_vret {x : Cx} {cc : ByteArray} {own : String} {f L : Nat} {σ : Hp} {pc : Nat} {lv : List (Nat × Value)} (C : zOk x cc own none f L) {post : Option Value → Hp → Prop} (E : zEnd x post) (d : decode cc pc = .ok (.return_, 1)) (h : post none σ) : zV x σ pc lv [] := by
  obtain ⟨⟨p, l, e, R, s, m, args, below, meth, c⟩, w, A, Q, nL, ce, sl⟩ := x
  obtain ⟨rfl, rfl, rfl⟩ := E
  intro H locs ls hl hP hS
  exact W.vret (hlocks := C.2.2.2.2.2.2.2.2.2.1) C.1 C.2.1 C.2.2.2.2.2.2.2.2.1 (fun t ht hW => ⟨⟨_, σ, rfl, h, by rw [ht]; exact hP⟩, hS.F ht⟩) hS.2.2 d
theorem z_aret {x : Cx} {cc : ByteArray} {own nm : String} {f L : Nat} {σ : Hp} {pc q : Nat} {lv : List (Nat × Value)} (C : zOk x cc own (some (.object nm)) f L) {post : Option Value → Hp → Prop} (E : zEnd x post) (d : decode cc pc = .ok (.areturn, 1)) (h : post (some (za x q)) σ) : zV x σ pc lv [za x q] := by
  obtain ⟨⟨p, l, e, R, s, m, args, below, meth, c⟩, w, A, Q, nL, ce, sl⟩ := x
  obtain ⟨rfl, rfl, rfl⟩ := E
  intro H locs ls hl hP hS
  exact W.aret (hlocks := C.2.2.2.2.2.2.2.2.2.1) C.1 C.2.1 C.2.2.2.2.2.2.2.2.1 (Or.inl ⟨_, rfl⟩) (Or.inr ⟨_, rfl⟩) (fun t ht hW => ⟨⟨_, σ, rfl, h, by rw [ht]; exact hP⟩, hS.F ht⟩) hS.2.2 d
theorem z_aretN {x : Cx} {cc : ByteArray} {own nm : String} {f L : Nat} {σ : Hp} {pc : Nat} {lv : List (Nat × Value)} (C : zOk x cc own (some (.object nm)) f L) {post : Option Value → Hp → Prop} (E : zEnd x post) (d : decode cc pc = .ok (.areturn, 1)) (h : post (some .null) σ) : zV x σ pc lv [.null] := by
  obtain ⟨⟨p, l, e, R, s, m, args, below, meth, c⟩, w, A, Q, nL, ce, sl⟩ := x
  obtain ⟨rfl, rfl, rfl⟩ := E
  intro H locs ls hl hP hS
  exact W.aret (hlocks := C.2.2.2.2.2.2.2.2.2.1) C.1 C.2.1 C.2.2.2.2.2.2.2.2.1 (Or.inl ⟨_, rfl⟩) (Or.inl rfl) (fun t ht hW => ⟨⟨_, σ, rfl, h, by rw [ht]; exact hP⟩, hS.F ht⟩) hS.2.2 d
theorem zMt_of {l : Launch} {y : MethodName} {cc : ByteArray} {nL : Nat} {ret : Option FieldType} {rm : Room} {av : Wp → List Value} {σ : Hp} {post : Wp → Option Value → Hp → Prop} (hy : plainFor y = true) (hn : ∀ w, (lg_sl (av w)).length ≤ nL)
    (body : ∀ x : Cx, x.1.2.1 = l → x.2.2.2.2.1 = nL → zOk x cc y.cls ret rm.frames rm.locals → zEnd x (post x.2.1) → zV x σ 0 (lv_args 0 (av x.2.1)) []) : zMt l y cc nL ret rm av σ post := by
  intro w A
  refine va_MetF (cc := cc) (maxL := nL) (ret := ret) hy rfl ?_
  intro p e s m args below meth c s₁ B hml hv
  obtain ⟨rfl, hP, hK, hD, hN⟩ := hv
  have hts := atoms_spec (ws := .code y cc nL ret :: ztb) B.pre
  rw [lg_entry_eq]
  exact body ((p, l, e, rm, s, m, (av w).toArray, below, meth, c), w, A, MQ below (zQ w A (post w)) (av w).toArray s 0 0 A, nL, 0, 0) rfl rfl
    ⟨B.exec, B.bytes, hml, findClass_of_methodNamed B.named, fun w hw => hts w (List.mem_cons_of_mem _ hw), hK, hD, hN, B.returns, B.notSynchronized, Nat.le_refl _, Nat.le_refl _, Nat.zero_le _, Nat.zero_le _⟩ ⟨rfl, rfl, rfl⟩
    s.heap [] _ (lv_entry (av w) (hn w)) hP va_S.rf
theorem z_run {p : Program} {l : Launch} {e : Env} {R : Room} {s : State} {m : MethodId} {args : Array Value} {below : List Frame} {meth : Method} {c : Code} {w : Wp} {A : Nat → Prop} {Q : State → Prop} {nL ce sl : Nat} {H : Heap} {locs : List Loc} {ls : Array Slot} {lv : List (Nat × Value)} {pc : Nat} {st0 rest : List Value} {post : Option Value → Hp → Prop} {a : Array Value}
    (hr : va_Run p l e R s m args below meth c H locs ce sl 0 0 (F0 m pc ls st0) rest (zQ w A post a) A) (hl : lv_has ls nL lv) (hS : va_S A s.heap H locs)
    (k : ∀ (r : Option Value) (σ1 : Hp), post r σ1 → zV ((p, l, e, R, s, m, args, below, meth, c), w, A, Q, nL, ce, sl) σ1 (pc + 3) lv (r.toList ++ rest)) : W p l e R s m args below meth c H locs ce sl Q (F0 m pc ls st0) := by
  intro T hT X
  obtain ⟨v, st₀, t, T', L, h0, X', hL, e1, e2, ⟨⟨r, σ1, hv, hp, hb⟩, hz, hk⟩, st⟩ := hr T hT X
  cases hv
  rw [h0] at hz hk
  obtain ⟨t2, a1, b1⟩ := k v σ1 hp T'.heap (locs ++ L) ls hl (by rw [e1]; exact hb)
    ⟨Nat.le_trans hS.1 (by rw [e1]; exact hz), fun q h1 h2 => by rw [e1, hk q (Nat.lt_of_lt_of_le h1 hS.1) h2]; exact hS.2.1 q h1 h2, fun q hq => by
      rcases List.mem_append.mp hq with h | h
      · exact hS.2.2 q h
      · exact hL q h⟩ T' rfl X'
  exact ⟨t2, st t2 a1, b1⟩
/-- what a call needs of the called: its code among the words, its kind, its class begun, how many it takes -/
def zCs (y : MethodName) (cc : ByteArray) (nL : Nat) (ret : Option FieldType) (n : Nat) : Prop := Cond.code y cc nL ret ∈ ztb ∧ Cond.static y ∈ ztb ∧ Cond.initialized y.cls ∈ ztb ∧ y.cls ≠ "java/lang/invoke/MethodHandle" ∧ y.cls ≠ "java/lang/invoke/VarHandle" ∧ (parseMethodDescriptor y.desc).map (fun d => d.parameters.length) = some n
def zCv (y : MethodName) (cc : ByteArray) (nL : Nat) (ret : Option FieldType) (n : Nat) : Prop := Cond.code y cc nL ret ∈ ztb ∧ (Cond.instanceMethod y ∈ ztb ∧ Cond.selects y.cls y y ∈ ztb) ∧ Cond.initialized y.cls ∈ ztb ∧ y.cls ≠ "java/lang/invoke/MethodHandle" ∧ y.cls ≠ "java/lang/invoke/VarHandle" ∧ (parseMethodDescriptor y.desc).map (fun d => d.parameters.length) = some n
theorem z_blind {w : Wp} {A : Nat → Prop} {σ : Hp} {av : List Value} : FrameBlind (va_Pc av (zWd w A σ)) := fun a U g mk q => by
  obtain ⟨q0, qP, qK, qD, qN⟩ := q
  exact ⟨q0, qP, va_K.moved (u := U) (U := U.calling g mk a) (Vm.Alike.refl U.vm) qK, qD, fun n hn => va_Nw.same (u := U) (U := U.calling g mk a) ((show ∀ n ∈ znest, n.onTables = true by decide +kernel) n hn) rfl (qN n hn)⟩

theorem z_callS {x : Cx} {cc : ByteArray} {own : String} {ret : Option FieldType} {f L : Nat} {σ : Hp} {pc : Nat} {lv : List (Nat × Value)} {st : List Value} (C : zOk x cc own ret f L) {y : MethodName} {yc : ByteArray} {yL n idx : Nat} {yr : Option FieldType} {rm : Room} {av : Wp → List Value} {post : Wp → Option Value → Hp → Prop} (rest : List Value) (Y : zCs y yc yL yr n) (M : ∀ l, zMt l y yc yL yr rm av σ post) (hlink : Cond.methodLink own idx y ∈ ztb) (d : decode cc pc = .ok (.invokestatic idx, 3)) (hst : (av x.2.1).reverse ++ rest = st) (hn : (av x.2.1).length = n) (hrc : rm.cells = 0 ∧ rm.slots = 0) (hR : rm.frames + 1 ≤ f ∧ 8 + (yL + 11) + rm.locals ≤ L) (hro : (rest.map fun v => v.category).sum ≤ 8) (k : ∀ (r : Option Value) (σ1 : Hp), post x.2.1 r σ1 → zV x σ1 (pc + 3) lv (r.toList ++ rest)) : zV x σ pc lv st := by
  obtain ⟨⟨p, l, e, R, s, m, args, below, meth, c⟩, w, A, Q, nL, ce, sl⟩ := x
  intro H locs ls hl hP hS
  obtain ⟨hx, hb, hml, hown, hts, hK, hD, hN, hr, hlk, hf, hL, hce, hsl⟩ := C
  obtain ⟨y1, y2, y3, y4⟩ := Y
  refine z_run (post := post w) (rest := rest) (a := (av w).toArray) ?_ hl hS k
  exact va_runS (As := av w) ⟨hx, hb, hml, hown, hts⟩ (M l w A) ⟨callB_of n hts (zgood y1 (fun _ h => h)) rfl hrc.1 hrc.2 (hts _ y3) (hts _ hlink) y4 ⟨Nat.le_trans hR.1 hf, Nat.le_trans hR.2 hL⟩, hts _ y2⟩ ⟨z_blind, fun U hU hW => ⟨rfl, by rw [hU]; exact hP, va_K.moved hW.alike hK, hD, zNw_warm hW hN⟩⟩ rfl hn hl.1 hst.symm (lv_room hro) d ⟨hce, hsl⟩
theorem z_callN {x : Cx} {cc : ByteArray} {own : String} {ret : Option FieldType} {f L : Nat} {σ : Hp} {pc : Nat} {lv : List (Nat × Value)} {st : List Value} (C : zOk x cc own ret f L) {y : MethodName} {yc : ByteArray} {yL n idx : Nat} {yr : Option FieldType} {rm : Room} {av : Wp → List Value} {post : Wp → Option Value → Hp → Prop} (rest : List Value) (Y : zCs y yc yL yr n) (M : ∀ l, zMt l y yc yL yr rm av σ post) (hlink : Cond.methodLinkNest own idx y RX6 ∈ znest) (d : decode cc pc = .ok (.invokestatic idx, 3)) (hst : (av x.2.1).reverse ++ rest = st) (hn : (av x.2.1).length = n) (hrc : rm.cells = 0 ∧ rm.slots = 0) (hR : rm.frames + 1 ≤ f ∧ 8 + (yL + 11) + rm.locals ≤ L) (hro : (rest.map fun v => v.category).sum ≤ 8) (k : ∀ (r : Option Value) (σ1 : Hp), post x.2.1 r σ1 → zV x σ1 (pc + 3) lv (r.toList ++ rest)) : zV x σ pc lv st := by
  obtain ⟨⟨p, l, e, R, s, m, args, below, meth, c⟩, w, A, Q, nL, ce, sl⟩ := x
  intro H locs ls hl hP hS
  obtain ⟨hx, hb, hml, hown, hts, hK, hD, hN, hr, hlk, hf, hL, hce, hsl⟩ := C
  obtain ⟨y1, y2, y3, y4⟩ := Y
  refine z_run (post := post w) (rest := rest) (a := (av w).toArray) ?_ hl hS k
  exact va_runSN (As := av w) ⟨hx, hb, hml, hown, hts⟩ (M l w A) ⟨va_cnB n hts (zgood y1 (fun _ h => h)) rfl hrc.1 hrc.2 (hN _ hlink) (hts _ y3) y4 ⟨Nat.le_trans hR.1 hf, Nat.le_trans hR.2 hL⟩, hts _ y2, trivial⟩ ⟨z_blind, fun U hU hW => ⟨rfl, by rw [hU]; exact hP, va_K.moved hW.alike hK, hD, zNw_warm hW hN⟩⟩ rfl hn hl.1 hst.symm (lv_room hro) d ⟨hce, hsl⟩
theorem z_callV {x : Cx} {cc : ByteArray} {own : String} {ret : Option FieldType} {f L : Nat} {σ : Hp} {pc : Nat} {lv : List (Nat × Value)} {st : List Value} (C : zOk x cc own ret f L) {y : MethodName} {yc : ByteArray} {yL n idx ci : Nat} {yr : Option FieldType} {rm : Room} {av : Wp → List Value} {post : Wp → Option Value → Hp → Prop} {q : Nat} {fs : Wp → (Nat → Int) → List Value} {T : u_T} {N : Nat} (rest : List Value) (Y : zCv y yc yL yr n) (hq : q < 43) (hz : ∀ w g, zcell w q g = .inr (ci, fs w g)) (hcl : vwCl[ci]? = some (y.cls, T, N)) (M : ∀ l, zMt l y yc yL yr rm (fun w => .ref (w.2.1 q) :: av w) σ post) (hlink : Cond.methodLink own idx y ∈ ztb) (d : decode cc pc = .ok (.invokevirtual idx, 3)) (hst : (av x.2.1).reverse ++ za x q :: rest = st) (hn : (av x.2.1).length = n) (hrc : rm.cells = 0 ∧ rm.slots = 0) (hR : rm.frames + 1 ≤ f ∧ 8 + (yL + 11) + rm.locals ≤ L) (hro : (rest.map fun v => v.category).sum ≤ 8) (k : ∀ (r : Option Value) (σ1 : Hp), post x.2.1 r σ1 → zV x σ1 (pc + 3) lv (r.toList ++ rest)) : zV x σ pc lv st := by
  obtain ⟨⟨p, l, e, R, s, m, args, below, meth, c⟩, w, A, Q, nL, ce, sl⟩ := x
  intro H locs ls hl hP hS
  obtain ⟨hx, hb, hml, hown, hts, hK, hD, hN, hr, hlk, hf, hL, hce, hsl⟩ := C
  obtain ⟨y1, y2, y3, y4⟩ := Y
  refine z_run (post := post w) (rest := rest) (a := (Value.ref (w.2.1 q) :: av w).toArray) ?_ hl hS k
  exact va_runV (As := av w) (C := y.cls) ⟨hx, hb, hml, hown, hts⟩ (M l w A) ⟨callB_of n hts (zgood y1 (fun _ h => h)) rfl hrc.1 hrc.2 (hts _ y3) (hts _ hlink) y4 ⟨Nat.le_trans hR.1 hf, Nat.le_trans hR.2 hL⟩, hts _ y2.1, hts _ y2.2⟩ ⟨z_blind, va_recv hK hP hcl (by rw [zwd_at hq, hz]), fun U hU hW => ⟨rfl, by rw [hU]; exact hP, va_K.moved hW.alike hK, hD, zNw_warm hW hN⟩⟩ rfl hn hl.1 hst.symm (lv_room hro) d ⟨hce, hsl⟩
theorem z_get {x : Cx} {cc : ByteArray} {own : String} {ret : Option FieldType} {f L : Nat} {σ : Hp} {pc : Nat} {lv : List (Nat × Value)} {st : List Value} (C : zOk x cc own ret f L) {q ci N j idx : Nat} {Cn : String} {T : u_T} {fs : Wp → (Nat → Int) → List Value} {v : Value} (hq : q < 43) (hz : ∀ w g, zcell w q g = .inr (ci, fs w g)) (hc : vwCl[ci]? = some (Cn, T, N)) (hin : ∀ w ∈ u_ws Cn T N, w ∈ ztb) (hj : j < N) (hlink : Cond.fieldLink own idx (T j).1 (T j).2.1 (T j).2.2.1 ∈ ztb) (hv : (fs x.2.1 (σ q))[j]? = some v) (d : decode cc pc = .ok (.getfield idx, 3)) (k : zV x σ (pc + 3) lv (v :: st)) : zV x σ pc lv (za x q :: st) := by
  obtain ⟨⟨p, l, e, R, s, m, args, below, meth, c⟩, w, A, Q, nL, ce, sl⟩ := x
  intro H locs ls hl hP hS
  exact va_get C.1 C.2.1 C.2.2.2.2.1 hin C.2.2.2.1 C.2.2.2.2.2.1 hP q (by rw [zwd_at hq, hz]) hc j hj (C.2.2.2.2.1 _ hlink) (fun _ h => h) hv d (k H locs ls hl hP hS)
theorem z_put {x : Cx} {cc : ByteArray} {own : String} {ret : Option FieldType} {f L : Nat} {σ : Hp} {pc : Nat} {lv : List (Nat × Value)} {st : List Value} (C : zOk x cc own ret f L) {q ci N j idx : Nat} {Cn : String} {T : u_T} {ty0 : Nat → FieldType} {fs : Wp → (Nat → Int) → List Value} {z : Int} (hq : q < 43) (hz : ∀ w g, zcell w q g = .inr (ci, fs w g)) (hc : vwCl[ci]? = some (Cn, T, N)) (hin : ∀ w ∈ u_ws Cn T N, w ∈ ztb) (hty : ∀ k, k < N → parseFieldDescriptor (T k).2.2.1 = some (ty0 k)) (hnm : ∀ a, a < N → ∀ b, b < N → a ≠ b → (T a).2.1 ≠ (T b).2.1) (hj : j < N) (hlink : Cond.fieldLink own idx (T j).1 (T j).2.1 (T j).2.2.1 ∈ ztb) (hfin : (T j).2.2.2 = false) (hn : narrow (ty0 j) (.int (zI z)) = .int (zI z)) (hfit : fits (ty0 j) (.int (zI z)) = true) (hv : ∀ w g, (fs w g).set j (.int (zI z)) = fs w (fun t => if t = j then z else g t)) (hlen : ∀ w g, j < (fs w g).length) (d : decode cc pc = .ok (.putfield idx, 3)) (k : zV x (zst σ q j z) (pc + 3) lv st) : zV x σ pc lv (.int (zI z) :: za x q :: st) := by
  obtain ⟨⟨p, l, e, R, s, m, args, below, meth, c⟩, w, A, Q, nL, ce, sl⟩ := x
  intro H locs ls hl hP hS
  refine va_put C.1 C.2.1 C.2.2.2.2.1 hin ty0 hty hnm C.2.2.2.1 C.2.2.2.2.2.1 hP (C.2.2.2.2.2.2.1 σ) hS q (by rw [zwd_at hq, hz]) hc j hj (C.2.2.2.2.1 _ hlink) (fun _ h => h) hfin (hty j hj) hn hfit (hlen _ _) d (fun H1 locs1 hP1 hD1 hS1 => ?_)
  rw [hv, zwd_set (σ' := zst σ q j z) hq (by rw [hz, zst_p]) zst_o] at hP1
  exact k H1 locs1 ls hl hP1 hS1
