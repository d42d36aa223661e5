/-! tour of the class -/
theorem pu_l437 : tw_ln (436 + 1) = 9 := by decide +kernel
theorem pu_l439 : tw_ln (438 + 1) = 90 := by decide +kernel
theorem pu_l441 : tw_ln (440 + 1) = 4608 := by decide +kernel
def pu_F12 (k : Nat) : Prop := k = 137 ∨ k = 139 ∨ k = 439
theorem pu_9 {x y : Nat} : Int32.ofNat x * (9 : Int32) + Int32.ofNat y = Int32.ofNat (x * 9 + y) := by
  show Int32.ofNat x * Int32.ofNat 9 + Int32.ofNat y = _
  rw [pu_mul, pu_add]
/-- the distance over land from a cell -/
def pu_dd (a : Nat → Int32) (w h s : Nat) : Nat → Int := (pu_far (pu_land a) w h s).1
theorem pu_dd_rng {a : Nat → Int32} {w h nb nc s c : Nat} (H : pu_WF a w h nb nc) (hs : s < w * h) (hc : c < w * h) : -1 ≤ pu_dd a w h s c ∧ pu_dd a w h s c ≤ 400 := by
  obtain ⟨c0, hB⟩ := pu_far_BI (g := pu_land a) H.1.2.2.2.1 H.1.2.2.2.2.2 hs
  exact hB.2.2 c hc
/-- what the least so far is held as -/
def pu_mC (x : Int32) : Option Int → Int32 | none => x | some v => Int32.ofInt v
theorem pu_mC_S {p : Nat → Bool} {f : Nat → Int} {m : Nat} {x : Int32} (hp : p m = true) (hx : 1000000 ≤ x.toInt) (hr : -1000 ≤ f m ∧ f m < 1000000) (hv : ∀ v, pu_mo p f m = some v → -1000 ≤ v ∧ v < 1000000) : (if Int32.ofInt (f m) < pu_mC x (pu_mo p f m) then Int32.ofInt (f m) else pu_mC x (pu_mo p f m)) = pu_mC x (pu_mo p f (m + 1)) := by
  rw [pu_mo_S, if_pos hp]
  cases e : pu_mo p f m with
  | none =>
    refine if_pos ?_
    show Int32.ofInt (f m) < x
    rw [Int32.lt_iff_toInt_lt, pu_int (by omega) (by omega)]
    omega
  | some v =>
    have := hv v e
    show (if Int32.ofInt (f m) < Int32.ofInt v then Int32.ofInt (f m) else Int32.ofInt v) = Int32.ofInt (if f m < v then f m else v)
    by_cases c : f m < v
    · rw [if_pos c, if_pos]
      rw [Int32.lt_iff_toInt_lt, pu_int (by omega) (by omega), pu_int (by omega) (by omega)]
      exact c
    · rw [if_neg c, if_neg]
      rw [Int32.lt_iff_toInt_lt, pu_int (by omega) (by omega), pu_int (by omega) (by omega)]
      exact c
theorem pu_addII {x y : Int} : Int32.ofInt x + Int32.ofInt y = Int32.ofInt (x + y) := (Int32.ofInt_add x y).symm
/-- the fewest over all -/
def pu_best (n : Nat) (F : Nat → Int) (B : Nat → Nat → Int) : Option Int := pu_mo (fun _ => true) (fun k => pu_tab n F B (2 ^ n) (2 ^ n - 1) k) n
theorem pu_all1 {K k : Nat} (hK : k < K) : (2 ^ K - 1).testBit k = true := by
  rw [Nat.testBit_two_pow_sub_one]
  exact decide_eq_true hK
theorem pu_shl1 : ∀ K, K < 10 → ((1 : Int32) <<< (Int32.ofNat K &&& 31)) - (1 : Int32) = Int32.ofNat (2 ^ K - 1) := fun K hK => of_decide_eq_true (tw_rng (n := 10) (p := fun K => decide (((1 : Int32) <<< (Int32.ofNat K &&& 31)) - (1 : Int32) = Int32.ofNat (2 ^ K - 1))) (by decide +kernel) K hK)
def pu_F13 (k : Nat) : Prop := k = 441
