theorem pu_mC_R {p : Nat → Bool} {f : Nat → Int} {m : Nat} {x : Int32} (hp : p m = true) (hx : 1000000 ≤ x.toInt) (hr : -1000 ≤ f m ∧ f m < 1000000) (hv : ∀ v, pu_mo p f m = some v → -1000 ≤ v ∧ v < 1000000) : (if Int32.ofInt (f m) ≤ pu_mC x (pu_mo p f m) then Int32.ofInt (f m) else pu_mC x (pu_mo p f m)) = pu_mC x (pu_mo p f (m + 1)) := by
  rw [← pu_mC_S hp hx hr hv]
  by_cases c : Int32.ofInt (f m) < pu_mC x (pu_mo p f m)
  · rw [if_pos c, if_pos (Int32.le_of_lt c)]
  · rw [if_neg c]
    by_cases c2 : Int32.ofInt (f m) ≤ pu_mC x (pu_mo p f m)
    · rw [if_pos c2]
      exact Int32.le_antisymm c2 (Int32.not_lt.mp c)
    · rw [if_neg c2]
theorem pu_l511 : tw_ln 511 = 9 := by decide +kernel
theorem pu_l512 : tw_ln 512 = 9 := by decide +kernel
theorem pu_l513 : tw_ln 513 = 9 := by decide +kernel
theorem pu_l523 : tw_ln 523 = 512 := by decide +kernel
theorem pu_lB {i : Nat} (h : i < 9) : tw_ln (513 + 1 + 1 * i) = 9 := eq_of_beq (tw_rng (n := 9) (p := fun i => tw_ln (513 + 1 + 1 * i) == 9) (by decide +kernel) i h)
theorem pu_lT {s : Nat} (h : s < 512) : tw_ln (523 + 1 + 1 * s) = 9 := eq_of_beq (tw_rng (n := 512) (p := fun s => tw_ln (523 + 1 + 1 * s) == 9) (by decide +kernel) s h)
def pu_F14 (k : Nat) : Prop := 524 ≤ k ∧ k < 1036
