theorem pu_mC_R {p : Nat → Bool} {f : Nat → Int} {m : Nat} {x : Int32} (hp : p m = true) (hx : 1000000 ≤ x.toInt) (hr : -1000 ≤ f m ∧ f m < 1000000) (hv : ∀ v, pu_mo p f m = some v → -1000 ≤ v ∧ v < 1000000) : (if Int32.ofInt (f m) ≤ pu_mC x (pu_mo p f m) then Int32.ofInt (f m) else pu_mC x (pu_mo p f m)) = pu_mC x (pu_mo p f (m + 1)) := by
  rw [← pu_mC_S hp hx hr hv]
  by_cases c : Int32.ofInt (f m) < pu_mC x (pu_mo p f m)
  · rw [if_pos c, if_pos (Int32.le_of_lt c)]
  · rw [if_neg c]
    by_cases c2 : Int32.ofInt (f m) ≤ pu_mC x (pu_mo p f m)
    · rw [if_pos c2]
      exact Int32.le_antisymm c2 (Int32.not_lt.mp c)
    · rw [if_neg c2]
def pu_F14 (k : Nat) : Prop := 524 ≤ k ∧ k < 1036
