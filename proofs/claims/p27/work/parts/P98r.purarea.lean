/-! the reference: an area, water -/
section RAREA
variable {σ σ0 : tw_Sg} {B : Nat → Nat} {L p n w h : Nat} {E : Option (Int32 × Nat)} {A A' : Nat → Int32}
theorem pu_m1I {m : Nat} (h1 : 0 < m) (h2 : m ≤ 20) : (Int32.ofNat m - (1 : Int32)).toInt = ((m - 1 : Nat) : Int) := by
  rw [show Int32.ofNat m - (1 : Int32) = Int32.ofNat (m - 1) from pu_sub (b := 1) h1]
  exact pu_toInt (by omega)
theorem pu_num_le : pu_num B L p ≤ 100000000 := pu_nv_le _
theorem pu_b1or {a b : Bool} : pu_b1 a ||| pu_b1 b = pu_b1 (a || b) := by cases a <;> cases b <;> decide
/-- water's end on either side -/
theorem pu_fs_comm {E : Option (Int32 × Nat)} {s l : Prop} {c1 c2 : Int32} {o : Nat} : pu_fs (pu_fs E (s → l) c2 o) s c1 o = pu_fs (pu_fs E s c1 o) l c2 o := by
  cases E with
  | some e => rfl
  | none =>
    by_cases h1 : s
    · by_cases h2 : l
      · rw [pu_fs_y (fun _ => h2), pu_fs_y h1, pu_fs_y h2]
      · rw [pu_fs_n (fun z => h2 (z h1)), pu_fs_y h1, pu_fs_n h2]
        rfl
    · rw [pu_fs_y (fun z => absurd z h1), pu_fs_n h1]
      rfl
end RAREA
