/-! spots and numbers -/
theorem pu_spotAt {σ : tw_Sg} {x y : Nat} : tw_P_X11_spotAt (Int32.ofNat x) (Int32.ofNat y) σ = some (Int32.ofNat ((y + 1) * 32 + x + 1)) := by
  show some ((((Int32.ofNat y + Int32.ofNat 1) * Int32.ofNat 32) + Int32.ofNat x) + Int32.ofNat 1) = _
  rw [pu_add, pu_mul, pu_add, pu_add]
theorem pu_rowOf {σ : tw_Sg} {s : Nat} (h : s < 2147483648) : tw_P_X11_rowOf (Int32.ofNat s) σ = some (Int32.ofNat (s / 32)) := by
  show some (Int32.ofNat s >>> ((5 : Int32) &&& 31)) = _
  rw [pu_sh5 h]
theorem pu_colOf {σ : tw_Sg} {s : Nat} (h : s < 2147483648) : tw_P_X11_columnOf (Int32.ofNat s) σ = some (Int32.ofNat (s % 32)) := by
  show some (Int32.ofNat s &&& (31 : Int32)) = _
  rw [pu_and31 h]
def pu_in (a b s : Nat) : Bool := decide (a % 32 ≤ s % 32 ∧ s % 32 ≤ b % 32 ∧ a / 32 ≤ s / 32 ∧ s / 32 ≤ b / 32)
theorem pu_isBetween {σ : tw_Sg} {a b s : Nat} (ha : a < 2147483648) (hb : b < 2147483648) (hs : s < 2147483648) : tw_P_X11_isBetween (Int32.ofNat a) (Int32.ofNat b) (Int32.ofNat s) σ = some (if pu_in a b s then 1 else 0) := by
  dsimp only [tw_P_X11_isBetween, tw_jn]
  rw [pu_colOf hs, pu_colOf ha, pu_colOf hb, pu_rowOf hs, pu_rowOf ha, pu_rowOf hb]
  dsimp only [tw_bd]
  unfold pu_in
  by_cases h1 : a % 32 ≤ s % 32
  · rw [if_neg (by rw [pu_ltn (by omega) (by omega)]; omega)]
    by_cases h2 : s % 32 ≤ b % 32
    · rw [if_neg (by rw [pu_ltn (by omega) (by omega)]; omega)]
      by_cases h3 : a / 32 ≤ s / 32
      · rw [if_neg (by rw [pu_ltn (by omega) (by omega)]; omega)]
        by_cases h4 : s / 32 ≤ b / 32
        · rw [if_neg (by rw [pu_ltn (by omega) (by omega)]; omega), decide_eq_true ⟨h1, h2, h3, h4⟩]; rfl
        · rw [if_pos (by rw [pu_ltn (by omega) (by omega)]; omega), decide_eq_false (by omega)]; rfl
      · rw [if_pos (by rw [pu_ltn (by omega) (by omega)]; omega), decide_eq_false (by omega)]; rfl
    · rw [if_pos (by rw [pu_ltn (by omega) (by omega)]; omega), decide_eq_false (by omega)]; rfl
  · rw [if_pos (by rw [pu_ltn (by omega) (by omega)]; omega), decide_eq_false (by omega)]; rfl
theorem pu_isBetween_any {σ : tw_Sg} {a b s : Int32} : ∃ t : Bool, tw_P_X11_isBetween a b s σ = some (if t then 1 else 0) := by
  dsimp only [tw_P_X11_isBetween, tw_jn, tw_P_X11_columnOf, tw_P_X11_rowOf, tw_bd]
  by_cases h1 : s &&& 31 < a &&& 31
  · rw [if_pos h1]; exact ⟨false, rfl⟩
  · rw [if_neg h1]
    by_cases h2 : b &&& 31 < s &&& 31
    · rw [if_pos h2]; exact ⟨false, rfl⟩
    · rw [if_neg h2]
      by_cases h3 : s >>> ((5 : Int32) &&& 31) < a >>> ((5 : Int32) &&& 31)
      · rw [if_pos h3]; exact ⟨false, rfl⟩
      · rw [if_neg h3]
        by_cases h4 : b >>> ((5 : Int32) &&& 31) < s >>> ((5 : Int32) &&& 31)
        · rw [if_pos h4]; exact ⟨false, rfl⟩
        · rw [if_neg h4]; exact ⟨true, rfl⟩
theorem pu_ne0 {a : Nat} (h : 0 < a) (h1 : a < 2147483648) : ¬ Int32.ofNat a = 0 := by
  rw [show (0 : Int32) = Int32.ofNat 0 from rfl, pu_eq h1 (by decide)]
  omega
/-- the spot of the cell c on a map of width w, and back -/
def pu_sp (w c : Nat) : Nat := (c / w + 1) * 32 + c % w + 1
theorem pu_numberOf0 {σ : tw_Sg} {th : Nat} : tw_P_X2_numberOf th (0 : Int32) σ = some (-1) := by
  dsimp only [tw_P_X2_numberOf, tw_jn]
  rw [if_neg (not_not_intro rfl)]
theorem pu_sp_row {w c : Nat} (hw : 0 < w) (hw2 : w ≤ 20) : pu_sp w c / 32 = c / w + 1 ∧ pu_sp w c % 32 = c % w + 1 := by
  have : c % w < w := Nat.mod_lt _ hw
  unfold pu_sp
  constructor <;> omega
theorem pu_numberOf {σ : tw_Sg} {th w c : Nat} (hσ : σ th 0 = Int32.ofNat w) (hw : 0 < w) (hw2 : w ≤ 20) (hc : c < 400) : tw_P_X2_numberOf th (Int32.ofNat (pu_sp w c)) σ = some (Int32.ofNat c) := by
  obtain ⟨h1, h2⟩ := pu_sp_row (c := c) hw hw2
  have hd : c / w ≤ c := Nat.div_le_self _ _
  have hm : c % w < w := Nat.mod_lt _ hw
  have he := Nat.div_add_mod c w
  have e3 : pu_sp w c = (c / w + 1) * 32 + c % w + 1 := rfl
  generalize c / w = q at *
  generalize c % w = r at *
  generalize pu_sp w c = s at *
  dsimp only [tw_P_X2_numberOf, tw_jn]
  rw [if_pos (pu_ne0 (by omega) (by omega)), pu_rowOf (by omega), pu_colOf (by omega), h1, h2, hσ]
  dsimp only [tw_bd]
  show some (((Int32.ofNat (q + 1) - Int32.ofNat 1) * Int32.ofNat w + Int32.ofNat (r + 1)) - Int32.ofNat 1) = _
  rw [pu_sub (by omega), pu_mul, pu_add, pu_sub (by omega)]
  congr 2
  rw [show q + 1 - 1 = q from by omega, Nat.mul_comm]
  omega
theorem pu_and7 (t : Int) : Int32.ofInt t &&& (7 : Int32) = Int32.ofNat (t % 8).toNat := by
  apply Int32.toBitVec_inj.1
  show BitVec.ofInt 32 t &&& 7#32 = BitVec.ofNat 32 (t % 8).toNat
  apply BitVec.eq_of_toNat_eq
  rw [BitVec.toNat_and, BitVec.toNat_ofInt, BitVec.toNat_ofNat, BitVec.toNat_ofNat]
  rw [show 7 % 2 ^ 32 = 2 ^ 3 - 1 from rfl, Nat.and_two_pow_sub_one_eq_mod]
  omega
/-- the eight neighbours of a spot -/
def pu_nb (s b : Nat) : Nat := match b with
  | 0 => s - 32 | 1 => s - 31 | 2 => s + 1 | 3 => s + 33 | 4 => s + 32 | 5 => s + 31 | 6 => s - 1 | _ => s - 33
theorem pu_addneg {s k : Nat} (h : k ≤ s) : Int32.ofNat s + (-(Int32.ofNat k)) = Int32.ofNat (s - k) := by
  rw [← Int32.sub_eq_add_neg, pu_sub h]
theorem pu_neigh {σ : tw_Sg} {s b : Nat} {x : Int32} (hs : 33 ≤ s) (hx : x &&& (7 : Int32) = Int32.ofNat b) (hb : b < 8) : tw_P_X11_neighbour (Int32.ofNat s) x σ = some (Int32.ofNat (pu_nb s b)) := by
  dsimp only [tw_P_X11_neighbour, tw_lt, tw_jn]
  rw [hx, if_neg (by rw [show (8 : Int32) = Int32.ofNat 8 from rfl, pu_le (by decide) (by omega)]; omega), pu_ok (by omega) hb, pu_n (by omega)]
  show some (Int32.ofNat s + tw_off b) = _
  match b, hb with
  | 0, _ => exact congrArg some (pu_addneg (k := 32) (by omega))
  | 1, _ => exact congrArg some (pu_addneg (k := 31) (by omega))
  | 2, _ => exact congrArg some (pu_add s 1)
  | 3, _ => exact congrArg some (pu_add s 33)
  | 4, _ => exact congrArg some (pu_add s 32)
  | 5, _ => exact congrArg some (pu_add s 31)
  | 6, _ => exact congrArg some (pu_addneg (k := 1) (by omega))
  | 7, _ => exact congrArg some (pu_addneg (k := 33) (by omega))
/-! copies -/
def pu_cpA (σ : tw_Sg) (A R : Nat) : tw_Sg := tw_upA σ A (fun j => if j < tw_ln A then σ R j else σ A j)
theorem pu_cpA_n {σ : tw_Sg} {A R k : Nat} (h : k ≠ A) : pu_cpA σ A R k = σ k := tw_upA_n h
theorem pu_cpA_s {σ : tw_Sg} {A R i : Nat} (h : i < tw_ln A) : pu_cpA σ A R A i = σ R i := by
  unfold pu_cpA
  rw [tw_upA_s, if_pos h]
theorem pu_cpyeq {f g : Nat → Int32} {n : Nat} : va_cpy f g 0 0 n = fun j => if j < n then f j else g j := by
  funext j
  unfold va_cpy
  by_cases h : j < n
  · rw [if_pos ⟨Nat.zero_le _, by omega⟩, if_pos h]; congr 1; omega
  · rw [if_neg (by omega), if_neg h]
theorem pu_cpo {n m : Nat} (h : n ≤ m) (hm : m < 100000) : tw_cpo (0 : Int32) (0 : Int32) (Int32.ofNat n) m m = true := by
  unfold tw_cpo
  rw [pu_n (by omega), decide_eq_true (pu_nn (a := n) (by omega))]
  simp
  exact h
theorem pu_rcopy {σ : tw_Sg} {th r0 N : Nat} (h1 : tw_ln (th + 1) = N) (h2 : tw_ln (r0 + 1) = N) (hN : N < 100000) : tw_P_X7_copyFrom th r0 σ = some (pu_cpA σ (th + 1) (r0 + 1)) := by
  dsimp only [tw_P_X7_copyFrom, tw_lt]
  rw [h1, h2, if_neg (by rw [pu_ltn (by omega) (by omega)]; omega), pu_cpo (Nat.le_refl _) hN]
  show some (tw_upA σ (th + 1) (va_cpy (σ (r0 + 1)) (σ (th + 1)) (Int32.toNatClampNeg (Int32.ofNat 0)) (Int32.toNatClampNeg (Int32.ofNat 0)) (Int32.toNatClampNeg (Int32.ofNat N)))) = _
  rw [pu_n (by decide), pu_n (by omega), pu_cpyeq]
  unfold pu_cpA
  rw [h1]
theorem pu_ccopy {σ : tw_Sg} {th r0 : Nat} (hk : tw_kd th = 0) (hk0 : tw_kd r0 = 0) : tw_P_X0_copyFrom th r0 σ = some (pu_cpA σ (th + 1) (r0 + 1)) := by
  dsimp only [tw_P_X0_copyFrom, tw_lt]
  rw [pu_l22 hk, pu_l22 hk0, if_neg (by rw [pu_ltn (by omega) (by omega)]; omega), pu_cpo (Nat.le_refl _) (by decide)]
  show some (tw_upA σ (th + 1) (va_cpy (σ (r0 + 1)) (σ (th + 1)) (Int32.toNatClampNeg (Int32.ofNat 0)) (Int32.toNatClampNeg (Int32.ofNat 0)) (Int32.toNatClampNeg (Int32.ofNat 22)))) = _
  rw [pu_n (by decide), pu_n (by decide), pu_cpyeq]
  unfold pu_cpA
  rw [pu_l22 hk]
