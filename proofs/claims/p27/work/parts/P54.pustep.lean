/-! paces: the reference's data, the turning areas, a pace on either side -/
def pu_wfm (a : Nat → Int32) (w h : Nat) : Prop := a 0 = Int32.ofNat w ∧ a 1 = Int32.ofNat h ∧ 0 < w ∧ w ≤ 20 ∧ 0 < h ∧ h ≤ 20
theorem pu_wfm_le {a : Nat → Int32} {w h : Nat} (hm : pu_wfm a w h) : w * h ≤ 400 := by
  obtain ⟨-, -, -, h2, -, h4⟩ := hm
  calc w * h ≤ 20 * 20 := Nat.mul_le_mul h2 h4
    _ = 400 := rfl
theorem pu_c0 : Int32.toNatClampNeg (0 : Int32) = 0 := rfl
theorem pu_c1 : Int32.toNatClampNeg (1 : Int32) = 1 := rfl
theorem pu_c2 : Int32.toNatClampNeg (2 : Int32) = 2 := rfl
theorem pu_c3 : Int32.toNatClampNeg (3 : Int32) = 3 := rfl
theorem pu_ok0 : tw_ok (0 : Int32) 1028 = true := by decide
theorem pu_ok1 : tw_ok (1 : Int32) 1028 = true := by decide
theorem pu_ok2 : tw_ok (2 : Int32) 1028 = true := by decide
theorem pu_ok3 : tw_ok (3 : Int32) 1028 = true := by decide
theorem pu_ckt {ρ : Type} {E : Option ρ} : tw_ck true E = E := rfl
/-! the turning areas -/
def pu_inb (a : Nat → Int32) (w k c : Nat) : Bool := decide ((a (816 + 5 * k)).toInt ≤ ((c % w : Nat) : Int) ∧ ((c % w : Nat) : Int) ≤ (a (816 + 5 * k + 2)).toInt) && decide ((a (816 + 5 * k + 1)).toInt ≤ ((c / w : Nat) : Int) ∧ ((c / w : Nat) : Int) ≤ (a (816 + 5 * k + 3)).toInt)
def pu_tw (a : Nat → Int32) (w c : Nat) : Nat → Int
  | 0 => 0
  | k + 1 => pu_tw a w c k + if pu_inb a w k c then (a (816 + 5 * k + 4)).toInt else 0
def pu_wfb (a : Nat → Int32) (w h nb : Nat) : Prop := a 2 = Int32.ofNat nb ∧ nb ≤ 8 ∧ ∀ k, k < nb → ∃ l t r o : Nat, a (816 + 5 * k) = Int32.ofNat l ∧ a (816 + 5 * k + 1) = Int32.ofNat t ∧ a (816 + 5 * k + 2) = Int32.ofNat r ∧ a (816 + 5 * k + 3) = Int32.ofNat o ∧ l ≤ r ∧ r < w ∧ t ≤ o ∧ o < h ∧ -3 ≤ (a (816 + 5 * k + 4)).toInt ∧ (a (816 + 5 * k + 4)).toInt ≤ 3
theorem pu_tw_rng {a : Nat → Int32} {w h nb c : Nat} (hb : pu_wfb a w h nb) : ∀ k, k ≤ nb → -(3 * (k : Int)) ≤ pu_tw a w c k ∧ pu_tw a w c k ≤ 3 * (k : Int)
  | 0, _ => ⟨by simp [pu_tw], by simp [pu_tw]⟩
  | k + 1, hk => by
    have ih := pu_tw_rng (c := c) hb k (by omega)
    obtain ⟨l, t, r, o, -, -, -, -, -, -, -, -, h9, h10⟩ := hb.2.2 k (by omega)
    show _ ≤ pu_tw a w c k + (if _ then _ else _) ∧ pu_tw a w c k + (if _ then _ else _) ≤ _
    split <;> omega
def pu_step (a : Nat → Int32) (w h nb c b : Nat) : Option Nat := pu_nbr (pu_land a) w h c (((b : Int) + pu_tw a w c nb) % 8).toNat
theorem pu_step_lt {a : Nat → Int32} {w h nb c b c' : Nat} (hm : pu_wfm a w h) (hc : c < w * h) (hs : pu_step a w h nb c b = some c') : c' < w * h := pu_nbr_lt hm.2.2.2.1 hm.2.2.2.2.2 hc (by omega) hs
theorem pu_step_land {a : Nat → Int32} {w h nb c b c' : Nat} (hs : pu_step a w h nb c b = some c') : pu_land a c' = true := (pu_nbr_some hs).2
theorem pu_addx {z : Int} {x : Int32} : Int32.ofInt z + x = Int32.ofInt (z + x.toInt) := by
  rw [Int32.ofInt_add, Int32.ofInt_toInt]
/-! the class's pace -/
def pu_twOK (σ : tw_Sg) (a : Nat → Int32) (w h nb : Nat) : Prop := ∀ c, c < w * h → σ 35 (pu_sp w c) = Int32.ofInt (pu_tw a w c nb)
theorem pu_cstep {σ : tw_Sg} {a : Nat → Int32} {w h nb c b : Nat} (hm : pu_wfm a w h) (hl : pu_set σ 3 w (w * h) (pu_land a)) (ht : pu_twOK σ a w h nb) (hc : c < w * h) (hb : b < 8) : tw_P_X10_step (Int32.ofNat (pu_sp w c)) (Int32.ofNat b) σ = some (pu_eS w (pu_step a w h nb c b)) := by
  obtain ⟨hW, hH, w1, w2, h1, h2⟩ := hm
  have hs := pu_sp_rng w2 h2 hc
  dsimp only [tw_P_X10_step, tw_lt, tw_jn]
  rw [pu_get (N := 704) (by decide +kernel) (by decide) (by omega), ht c hc]
  dsimp only [tw_bd]
  have hb8 : (((b : Int) + pu_tw a w c nb) % 8).toNat < 8 := by omega
  rw [pu_neigh hs.1 (b := (((b : Int) + pu_tw a w c nb) % 8).toNat) (by rw [pu_addI, pu_and7]) hb8]
  dsimp only []
  obtain ⟨g1, g2⟩ := pu_has_nb (th := 2) (by decide +kernel) w2 h2 hc hb8 hl
  rw [g1]
  dsimp only []
  unfold pu_step
  cases hn : pu_nbr (pu_land a) w h c (((b : Int) + pu_tw a w c nb) % 8).toNat with
  | none => rfl
  | some c' => rw [g2 c' hn]; rfl
