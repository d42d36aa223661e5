/-! paces: the reference's data, the turning areas, a pace on either side -/
def pu_wfm (a : Nat → Int32) (w h : Nat) : Prop := a 0 = Int32.ofNat w ∧ a 1 = Int32.ofNat h ∧ 0 < w ∧ w ≤ 20 ∧ 0 < h ∧ h ≤ 20
theorem pu_wfm_le {a : Nat → Int32} {w h : Nat} (hm : pu_wfm a w h) : w * h ≤ 400 := by
  obtain ⟨-, -, -, h2, -, h4⟩ := hm
  calc w * h ≤ 20 * 20 := Nat.mul_le_mul h2 h4
    _ = 400 := rfl
theorem pu_c0 : Int32.toNatClampNeg (0 : Int32) = 0 := rfl
theorem pu_c1 : Int32.toNatClampNeg (1 : Int32) = 1 := rfl
theorem pu_c2 : Int32.toNatClampNeg (2 : Int32) = 2 := rfl
theorem pu_c3 : Int32.toNatClampNeg (3 : Int32) = 3 := rfl
theorem pu_l444 : tw_ln 444 = 1028 := by decide +kernel
theorem pu_l445 : tw_ln 445 = 1028 := by decide +kernel
theorem pu_ok0 : tw_ok (0 : Int32) 1028 = true := by decide
theorem pu_ok1 : tw_ok (1 : Int32) 1028 = true := by decide
theorem pu_ok2 : tw_ok (2 : Int32) 1028 = true := by decide
theorem pu_ok3 : tw_ok (3 : Int32) 1028 = true := by decide
theorem pu_ckt {ρ : Type} {E : Option ρ} : tw_ck true E = E := rfl
theorem pu_rneigh {σ : tw_Sg} {w h c b : Nat} (hm : pu_wfm (σ 444) w h) (hc : c < w * h) (hb : b < 8) : tw_P_X12_neighbour (Int32.ofNat c) (Int32.ofNat b) σ = some (pu_eR (pu_nbr (pu_land (σ 444)) w h c b)) := by
  have hle := pu_wfm_le hm
  obtain ⟨hW, hH, w1, w2, h1, h2⟩ := hm
  obtain ⟨-, c2, c3, -⟩ := pu_cell hc
  have hx := pu_exy (b := b)
  dsimp only [tw_P_X12_neighbour, tw_lt, tw_jn]
  rw [pu_l444, pu_ok0, pu_ok1, pu_c0, pu_c1, hW, hH, pu_rem (by omega) (by omega), pu_div (by omega) (by omega), pu_east hb, pu_south hb, decide_eq_false (pu_ne0 w1 (by omega))]
  simp only [Bool.not_false, pu_ckt]
  dsimp only [tw_bd]
  have e1 : Int32.ofNat w - (1 : Int32) = Int32.ofNat (w - 1) := pu_sub w1
  have e2 : Int32.ofNat h - (1 : Int32) = Int32.ofNat (h - 1) := pu_sub h1
  unfold pu_nbr pu_gnb
  generalize c / w = q at *
  generalize c % w = r at *
  generalize hex : pu_ex b = ex at *
  generalize hsy : pu_sy b = sy at *
  rw [pu_addI, pu_addI, e1, e2, pu_in_eq, pu_in_eq]
  dsimp only []
  rw [pu_int (by omega) (by omega), pu_int (by omega) (by omega), pu_toInt (by omega), pu_toInt (by omega), Int32.toInt_zero]
  by_cases hX : 1 ≤ r + ex ∧ r + ex ≤ w
  · have t1 : (0 : Int) ≤ (r : Int) + ((ex : Int) - 1) ∧ (r : Int) + ((ex : Int) - 1) ≤ ((w - 1 : Nat) : Int) := by omega
    rw [if_pos t1, if_neg (show ¬ (1 : Int32) = 0 by decide)]
    obtain ⟨x, hx0⟩ : ∃ x, r + ex = x + 1 := ⟨r + ex - 1, by omega⟩
    have e3 : (r : Int) + ((ex : Int) - 1) = (x : Int) := by omega
    by_cases hY : 1 ≤ q + sy ∧ q + sy ≤ h
    · have t2 : (0 : Int) ≤ (q : Int) + ((sy : Int) - 1) ∧ (q : Int) + ((sy : Int) - 1) ≤ ((h - 1 : Nat) : Int) := by omega
      rw [if_pos t2, if_pos (show ¬ (1 : Int32) = 0 by decide)]
      obtain ⟨y, hy0⟩ : ∃ y, q + sy = y + 1 := ⟨q + sy - 1, by omega⟩
      have e4 : (q : Int) + ((sy : Int) - 1) = (y : Int) := by omega
      have e5 : q + sy - 1 = y := by omega
      have e6 : r + ex - 1 = x := by omega
      rw [e3, e4, Int32.ofInt_eq_ofNat, Int32.ofInt_eq_ofNat, pu_rcellAt hW, if_pos ⟨hX.1, hX.2, hY.1, hY.2⟩, e5, e6]
      dsimp only []
      have hlt := pu_cell_lt (w := w) (h := h) (q := y) (r := x) (by omega) (by omega)
      rw [pu_rland (by omega)]
      dsimp only []
      cases hl : pu_land (σ 444) (y * w + x)
      · simp [pu_eR]
      · simp [pu_eR]
    · have t2 : ¬ ((0 : Int) ≤ (q : Int) + ((sy : Int) - 1) ∧ (q : Int) + ((sy : Int) - 1) ≤ ((h - 1 : Nat) : Int)) := by omega
      rw [if_neg t2, if_neg (not_not_intro rfl), if_neg (fun z => hY ⟨z.2.2.1, z.2.2.2⟩)]
      rfl
  · have t1 : ¬ ((0 : Int) ≤ (r : Int) + ((ex : Int) - 1) ∧ (r : Int) + ((ex : Int) - 1) ≤ ((w - 1 : Nat) : Int)) := by omega
    rw [if_neg t1, if_pos rfl, if_neg (fun z => hX ⟨z.1, z.2.1⟩)]
    rfl
/-! the turning areas -/
def pu_inb (a : Nat → Int32) (w k c : Nat) : Bool := decide ((a (816 + 5 * k)).toInt ≤ ((c % w : Nat) : Int) ∧ ((c % w : Nat) : Int) ≤ (a (816 + 5 * k + 2)).toInt) && decide ((a (816 + 5 * k + 1)).toInt ≤ ((c / w : Nat) : Int) ∧ ((c / w : Nat) : Int) ≤ (a (816 + 5 * k + 3)).toInt)
def pu_tw (a : Nat → Int32) (w c : Nat) : Nat → Int
  | 0 => 0
  | k + 1 => pu_tw a w c k + if pu_inb a w k c then (a (816 + 5 * k + 4)).toInt else 0
def pu_wfb (a : Nat → Int32) (w h nb : Nat) : Prop := a 2 = Int32.ofNat nb ∧ nb ≤ 8 ∧ ∀ k, k < nb → ∃ l t r o : Nat, a (816 + 5 * k) = Int32.ofNat l ∧ a (816 + 5 * k + 1) = Int32.ofNat t ∧ a (816 + 5 * k + 2) = Int32.ofNat r ∧ a (816 + 5 * k + 3) = Int32.ofNat o ∧ l ≤ r ∧ r < w ∧ t ≤ o ∧ o < h ∧ -3 ≤ (a (816 + 5 * k + 4)).toInt ∧ (a (816 + 5 * k + 4)).toInt ≤ 3
theorem pu_tw_rng {a : Nat → Int32} {w h nb c : Nat} (hb : pu_wfb a w h nb) : ∀ k, k ≤ nb → -(3 * (k : Int)) ≤ pu_tw a w c k ∧ pu_tw a w c k ≤ 3 * (k : Int)
  | 0, _ => ⟨by simp [pu_tw], by simp [pu_tw]⟩
  | k + 1, hk => by
    have ih := pu_tw_rng (c := c) hb k (by omega)
    obtain ⟨l, t, r, o, -, -, -, -, -, -, -, -, h9, h10⟩ := hb.2.2 k (by omega)
    show _ ≤ pu_tw a w c k + (if _ then _ else _) ∧ pu_tw a w c k + (if _ then _ else _) ≤ _
    split <;> omega
def pu_step (a : Nat → Int32) (w h nb c b : Nat) : Option Nat := pu_nbr (pu_land a) w h c (((b : Int) + pu_tw a w c nb) % 8).toNat
theorem pu_step_lt {a : Nat → Int32} {w h nb c b c' : Nat} (hm : pu_wfm a w h) (hc : c < w * h) (hs : pu_step a w h nb c b = some c') : c' < w * h := pu_nbr_lt hm.2.2.2.1 hm.2.2.2.2.2 hc (by omega) hs
theorem pu_step_land {a : Nat → Int32} {w h nb c b c' : Nat} (hs : pu_step a w h nb c b = some c') : pu_land a c' = true := (pu_nbr_some hs).2
theorem pu_addx {z : Int} {x : Int32} : Int32.ofInt z + x = Int32.ofInt (z + x.toInt) := by
  rw [Int32.ofInt_add, Int32.ofInt_toInt]
theorem pu_bendAt {σ : tw_Sg} {k : Nat} : tw_P_X12_bendAt (Int32.ofNat k) σ = some (Int32.ofNat (816 + 5 * k)) := by
  show some (Int32.ofNat 816 + Int32.ofNat 5 * Int32.ofNat k) = _
  rw [pu_mul, pu_add]
theorem pu_rstep {σ : tw_Sg} {w h nb c b n : Nat} (hm : pu_wfm (σ 444) w h) (hbn : pu_wfb (σ 444) w h nb) (hc : c < w * h) (hb : b < 8) (hn : 100 < n) : tw_P_X12_step n (Int32.ofNat c) (Int32.ofNat b) σ = some (pu_eR (pu_step (σ 444) w h nb c b)) := by
  have hle := pu_wfm_le hm
  have hm0 := hm
  obtain ⟨hW, hH, w1, w2, h1, h2⟩ := hm
  obtain ⟨hN, hn8, hbk⟩ := id hbn
  obtain ⟨-, c2, c3, -⟩ := pu_cell hc
  dsimp only [tw_P_X12_step, tw_lt, tw_jn]
  rw [pu_l444, pu_ok0, pu_ok2, pu_c0, pu_c2, hW, hN, pu_rem (by omega) (by omega), pu_div (by omega) (by omega), decide_eq_false (pu_ne0 w1 (by omega))]
  simp only [Bool.not_false, pu_ckt]
  have hlast := pu_tw_rng (c := c) hbn nb (Nat.le_refl _)
  have key := pu_for (body := fun (k6 : (Int32 × Int32) → Option (Int32)) (a5 : Int32 × Int32) =>
      if Int32.ofNat nb ≤ a5.2 then (tw_ck (!decide ((8 : Int32) = 0)) (tw_bd (tw_P_X12_neighbour (Int32.ofNat c) (a5.1 - a5.1 / (8 : Int32) * (8 : Int32)) σ) (fun r7 => some r7)))
      else (tw_bd (tw_P_X12_bendAt a5.2 σ) (fun r8 => tw_ck (tw_ok r8 1028) (tw_ck (tw_ok (r8 + (2 : Int32)) 1028) (
        tw_bd (tw_P_X12_in (Int32.ofNat (c % w)) (σ 444 (Int32.toNatClampNeg r8)) (σ 444 (Int32.toNatClampNeg (r8 + (2 : Int32)))) σ) (fun r10 =>
        if r10 = 0 then (k6 (a5.1, a5.2 + (1 : Int32)))
        else (tw_ck (tw_ok (r8 + (1 : Int32)) 1028) (tw_ck (tw_ok (r8 + (3 : Int32)) 1028) (
          tw_bd (tw_P_X12_in (Int32.ofNat (c / w)) (σ 444 (Int32.toNatClampNeg (r8 + (1 : Int32)))) (σ 444 (Int32.toNatClampNeg (r8 + (3 : Int32)))) σ) (fun r14 =>
          if r14 = 0 then (k6 (a5.1, a5.2 + (1 : Int32)))
          else (tw_ck (tw_ok (r8 + (4 : Int32)) 1028) (k6 (a5.1 + (σ 444 (Int32.toNatClampNeg (r8 + (4 : Int32)))), a5.2 + (1 : Int32))))))))))))))
    nb (fun i => (Int32.ofInt ((b : Int) + 24 + pu_tw (σ 444) w c i), Int32.ofNat i)) (fun k i hi => ?_) (r := pu_eR (pu_step (σ 444) w h nb c b)) (fun k => ?_) (n := n) (by omega)
  · refine Eq.trans ?_ key
    congr 1
    show (Int32.ofNat b + (24 : Int32), (0 : Int32)) = (_, _)
    congr 1
    show Int32.ofNat b + Int32.ofNat 24 = Int32.ofInt ((b : Int) + 24 + 0)
    rw [pu_add, ← Int32.ofInt_eq_ofNat]
    congr 1
  · obtain ⟨l, t, r, o, e0, e1, e2, e3, l1, l2, l3, l4, -, -⟩ := hbk i hi
    dsimp only []
    rw [if_neg (by rw [pu_le (by omega) (by omega)]; omega), pu_bendAt]
    dsimp only [tw_bd]
    have a1 : Int32.ofNat (816 + 5 * i) + (1 : Int32) = Int32.ofNat (816 + 5 * i + 1) := pu_add _ 1
    have a2 : Int32.ofNat (816 + 5 * i) + (2 : Int32) = Int32.ofNat (816 + 5 * i + 2) := pu_add _ 2
    have a3 : Int32.ofNat (816 + 5 * i) + (3 : Int32) = Int32.ofNat (816 + 5 * i + 3) := pu_add _ 3
    have a4 : Int32.ofNat (816 + 5 * i) + (4 : Int32) = Int32.ofNat (816 + 5 * i + 4) := pu_add _ 4
    have a5 : Int32.ofNat i + (1 : Int32) = Int32.ofNat (i + 1) := pu_add _ 1
    rw [a1, a2, a3, a4, a5, pu_ok (by omega) (by omega), pu_ok (by omega) (by omega), pu_ok (by omega) (by omega), pu_ok (by omega) (by omega), pu_ok (by omega) (by omega), pu_n (by omega), pu_n (by omega), pu_n (by omega), pu_n (by omega), pu_n (by omega), pu_in_eq, pu_in_eq]
    simp only [pu_ckt]
    rw [pu_toInt (show c % w < 2147483648 by omega), pu_toInt (show c / w < 2147483648 by omega)]
    show _ = k (Int32.ofInt ((b : Int) + 24 + (pu_tw (σ 444) w c i + if pu_inb (σ 444) w i c then (σ 444 (816 + 5 * i + 4)).toInt else 0)), Int32.ofNat (i + 1))
    unfold pu_inb
    by_cases q1 : (σ 444 (816 + 5 * i)).toInt ≤ ((c % w : Nat) : Int) ∧ ((c % w : Nat) : Int) ≤ (σ 444 (816 + 5 * i + 2)).toInt
    · rw [if_pos q1, if_neg (show ¬ (1 : Int32) = 0 by decide), decide_eq_true q1, Bool.true_and]
      by_cases q2 : (σ 444 (816 + 5 * i + 1)).toInt ≤ ((c / w : Nat) : Int) ∧ ((c / w : Nat) : Int) ≤ (σ 444 (816 + 5 * i + 3)).toInt
      · rw [if_pos q2, if_neg (show ¬ (1 : Int32) = 0 by decide), decide_eq_true q2, if_pos rfl, pu_addx]
        congr 3
        omega
      · rw [if_neg q2, if_pos rfl, decide_eq_false q2, if_neg (by decide), Int.add_zero]
    · rw [if_neg q1, if_pos rfl, decide_eq_false q1, Bool.false_and, if_neg (by decide), Int.add_zero]
  · dsimp only []
    rw [if_pos ((pu_le (by omega) (by omega)).mpr (Nat.le_refl _))]
    have e : Int32.ofInt ((b : Int) + 24 + pu_tw (σ 444) w c nb) = Int32.ofNat ((b : Int) + 24 + pu_tw (σ 444) w c nb).toNat := by
      rw [← Int32.ofInt_eq_ofNat]; congr 1; omega
    have e8 : Int32.ofNat ((b : Int) + 24 + pu_tw (σ 444) w c nb).toNat - Int32.ofNat ((b : Int) + 24 + pu_tw (σ 444) w c nb).toNat / (8 : Int32) * (8 : Int32) = Int32.ofNat (((b : Int) + 24 + pu_tw (σ 444) w c nb).toNat % 8) := pu_rem (by omega) (by decide)
    rw [e, e8, pu_rneigh hm0 hc (Nat.mod_lt _ (by decide))]
    have e9 : ((b : Int) + 24 + pu_tw (σ 444) w c nb).toNat % 8 = (((b : Int) + pu_tw (σ 444) w c nb) % 8).toNat := by omega
    rw [e9]
    rfl
/-! the class's pace -/
def pu_twOK (σ : tw_Sg) (a : Nat → Int32) (w h nb : Nat) : Prop := ∀ c, c < w * h → σ 35 (pu_sp w c) = Int32.ofInt (pu_tw a w c nb)
theorem pu_cstep {σ : tw_Sg} {a : Nat → Int32} {w h nb c b : Nat} (hm : pu_wfm a w h) (hl : pu_set σ 3 w (w * h) (pu_land a)) (ht : pu_twOK σ a w h nb) (hc : c < w * h) (hb : b < 8) : tw_P_X10_step (Int32.ofNat (pu_sp w c)) (Int32.ofNat b) σ = some (pu_eS w (pu_step a w h nb c b)) := by
  obtain ⟨hW, hH, w1, w2, h1, h2⟩ := hm
  have hs := pu_sp_rng w2 h2 hc
  dsimp only [tw_P_X10_step, tw_lt, tw_jn]
  rw [pu_get (N := 704) (by decide +kernel) (by decide) (by omega), ht c hc]
  dsimp only [tw_bd]
  have hb8 : (((b : Int) + pu_tw a w c nb) % 8).toNat < 8 := by omega
  rw [pu_neigh hs.1 (b := (((b : Int) + pu_tw a w c nb) % 8).toNat) (by rw [pu_addI, pu_and7]) hb8]
  dsimp only []
  obtain ⟨g1, g2⟩ := pu_has_nb (th := 2) (by decide +kernel) w2 h2 hc hb8 hl
  rw [g1]
  dsimp only []
  unfold pu_step
  cases hn : pu_nbr (pu_land a) w h c (((b : Int) + pu_tw a w c nb) % 8).toNat with
  | none => rfl
  | some c' => rw [g2 c' hn]; rfl
