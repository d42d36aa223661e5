/-! the map: cells by number, spots, neighbours -/
def pu_ex (b : Nat) : Nat := match b with | 0 => 1 | 1 => 2 | 2 => 2 | 3 => 2 | 4 => 1 | _ => 0
def pu_sy (b : Nat) : Nat := match b with | 0 => 0 | 1 => 0 | 2 => 1 | 3 => 2 | 4 => 2 | 5 => 2 | 6 => 1 | _ => 0
theorem pu_exy {b : Nat} : pu_ex b ≤ 2 ∧ pu_sy b ≤ 2 := by
  unfold pu_ex pu_sy
  constructor <;> split <;> omega
theorem pu_nb_eq {s b : Nat} (hs : 33 ≤ s) (hb : b < 8) : pu_nb s b + 33 = s + 32 * pu_sy b + pu_ex b := by
  match b, hb with
  | 0, _ => show s - 32 + 33 = s + 32 * 0 + 1; omega
  | 1, _ => show s - 31 + 33 = s + 32 * 0 + 2; omega
  | 2, _ => show s + 1 + 33 = s + 32 * 1 + 2; omega
  | 3, _ => show s + 33 + 33 = s + 32 * 2 + 2; omega
  | 4, _ => show s + 32 + 33 = s + 32 * 2 + 1; omega
  | 5, _ => show s + 31 + 33 = s + 32 * 2 + 0; omega
  | 6, _ => show s - 1 + 33 = s + 32 * 1 + 0; omega
  | 7, _ => show s - 33 + 33 = s + 32 * 0 + 0; omega
def pu_gnb (w h c b : Nat) : Option Nat := if 1 ≤ c % w + pu_ex b ∧ c % w + pu_ex b ≤ w ∧ 1 ≤ c / w + pu_sy b ∧ c / w + pu_sy b ≤ h then some ((c / w + pu_sy b - 1) * w + (c % w + pu_ex b - 1)) else none
theorem pu_dm {w q r : Nat} (hr : r < w) : (q * w + r) / w = q ∧ (q * w + r) % w = r := by
  constructor
  · rw [Nat.mul_comm, Nat.mul_add_div (by omega), Nat.div_eq_of_lt hr, Nat.add_zero]
  · rw [Nat.mul_comm, Nat.mul_add_mod, Nat.mod_eq_of_lt hr]
theorem pu_cell {w h c : Nat} (hc : c < w * h) : 0 < w ∧ c / w < h ∧ c % w < w ∧ c = c / w * w + c % w := by
  have hw : 0 < w := by
    rcases Nat.eq_zero_or_pos w with h0 | h0
    · subst h0; simp at hc
    · exact h0
  refine ⟨hw, Nat.div_lt_of_lt_mul hc, Nat.mod_lt _ hw, ?_⟩
  have := Nat.div_add_mod c w
  rw [Nat.mul_comm] at this
  exact this.symm
theorem pu_cell_lt {w h q r : Nat} (hq : q < h) (hr : r < w) : q * w + r < w * h := by
  have : (q + 1) * w ≤ h * w := Nat.mul_le_mul_right w hq
  rw [Nat.succ_mul, Nat.mul_comm h w] at this
  omega
theorem pu_sp_rng {w h c : Nat} (hw : w ≤ 20) (hh : h ≤ 20) (hc : c < w * h) : 33 ≤ pu_sp w c ∧ pu_sp w c < 662 := by
  obtain ⟨h1, h2, h3, -⟩ := pu_cell hc
  have e : pu_sp w c = (c / w + 1) * 32 + c % w + 1 := rfl
  generalize c / w = q at *
  generalize c % w = r at *
  omega
theorem pu_sp_inj {w h c c' : Nat} (hw : w ≤ 20) (hc : c < w * h) (hc' : c' < w * h) (he : pu_sp w c = pu_sp w c') : c = c' := by
  obtain ⟨h1, h2, h3, h4⟩ := pu_cell hc
  obtain ⟨g1, g2, g3, g4⟩ := pu_cell hc'
  obtain ⟨a1, a2⟩ := pu_sp_row (c := c) h1 hw
  obtain ⟨b1, b2⟩ := pu_sp_row (c := c') h1 hw
  rw [he] at a1 a2
  have e1 : c / w = c' / w := by omega
  have e2 : c % w = c' % w := by omega
  rw [h4, g4, e1, e2]
theorem pu_nb_some {w h c b c' : Nat} (hw : w ≤ 20) (hh : h ≤ 20) (hc : c < w * h) (hb : b < 8) (hg : pu_gnb w h c b = some c') : c' < w * h ∧ pu_nb (pu_sp w c) b = pu_sp w c' := by
  obtain ⟨h1, h2, h3, h4⟩ := pu_cell hc
  have hs := pu_nb_eq (pu_sp_rng hw hh hc).1 hb
  unfold pu_gnb at hg
  split at hg
  · rename_i hr
    obtain ⟨r1, r2, r3, r4⟩ := hr
    have e := Option.some.inj hg
    subst e
    obtain ⟨d1, d2⟩ := pu_dm (w := w) (q := c / w + pu_sy b - 1) (r := c % w + pu_ex b - 1) (by omega)
    refine ⟨pu_cell_lt (by omega) (by omega), ?_⟩
    have e2 : pu_sp w ((c / w + pu_sy b - 1) * w + (c % w + pu_ex b - 1)) = (c / w + pu_sy b - 1 + 1) * 32 + (c % w + pu_ex b - 1) + 1 := by unfold pu_sp; rw [d1, d2]
    have e3 : pu_sp w c = (c / w + 1) * 32 + c % w + 1 := rfl
    rw [e2]
    generalize c / w = q at *
    generalize c % w = r at *
    omega
  · cases hg
theorem pu_nb_none {w h c b : Nat} (hw : w ≤ 20) (hh : h ≤ 20) (hc : c < w * h) (hb : b < 8) (hg : pu_gnb w h c b = none) : ∀ c', c' < w * h → pu_nb (pu_sp w c) b ≠ pu_sp w c' := by
  intro c' hc' he
  obtain ⟨h1, h2, h3, h4⟩ := pu_cell hc
  obtain ⟨g1, g2, g3, g4⟩ := pu_cell hc'
  have hs := pu_nb_eq (pu_sp_rng hw hh hc).1 hb
  have hx := pu_exy (b := b)
  have e3 : pu_sp w c = (c / w + 1) * 32 + c % w + 1 := rfl
  have e4 : pu_sp w c' = (c' / w + 1) * 32 + c' % w + 1 := rfl
  unfold pu_gnb at hg
  split at hg
  · cases hg
  · rename_i hr
    generalize c / w = q at *
    generalize c % w = r at *
    generalize c' / w = q' at *
    generalize c' % w = r' at *
    apply hr
    omega
theorem pu_nb_lt {w h c b : Nat} (hw : w ≤ 20) (hh : h ≤ 20) (hc : c < w * h) (hb : b < 8) : pu_nb (pu_sp w c) b < 704 := by
  have hs := pu_nb_eq (pu_sp_rng hw hh hc).1 hb
  have hr := pu_sp_rng hw hh hc
  have hx := pu_exy (b := b)
  omega
/-- the rows in A hold the set of the cells of which p holds -/
def pu_set (σ : tw_Sg) (A w m : Nat) (p : Nat → Bool) : Prop := (∀ c, c < m → pu_bt σ A (pu_sp w c) = p c) ∧ ∀ s, s < 704 → (∀ c, c < m → s ≠ pu_sp w c) → pu_bt σ A s = false
theorem pu_set_cong {σ σ' : tw_Sg} {A w m : Nat} {p : Nat → Bool} (h : pu_set σ A w m p) (e : σ' A = σ A) : pu_set σ' A w m p := ⟨fun c hc => (pu_bt_cong e).trans (h.1 c hc), fun s hs hn => (pu_bt_cong e).trans (h.2 s hs hn)⟩
theorem pu_set_ext {σ : tw_Sg} {A w m : Nat} {p q : Nat → Bool} (h : pu_set σ A w m p) (e : ∀ c, c < m → p c = q c) : pu_set σ A w m q := ⟨fun c hc => (h.1 c hc).trans (e c hc), h.2⟩
theorem pu_set_clear {σ : tw_Sg} {A w m : Nat} (hl : tw_ln A = 22) (hm : ∀ c, c < m → pu_sp w c < 704) : pu_set (pu_fill σ A 0) A w m (fun _ => false) := ⟨fun c hc => pu_bt_clear hl (hm c hc), fun s hs _ => pu_bt_clear hl hs⟩
theorem pu_set_add {σ : tw_Sg} {A w h d : Nat} {p : Nat → Bool} (hw : w ≤ 20) (hh : h ≤ 20) (hp : pu_set σ A w (w * h) p) (hd : d < w * h) : pu_set (pu_addb σ A (pu_sp w d)) A w (w * h) (fun c => decide (c = d) || p c) := by
  have hr := pu_sp_rng hw hh hd
  refine ⟨fun c hc => ?_, fun s hs hn => ?_⟩
  · rw [pu_addb_bt (by omega), hp.1 c hc]
    congr 1
    by_cases e : c = d
    · subst e; simp
    · rw [decide_eq_false e, decide_eq_false (fun e2 => e (pu_sp_inj hw hc hd e2))]
  · rw [pu_addb_bt (by omega), hp.2 s hs hn, decide_eq_false (hn d hd)]
    rfl
/-- a number of a cell or none: the class's spot, the reference's cell -/
def pu_eS (w : Nat) : Option Nat → Int32 | none => 0 | some c => Int32.ofNat (pu_sp w c)
def pu_eR : Option Nat → Int32 | none => -1 | some c => Int32.ofNat c
def pu_land (a : Nat → Int32) (c : Nat) : Bool := decide (a (8 + c) = 0)
def pu_nbr (g : Nat → Bool) (w h c b : Nat) : Option Nat := match pu_gnb w h c b with | some c' => if g c' then some c' else none | none => none
theorem pu_nbr_some {g : Nat → Bool} {w h c b c' : Nat} (hg : pu_nbr g w h c b = some c') : pu_gnb w h c b = some c' ∧ g c' = true := by
  unfold pu_nbr at hg
  split at hg
  · rename_i d hd
    split at hg
    · rename_i hgd
      cases hg
      exact ⟨hd, hgd⟩
    · cases hg
  · cases hg
theorem pu_nbr_lt {g : Nat → Bool} {w h c b c' : Nat} (hw : w ≤ 20) (hh : h ≤ 20) (hc : c < w * h) (hb : b < 8) (hg : pu_nbr g w h c b = some c') : c' < w * h := (pu_nb_some hw hh hc hb (pu_nbr_some hg).1).1
/-- the class looks a neighbour up in a set -/
theorem pu_has_nb {σ : tw_Sg} {th w h c b : Nat} {g : Nat → Bool} (hk : tw_kd th = 0) (hw : w ≤ 20) (hh : h ≤ 20) (hc : c < w * h) (hb : b < 8) (hp : pu_set σ (th + 1) w (w * h) g) : tw_P_X0_has th (Int32.ofNat (pu_nb (pu_sp w c) b)) σ = some (if (pu_nbr g w h c b).isSome then 1 else 0) ∧ ∀ c', pu_nbr g w h c b = some c' → pu_nb (pu_sp w c) b = pu_sp w c' := by
  refine ⟨?_, fun c' h' => (pu_nb_some hw hh hc hb (pu_nbr_some h').1).2⟩
  rw [pu_has hk (pu_nb_lt hw hh hc hb)]
  unfold pu_nbr
  cases hg : pu_gnb w h c b with
  | none =>
    rw [hp.2 _ (pu_nb_lt hw hh hc hb) (pu_nb_none hw hh hc hb hg)]
    rfl
  | some c' =>
    obtain ⟨h1, h2⟩ := pu_nb_some hw hh hc hb hg
    rw [h2, hp.1 c' h1]
    cases hgc : g c' <;> simp [hgc]
/-! the reference's arithmetic -/
theorem pu_div {a b : Nat} (ha : a < 2147483648) (hb : b < 2147483648) : Int32.ofNat a / Int32.ofNat b = Int32.ofNat (a / b) := by
  apply Int32.toInt_inj.1
  have h2 : a / b ≤ a := Nat.div_le_self _ _
  rw [pu_toInt (by omega), Int32.toInt_div_of_ne_left _ _ (by intro h; have := congrArg Int32.toInt h; rw [pu_toInt ha, Int32.toInt_minValue] at this; omega), pu_toInt ha, pu_toInt hb]
  rw [Int.tdiv_eq_ediv_of_nonneg (by omega)]
  norm_cast
theorem pu_rem {a b : Nat} (ha : a < 2147483648) (hb : b < 2147483648) : Int32.ofNat a - Int32.ofNat a / Int32.ofNat b * Int32.ofNat b = Int32.ofNat (a % b) := by
  have h1 := Nat.div_add_mod a b
  rw [pu_div ha hb, pu_mul, pu_sub (by rw [Nat.mul_comm]; omega)]
  congr 1
  rw [Nat.mul_comm]
  omega
theorem pu_int {z : Int} (h1 : -2147483648 ≤ z) (h2 : z < 2147483648) : (Int32.ofInt z).toInt = z := Int32.toInt_ofInt_of_le (by simpa using h1) (by simpa using h2)
theorem pu_addI {x : Nat} {z : Int} : Int32.ofNat x + Int32.ofInt z = Int32.ofInt (x + z) := by
  rw [Int32.ofInt_add, Int32.ofInt_eq_ofNat]
