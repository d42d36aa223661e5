/-! tour: the stops, the bits of sets of stops, the table -/
theorem pu_sum_mono {p : Nat → Bool} {c : Nat} : ∀ m, c ≤ m → pu_sum p c ≤ pu_sum p m
  | 0, h => by rw [Nat.le_zero.mp h]; exact Nat.le_refl _
  | m + 1, h => by
    by_cases e : c = m + 1
    · rw [e]; exact Nat.le_refl _
    · have := pu_sum_mono (p := p) m (show c ≤ m by omega)
      rw [pu_sum_S]
      omega
theorem pu_sum_lt {p : Nat → Bool} {c m : Nat} (hc : c < m) (hp : p c = true) : pu_sum p c < pu_sum p m := by
  have := pu_sum_mono (p := p) (c := c + 1) m hc
  rw [pu_sum_S, hp] at this
  have e : (if true = true then 1 else 0 : Nat) = 1 := rfl
  rw [e] at this
  omega
/-- the cell that has the place i among those of which p holds -/
def pu_g (p : Nat → Bool) : Nat → Nat → Nat
  | 0, _ => 0
  | m + 1, i => if p m = true ∧ pu_sum p m = i then m else pu_g p m i
theorem pu_g_S {p : Nat → Bool} {m i : Nat} : pu_g p (m + 1) i = if p m = true ∧ pu_sum p m = i then m else pu_g p m i := rfl
theorem pu_g_of {p : Nat → Bool} {c : Nat} (hp : p c = true) : ∀ m, c < m → pu_g p m (pu_sum p c) = c
  | 0, h => absurd h (Nat.not_lt_zero _)
  | m + 1, h => by
    rw [pu_g_S]
    by_cases e : c = m
    · subst e; exact if_pos ⟨hp, rfl⟩
    · have := pu_sum_lt (p := p) (show c < m by omega) hp
      rw [if_neg (fun z => by have := z.2; omega)]
      exact pu_g_of hp m (by omega)
theorem pu_g_in {p : Nat → Bool} {i : Nat} : ∀ m, i < pu_sum p m → pu_g p m i < m ∧ p (pu_g p m i) = true ∧ pu_sum p (pu_g p m i) = i
  | 0, h => absurd h (Nat.not_lt_zero _)
  | m + 1, h => by
    rw [pu_g_S]
    by_cases e : p m = true ∧ pu_sum p m = i
    · rw [if_pos e]; exact ⟨Nat.lt_succ_self _, e⟩
    · rw [if_neg e]
      have hi : i < pu_sum p m := by
        rw [pu_sum_S] at h
        by_cases hp : p m = true
        · have e1 : (if p m = true then 1 else 0 : Nat) = 1 := if_pos hp
          rw [e1] at h
          by_cases e2 : pu_sum p m = i
          · exact absurd ⟨hp, e2⟩ e
          · omega
        · have e1 : (if p m = true then 1 else 0 : Nat) = 0 := if_neg hp
          rw [e1] at h
          omega
      obtain ⟨a1, a2⟩ := pu_g_in m hi
      exact ⟨by omega, a2⟩
theorem pu_cat {σ : tw_Sg} {th w h i n : Nat} {p : Nat → Bool} (hk : tw_kd th = 0) (hw : w ≤ 20) (hh : h ≤ 20) (hS : pu_set σ (th + 1) w (w * h) p) (hi : i < pu_sum p (w * h)) (hn : 1000 < n) : pu_wp (tw_P_X0_at n th (Int32.ofNat i) σ) (fun r => r = Int32.ofNat (pu_sp w (pu_g p (w * h) i))) := by
  have hm := pu_m400 hw hh
  have hil := pu_sum_le (p := p) (w * h)
  unfold tw_P_X0_at
  refine pu_lt (pu_lt ?_)
  refine pu_lp (J := fun s => ∃ j k, j ≤ 704 ∧ s.2 = Int32.ofNat j ∧ pu_at w (w * h) j k ∧ s.1 = Int32.ofNat (pu_sum p k) ∧ pu_sum p k ≤ i) (m := fun s => 704 - s.2.toNatClampNeg) ?_ n _ (by show 704 - _ < n; omega) ⟨0, 0, by omega, rfl, pu_at0, rfl, Nat.zero_le _⟩
  rintro k4 ⟨bb, ss⟩ ⟨j, k, hj, e1, hA, e2, hle⟩ hk4
  dsimp only [] at e1 e2
  subst e1; subst e2
  dsimp only []
  refine pu_if (fun c1 => ?_) (fun c1 => ?_)
  · exfalso
    have c1 := (pu_le (a := 704) (by omega) (by omega)).mp c1
    have : j = 704 := by omega
    subst this
    rw [pu_at_end hw hh hA] at hle
    omega
  have c1 : j < 704 := Nat.lt_of_not_le (fun z => c1 ((pu_le (a := 704) (b := j) (by omega) (by omega)).mpr z))
  have em : Int32.ofNat j + (1 : Int32) = Int32.ofNat (j + 1) := pu_add j 1
  refine pu_bde (pu_has hk c1) ?_
  refine pu_jn (R := fun v => ∃ k', pu_at w (w * h) (j + 1) k' ∧ v = Int32.ofNat (pu_sum p k') ∧ pu_sum p k' ≤ i) (fun v hv => ?_) (fun f hf => ?_)
  · obtain ⟨k', z1, z2, z3⟩ := hv
    refine pu_lt ?_
    rw [em]
    refine hk4 _ ⟨j + 1, k', by omega, rfl, z1, z2, z3⟩ ?_
    show 704 - (Int32.ofNat (j + 1)).toNatClampNeg < 704 - (Int32.ofNat j).toNatClampNeg
    rw [pu_n (by omega), pu_n (by omega)]
    omega
  rcases pu_at_step hw hA with ⟨hk', es, hA'⟩ | ⟨hno, hA'⟩
  · have hbt : pu_bt σ (th + 1) j = p k := by rw [es]; exact hS.1 k hk'
    rw [hbt]
    refine pu_if (fun c2 => ?_) (fun c2 => ?_)
    · have c2 : pu_b1 (p k) = 0 := c2
      rw [pu_b1_0] at c2
      refine hf _ ⟨k + 1, hA', ?_, ?_⟩
      · rw [pu_sum_S, c2]; rfl
      · rw [pu_sum_S, c2]; exact hle
    · have c2 : ¬ pu_b1 (p k) = 0 := c2
      rw [pu_b1_0] at c2
      have hp := pu_bF c2
      refine pu_if (fun c3 => ?_) (fun c3 => ?_)
      · rw [pu_eq (by omega) (by omega)] at c3
        have e : pu_sum p (k + 1) = pu_sum p k + 1 := by rw [pu_sum_S, hp]; rfl
        refine pu_lt (hf _ ⟨k + 1, hA', ?_, ?_⟩)
        · rw [e]; exact pu_add _ 1
        · rw [e]; omega
      · have c3 := (pu_eq (by omega) (by omega)).mp (Classical.not_not.mp c3)
        refine pu_some ?_
        rw [← c3, pu_g_of hp (w * h) hk', es]
  · have hbt : pu_bt σ (th + 1) j = false := hS.2 j c1 hno
    rw [hbt]
    exact pu_ift (by decide) (hf _ ⟨k, hA', rfl, hle⟩)
/-! bits of sets of stops -/
def pu_rs (s k : Nat) : Nat := if s.testBit k then s - 2 ^ k else s
theorem pu_bitsT (k : Nat) (hk : k < 9) (s : Nat) (hs : s < 512) : Int32.ofNat s &&& (((1 : Int32) <<< (Int32.ofNat k &&& 31)) ^^^ (-1 : Int32)) = Int32.ofNat (pu_rs s k) ∧ ((Int32.ofNat s >>> (Int32.ofNat k &&& 31)) &&& (1 : Int32) = (1 : Int32) ↔ s.testBit k = true) ∧ (s.testBit k = true → pu_rs s k < s) ∧ (¬ s.testBit k = true → pu_rs s k = s) := by
  have key : ∀ x, x < 4608 → decide (Int32.ofNat (x % 512) &&& (((1 : Int32) <<< (Int32.ofNat (x / 512) &&& 31)) ^^^ (-1 : Int32)) = Int32.ofNat (pu_rs (x % 512) (x / 512)) ∧ ((Int32.ofNat (x % 512) >>> (Int32.ofNat (x / 512) &&& 31)) &&& (1 : Int32) = (1 : Int32) ↔ (x % 512).testBit (x / 512) = true) ∧ ((x % 512).testBit (x / 512) = true → pu_rs (x % 512) (x / 512) < x % 512) ∧ (¬ (x % 512).testBit (x / 512) = true → pu_rs (x % 512) (x / 512) = x % 512)) = true := tw_rng (n := 4608) (by decide +kernel)
  have h := of_decide_eq_true (key (k * 512 + s) (by omega))
  rw [show (k * 512 + s) % 512 = s from by omega, show (k * 512 + s) / 512 = k from by omega] at h
  exact h
theorem pu_bit_ex {n r : Nat} (h0 : r ≠ 0) (hr : r < 2 ^ n) : ∃ i, i < n ∧ r.testBit i = true := by
  obtain ⟨i, hi⟩ := Nat.exists_testBit_of_ne_zero h0
  refine ⟨i, ?_, hi⟩
  rcases Nat.lt_or_ge i n with z | z
  · exact z
  · have := Nat.testBit_lt_two_pow (Nat.lt_of_lt_of_le hr (Nat.pow_le_pow_right (by decide) z))
    rw [this] at hi
    cases hi
/-! the least of some -/
def pu_mo (p : Nat → Bool) (f : Nat → Int) : Nat → Option Int
  | 0 => none
  | m + 1 => if p m = true then some (match pu_mo p f m with | none => f m | some v => if f m < v then f m else v) else pu_mo p f m
theorem pu_mo_S {p : Nat → Bool} {f : Nat → Int} {m : Nat} : pu_mo p f (m + 1) = if p m = true then some (match pu_mo p f m with | none => f m | some v => if f m < v then f m else v) else pu_mo p f m := rfl
theorem pu_mo_rng {p : Nat → Bool} {f : Nat → Int} {lo hi : Int} : ∀ m, (∀ i, i < m → p i = true → lo ≤ f i ∧ f i ≤ hi) → ∀ v, pu_mo p f m = some v → lo ≤ v ∧ v ≤ hi
  | 0, _, v, hv => by cases hv
  | m + 1, h, v, hv => by
    rw [pu_mo_S] at hv
    have ih := pu_mo_rng (p := p) (f := f) m (fun i hi => h i (by omega))
    by_cases hp : p m = true
    · rw [if_pos hp] at hv
      have hm := h m (by omega) hp
      cases e : pu_mo p f m with
      | none => rw [e] at hv; cases hv; exact hm
      | some u =>
        rw [e] at hv
        have hu := ih u e
        have hv := Option.some.inj hv
        dsimp only [] at hv
        subst hv
        split
        · exact hm
        · exact hu
    · rw [if_neg hp] at hv
      exact ih v hv
theorem pu_mo_ex {p : Nat → Bool} {f : Nat → Int} : ∀ m i, i < m → p i = true → ∃ v, pu_mo p f m = some v
  | 0, i, h, _ => absurd h (Nat.not_lt_zero _)
  | m + 1, i, h, hp => by
    rw [pu_mo_S]
    by_cases e : p m = true
    · rw [if_pos e]; exact ⟨_, rfl⟩
    · rw [if_neg e]
      refine pu_mo_ex m i ?_ hp
      rcases Nat.lt_or_ge i m with z | z
      · exact z
      · have : i = m := by omega
        subst this
        exact absurd hp e
/-! the table: the fewest paces over a set of stops with k as its last -/
def pu_ent (n : Nat) (F : Nat → Int) (B : Nat → Nat → Int) (t : Nat → Nat → Int) (s k : Nat) : Int := if pu_rs s k = 0 then F k else (pu_mo (fun i => (pu_rs s k).testBit i) (fun i => t (pu_rs s k) i + B i k) n).getD 0
def pu_tab (n : Nat) (F : Nat → Int) (B : Nat → Nat → Int) : Nat → Nat → Nat → Int
  | 0 => fun _ _ => 0
  | s + 1 => fun s' k => if s' = s then pu_ent n F B (pu_tab n F B s) s k else pu_tab n F B s s' k
theorem pu_tab_s {n : Nat} {F : Nat → Int} {B : Nat → Nat → Int} {s k : Nat} : pu_tab n F B (s + 1) s k = pu_ent n F B (pu_tab n F B s) s k := if_pos rfl
theorem pu_tab_n {n : Nat} {F : Nat → Int} {B : Nat → Nat → Int} {s s' k : Nat} (h : s' ≠ s) : pu_tab n F B (s + 1) s' k = pu_tab n F B s s' k := if_neg h
def pu_hp (n : Nat) (F : Nat → Int) (B : Nat → Nat → Int) : Prop := (∀ i, i < n → -1 ≤ F i ∧ F i ≤ 400) ∧ ∀ i k, i < n → k < n → -1 ≤ B i k ∧ B i k ≤ 400
theorem pu_ent_rng {n s k : Nat} {F : Nat → Int} {B t : Nat → Nat → Int} (hn : n ≤ 9) (hh : pu_hp n F B) (hs : s < 2 ^ n) (hk : k < n) (hb : s.testBit k = true) (ht : ∀ s' i : Nat, s' < s → i < n → s'.testBit i = true → -((s' : Int) + 1) ≤ t s' i ∧ t s' i ≤ 400 * ((s' : Int) + 1)) : -((s : Int) + 1) ≤ pu_ent n F B t s k ∧ pu_ent n F B t s k ≤ 400 * ((s : Int) + 1) ∧ (pu_rs s k ≠ 0 → pu_mo (fun i => (pu_rs s k).testBit i) (fun i => t (pu_rs s k) i + B i k) n = some (pu_ent n F B t s k)) := by
  have h9 : 2 ^ n ≤ 2 ^ 9 := Nat.pow_le_pow_right (by decide) hn
  have h512 : 2 ^ 9 = 512 := rfl
  obtain ⟨-, -, hr, -⟩ := pu_bitsT k (by omega) s (by omega)
  have hr := hr hb
  unfold pu_ent
  by_cases h0 : pu_rs s k = 0
  · rw [if_pos h0]
    have := hh.1 k hk
    exact ⟨by omega, by omega, fun z => absurd h0 z⟩
  · rw [if_neg h0]
    obtain ⟨i, hi, hbi⟩ := pu_bit_ex (n := n) h0 (by omega)
    obtain ⟨v, hv⟩ := pu_mo_ex (p := fun i => (pu_rs s k).testBit i) (f := fun i => t (pu_rs s k) i + B i k) n i hi hbi
    rw [hv]
    have := pu_mo_rng (lo := -((s : Int) + 1)) (hi := 400 * ((s : Int) + 1)) n (fun j hj hbj => by
      have t1 := ht (pu_rs s k) j hr hj hbj
      have t2 := hh.2 j k hj hk
      try dsimp only []
      omega) v hv
    exact ⟨this.1, this.2, fun _ => rfl⟩
theorem pu_tab_rng {n : Nat} {F : Nat → Int} {B : Nat → Nat → Int} (hn : n ≤ 9) (hh : pu_hp n F B) : ∀ s : Nat, s ≤ 2 ^ n → ∀ s' i : Nat, s' < s → i < n → s'.testBit i = true → -((s' : Int) + 1) ≤ pu_tab n F B s s' i ∧ pu_tab n F B s s' i ≤ 400 * ((s' : Int) + 1)
  | 0, _, _, _, h, _, _ => absurd h (Nat.not_lt_zero _)
  | s + 1, hs, s', i, h, hi, hb => by
    have ih := pu_tab_rng hn hh s (by omega)
    by_cases e : s' = s
    · subst e
      rw [pu_tab_s]
      obtain ⟨q1, q2, -⟩ := pu_ent_rng hn hh (by omega) hi hb ih
      exact ⟨q1, q2⟩
    · rw [pu_tab_n e]
      exact ih s' i (by omega) hi hb
