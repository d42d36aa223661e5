/-! THE PURE SIDE. pu_wp: the expression comes to a value of which Q holds. -/
def pu_wp {ρ : Type} (E : Option ρ) (Q : ρ → Prop) : Prop := ∃ r, E = some r ∧ Q r
section PUW
variable {α ρ : Type} {Q Q' : ρ → Prop}
theorem pu_some {r : ρ} (h : Q r) : pu_wp (some r) Q := ⟨r, rfl, h⟩
theorem pu_of {E : Option ρ} {r : ρ} (h : E = some r) (q : Q r) : pu_wp E Q := ⟨r, h, q⟩
theorem pu_lt {e : α} {k : α → Option ρ} (h : pu_wp (k e) Q) : pu_wp (tw_lt e k) Q := h
theorem pu_ck {b : Bool} {E : Option ρ} (h : b = true) (k : pu_wp E Q) : pu_wp (tw_ck b E) Q := by subst h; exact k
theorem pu_bd {e : Option α} {K : α → Option ρ} {R : α → Prop} (h : pu_wp e R) (k : ∀ a, R a → pu_wp (K a) Q) : pu_wp (tw_bd e K) Q := by
  obtain ⟨a, rfl, ha⟩ := h
  exact k a ha
theorem pu_bde {e : Option α} {K : α → Option ρ} {a : α} (h : e = some a) (k : pu_wp (K a) Q) : pu_wp (tw_bd e K) Q := by subst h; exact k
theorem pu_jn {β : Type} {r : β → Option ρ} {b : (β → Option ρ) → Option ρ} (R : β → Prop) (hr : ∀ a, R a → pu_wp (r a) Q) (hb : ∀ f : β → Option ρ, (∀ a, R a → pu_wp (f a) Q) → pu_wp (b f) Q) : pu_wp (tw_jn r b) Q := hb r hr
theorem pu_jn0 {β : Type} {r : β → Option ρ} {b : (β → Option ρ) → Option ρ} (h : pu_wp (b r) Q) : pu_wp (tw_jn r b) Q := h
theorem pu_if {c : Prop} {d : Decidable c} {A B : Option ρ} (h1 : c → pu_wp A Q) (h2 : ¬ c → pu_wp B Q) : pu_wp (if c then A else B) Q := by
  by_cases h : c
  · rw [if_pos h]; exact h1 h
  · rw [if_neg h]; exact h2 h
theorem pu_ift {c : Prop} {d : Decidable c} {A B : Option ρ} (h : c) (k : pu_wp A Q) : pu_wp (if c then A else B) Q := by rw [if_pos h]; exact k
theorem pu_iff {c : Prop} {d : Decidable c} {A B : Option ρ} (h : ¬ c) (k : pu_wp B Q) : pu_wp (if c then A else B) Q := by rw [if_neg h]; exact k
theorem pu_cons {E : Option ρ} (h : pu_wp E Q) (hq : ∀ r, Q r → Q' r) : pu_wp E Q' := by
  obtain ⟨r, e, q⟩ := h
  exact ⟨r, e, hq r q⟩
theorem pu_mtn {e : Option α} {A : Option ρ} {K : α → Option ρ} (h : e = none) (k : pu_wp A Q) : pu_wp (tw_mt e A K) Q := by subst h; exact k
theorem pu_mts {e : Option α} {A : Option ρ} {K : α → Option ρ} {x : α} (h : e = some x) (k : pu_wp (K x) Q) : pu_wp (tw_mt e A K) Q := by subst h; exact k
/-- a loop, by a number that falls -/
theorem pu_lp {body : (α → Option ρ) → α → Option ρ} (J : α → Prop) (m : α → Nat) (h : ∀ (k : α → Option ρ) (a : α), J a → (∀ a', J a' → m a' < m a → pu_wp (k a') Q) → pu_wp (body k a) Q) : ∀ (n : Nat) (a : α), m a < n → J a → pu_wp (tw_lp body n a) Q
  | 0, _, hm, _ => absurd hm (Nat.not_lt_zero _)
  | n + 1, a, hm, ha => h (tw_lp body n) a ha (fun a' ha' hm' => pu_lp J m h n a' (by omega) ha')
/-- a loop over i < N whose states are known -/
theorem pu_for {body : (α → Option ρ) → α → Option ρ} (N : Nat) (st : Nat → α) (h : ∀ (k : α → Option ρ) (i : Nat), i < N → body k (st i) = k (st (i + 1))) {r : ρ} (he : ∀ k : α → Option ρ, body k (st N) = some r) {n : Nat} (hn : N < n) : tw_lp body n (st 0) = some r := by
  have key : ∀ (j i n : Nat), i + j = N → j < n → tw_lp body n (st i) = some r := by
    intro j
    induction j with
    | zero =>
      intro i n hi hn
      cases n with
      | zero => omega
      | succ n =>
        have : i = N := by omega
        subst this
        exact he _
    | succ j ih =>
      intro i n hi hn
      cases n with
      | zero => omega
      | succ n =>
        show body (tw_lp body n) (st i) = some r
        rw [h _ i (by omega)]
        exact ih (i + 1) n (by omega) (by omega)
  exact key N 0 n (by omega) hn
end PUW
/-! numbers -/
theorem pu_toInt {a : Nat} (h : a < 2147483648) : (Int32.ofNat a).toInt = a := Int32.toInt_ofNat_of_lt (by simpa using h)
theorem pu_le {a b : Nat} (ha : a < 2147483648) (hb : b < 2147483648) : Int32.ofNat a ≤ Int32.ofNat b ↔ a ≤ b := by rw [Int32.le_iff_toInt_le, pu_toInt ha, pu_toInt hb]; omega
theorem pu_ltn {a b : Nat} (ha : a < 2147483648) (hb : b < 2147483648) : Int32.ofNat a < Int32.ofNat b ↔ a < b := by rw [Int32.lt_iff_toInt_lt, pu_toInt ha, pu_toInt hb]; omega
theorem pu_eq {a b : Nat} (ha : a < 2147483648) (hb : b < 2147483648) : Int32.ofNat a = Int32.ofNat b ↔ a = b := by rw [← Int32.toInt_inj, pu_toInt ha, pu_toInt hb]; omega
theorem pu_n {a : Nat} (h : a < 2147483648) : (Int32.ofNat a).toNatClampNeg = a := Int32.toNatClampNeg_ofNat_of_lt (by simpa using h)
theorem pu_nn {a : Nat} (h : a < 2147483648) : ¬ Int32.ofNat a < 0 := by
  rw [Int32.lt_iff_toInt_lt, pu_toInt h]
  show ¬ (a : Int) < 0
  omega
theorem pu_add (a b : Nat) : Int32.ofNat a + Int32.ofNat b = Int32.ofNat (a + b) := (Int32.ofNat_add a b).symm
theorem pu_mul (a b : Nat) : Int32.ofNat a * Int32.ofNat b = Int32.ofNat (a * b) := (Int32.ofNat_mul a b).symm
theorem pu_sub {a b : Nat} (h : b ≤ a) : Int32.ofNat a - Int32.ofNat b = Int32.ofNat (a - b) := by
  have e : Int32.ofNat a = Int32.ofNat (a - b) + Int32.ofNat b := by rw [pu_add]; congr 1; omega
  rw [e, Int32.add_sub_cancel]
theorem pu_ok {a n : Nat} (ha : a < 2147483648) (h : a < n) : tw_ok (Int32.ofNat a) n = true := by
  unfold tw_ok
  rw [pu_n ha]
  refine decide_eq_true ?_
  rintro (h1 | h1)
  · exact pu_nn ha h1
  · omega
theorem pu_nat {x : Int32} (h : ¬ x < 0) : ∃ a : Nat, a < 2147483648 ∧ x = Int32.ofNat a := by
  have h0 : (0 : Int) ≤ x.toInt := by
    have := Int32.not_lt.mp h
    simpa using Int32.le_iff_toInt_le.mp this
  have h1 := x.toInt_lt
  refine ⟨x.toInt.toNat, by omega, ?_⟩
  rw [← Int32.toInt_inj, pu_toInt (by omega)]
  omega
theorem pu_and31 {a : Nat} (h : a < 2147483648) : Int32.ofNat a &&& (31 : Int32) = Int32.ofNat (a % 32) := by
  apply Int32.toBitVec_inj.1
  show BitVec.ofNat 32 a &&& 31#32 = BitVec.ofNat 32 (a % 32)
  apply BitVec.eq_of_toNat_eq
  rw [BitVec.toNat_and, BitVec.toNat_ofNat, BitVec.toNat_ofNat, BitVec.toNat_ofNat]
  rw [show 31 % 2 ^ 32 = 2 ^ 5 - 1 from rfl, Nat.and_two_pow_sub_one_eq_mod]
  omega
theorem pu_shr {a k : Nat} (h : a < 2147483648) (hk : k < 32) : Int32.ofNat a >>> (Int32.ofNat k &&& (31 : Int32)) = Int32.ofNat (a / 2 ^ k) := by
  rw [pu_and31 (by omega), Nat.mod_eq_of_lt hk]
  apply Int32.toInt_inj.1
  have h2 : a / 2 ^ k ≤ a := Nat.div_le_self _ _
  rw [pu_toInt (by omega)]
  show (BitVec.sshiftRight' (BitVec.ofNat 32 a) ((BitVec.ofNat 32 k).smod 32)).toInt = _
  have e : ((BitVec.ofNat 32 k).smod 32).toNat = k := by
    have : ∀ k : Fin 32, ((BitVec.ofNat 32 k.val).smod 32).toNat = k.val := by decide +kernel
    exact this ⟨k, hk⟩
  show ((BitVec.ofNat 32 a).sshiftRight (((BitVec.ofNat 32 k).smod 32).toNat)).toInt = _
  rw [e, BitVec.toInt_sshiftRight]
  have e2 : (BitVec.ofNat 32 a).toInt = (a : Int) := pu_toInt h
  rw [e2, Int.shiftRight_eq_div_pow]
  norm_cast
theorem pu_bit {x : Int32} {s : Nat} (h : s < 2147483648) : ((Int32.toUInt32 x >>> (Int32.toUInt32 (Int32.ofNat s &&& (31 : Int32)) &&& Int32.toUInt32 31)).toInt32 &&& (1 : Int32)) = (1 : Int32) ↔ x.toBitVec.getLsbD (s % 32) = true := by
  rw [pu_and31 h]
  have hk : s % 32 < 32 := Nat.mod_lt _ (by decide)
  generalize s % 32 = k at hk
  rw [← Int32.toBitVec_inj]
  show (x.toBitVec >>> (((BitVec.ofNat 32 k) &&& 31#32) % 32#32)) &&& 1#32 = 1#32 ↔ _
  have e : (((BitVec.ofNat 32 k) &&& 31#32) % 32#32).toNat = k := by
    have : ∀ k : Fin 32, (((BitVec.ofNat 32 k.val) &&& 31#32) % 32#32).toNat = k.val := by decide +kernel
    exact this ⟨k, hk⟩
  rw [BitVec.ushiftRight_eq', e, BitVec.and_one_eq_setWidth_ofBool_getLsbD, BitVec.getLsbD_ushiftRight, Nat.add_zero]
  cases x.toBitVec.getLsbD k <;> decide
theorem pu_shlbit {s : Nat} (h : s < 2147483648) : ((1 : Int32) <<< ((Int32.ofNat s &&& (31 : Int32)) &&& 31)).toBitVec = BitVec.twoPow 32 (s % 32) := by
  rw [pu_and31 h]
  have hk : s % 32 < 32 := Nat.mod_lt _ (by decide)
  generalize s % 32 = k at hk
  have : ∀ k : Fin 32, ((1 : Int32) <<< ((Int32.ofNat k.val) &&& 31)).toBitVec = BitVec.twoPow 32 k.val := by decide +kernel
  exact this ⟨k, hk⟩
