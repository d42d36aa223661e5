/-! THE LAW'S SIDE: stepping through what is asked -/
theorem dq_ck {c E : Prop} (h : c) (k : E) : pw_ck c E := ⟨h, k⟩
theorem dq_nn {r : Option Nat} {x : Nat} {K : Nat → Prop} (h : r = some x) (k : K x) : pw_nn r K := by subst h; exact k
theorem dq_mt {r : Option Nat} {A : Prop} {K : Nat → Prop} (k0 : r = none → A) (k1 : ∀ x, r = some x → K x) : pw_mt r A K := by
  cases r with
  | none => exact k0 rfl
  | some x => exact k1 x rfl
theorem dq_jn {β : Type} {r : β → Prop} {b : (β → Prop) → Prop} (R : β → Prop) (hr : ∀ a, R a → r a) (hb : ∀ f : β → Prop, (∀ a, R a → f a) → b f) : tw_jn r b := hb r hr
theorem dq_if {c : Prop} {d : Decidable c} {A B : Prop} (h1 : c → A) (h2 : ¬ c → B) : if c then A else B := by
  by_cases h : c
  · rw [if_pos h]; exact h1 h
  · rw [if_neg h]; exact h2 h
theorem dq_ift {c : Prop} {d : Decidable c} {A B : Prop} (h : c) (k : A) : if c then A else B := by rw [if_pos h]; exact k
theorem dq_iff {c : Prop} {d : Decidable c} {A B : Prop} (h : ¬ c) (k : B) : if c then A else B := by rw [if_neg h]; exact k
theorem dq_bd {α : Type} {e : Option α} {K : α → Prop} {a : α} (h : e = some a) (k : K a) : pw_bd e K := ⟨a, h, k⟩
/-- a loop over i < N -/
theorem dq_for {α : Type} {body : (α → Prop) → α → Prop} (N : Nat) (J : Nat → α → Prop) (h : ∀ (k : α → Prop) (i : Nat) (a : α), i < N → J i a → (∀ a', J (i + 1) a' → k a') → body k a) (he : ∀ (k : α → Prop) (a : α), J N a → body k a) {n : Nat} (hn : N < n) {a : α} (h0 : J 0 a) : pw_lp body n a := by
  have key : ∀ (j i n : Nat) (a : α), i + j = N → j < n → J i a → pw_lp body n a := by
    intro j
    induction j with
    | zero =>
      intro i n a hi hn hJ
      cases n with
      | zero => omega
      | succ n =>
        have : i = N := by omega
        subst this
        exact he _ _ hJ
    | succ j ih =>
      intro i n a hi hn hJ
      cases n with
      | zero => omega
      | succ n => exact h (pw_lp body n) i a (by omega) hJ (fun a' h' => ih (i + 1) n a' (by omega) (by omega) h')
  exact key N 0 n a (by omega) hn h0
/-! numbers -/
theorem dq_lt0 {z : Int} (h1 : -2147483648 ≤ z) (h2 : z < 2147483648) : Int32.ofInt z < 0 ↔ z < 0 := by
  rw [Int32.lt_iff_toInt_lt, pu_int h1 h2, Int32.toInt_zero]
theorem dq_leI {m : Nat} {z : Int} (hm : m < 2147483648) (h1 : -2147483648 ≤ z) (h2 : z < 2147483648) : Int32.ofNat m ≤ Int32.ofInt z ↔ (m : Int) ≤ z := by
  rw [Int32.le_iff_toInt_le, pu_int h1 h2, pu_toInt hm]
theorem dq_ltI {m : Nat} {z : Int} (hm : m < 2147483648) (h1 : -2147483648 ≤ z) (h2 : z < 2147483648) : Int32.ofInt z < Int32.ofNat m ↔ z < (m : Int) := by
  rw [Int32.lt_iff_toInt_lt, pu_int h1 h2, pu_toInt hm]
theorem dq_oI {x : Nat} {z : Int} (h : z = (x : Int)) : Int32.ofInt z = Int32.ofNat x := by rw [h, Int32.ofInt_eq_ofNat]
theorem dq_m8 {z : Int} (h1 : -24 ≤ z) (h2 : z ≤ 31) : ((Int32.ofInt z - Int32.ofInt z / (8 : Int32) * (8 : Int32)) + (8 : Int32)) - ((Int32.ofInt z - Int32.ofInt z / (8 : Int32) * (8 : Int32)) + (8 : Int32)) / (8 : Int32) * (8 : Int32) = Int32.ofNat (z % 8).toNat := by
  have key : ∀ k : Fin 56, ((Int32.ofInt ((k.val : Int) - 24) - Int32.ofInt ((k.val : Int) - 24) / (8 : Int32) * (8 : Int32)) + (8 : Int32)) - ((Int32.ofInt ((k.val : Int) - 24) - Int32.ofInt ((k.val : Int) - 24) / (8 : Int32) * (8 : Int32)) + (8 : Int32)) / (8 : Int32) * (8 : Int32) = Int32.ofNat (((k.val : Int) - 24) % 8).toNat := by decide +kernel
  have e : z = (((⟨(z + 24).toNat, by omega⟩ : Fin 56).val : Nat) : Int) - 24 := by
    show z = (((z + 24).toNat : Nat) : Int) - 24
    omega
  rw [e]
  exact key _
/-! what the law's heap holds: reading over a change -/
section DQH
variable {Y Y' Y'' : dw_S} {k kd len i j a q : Nat} {v : Int32} {o : Option Nat} {f : Nat → Int32} {g : Nat → Option Nat}
theorem dq_i_pi : dw_i (dw_pi Y k i v) q j = if q = k ∧ j = i then v else dw_i Y q j := by
  show tw_up Y.2.2.2.1 k i v q j = _
  unfold tw_up upd
  by_cases h : q = k
  · subst h
    rw [if_pos rfl]
    by_cases h2 : j = i
    · rw [if_pos h2, if_pos ⟨rfl, h2⟩]
    · rw [if_neg h2, if_neg (fun z => h2 z.2)]; rfl
  · rw [if_neg h, if_neg (fun z => h z.1)]; rfl
theorem dq_i_pi_s : dw_i (dw_pi Y k i v) k i = v := by rw [dq_i_pi, if_pos ⟨rfl, rfl⟩]
theorem dq_i_pi_n (h : q = k → j ≠ i) : dw_i (dw_pi Y k i v) q j = dw_i Y q j := by rw [dq_i_pi, if_neg (fun z => h z.1 z.2)]
theorem dq_r_pi : dw_r (dw_pi Y k i v) q j = dw_r Y q j := rfl
theorem dq_r_pr : dw_r (dw_pr Y k i o) q j = if q = k ∧ j = i then o else dw_r Y q j := by
  show va_up Y.2.2.2.2 k (va_up (Y.2.2.2.2 k) i o) q j = _
  unfold va_up
  by_cases h : q = k
  · subst h
    rw [if_pos rfl]
    by_cases h2 : j = i
    · rw [if_pos h2, if_pos ⟨rfl, h2⟩]
    · rw [if_neg h2, if_neg (fun z => h2 z.2)]; rfl
  · rw [if_neg h, if_neg (fun z => h z.1)]; rfl
theorem dq_r_pr_s : dw_r (dw_pr Y k i o) k i = o := by rw [dq_r_pr, if_pos ⟨rfl, rfl⟩]
theorem dq_r_pr_n (h : q = k → j ≠ i) : dw_r (dw_pr Y k i o) q j = dw_r Y q j := by rw [dq_r_pr, if_neg (fun z => h z.1 z.2)]
theorem dq_i_pr : dw_i (dw_pr Y k i o) q j = dw_i Y q j := rfl
theorem dq_k_nw_n (h : q ≠ a) : dw_k (dw_nw Y a kd len f g) q = dw_k Y q := by
  show (va_up Y.2.2.1 a (kd, len) q).1 = _
  unfold va_up; rw [if_neg h]; rfl
theorem dq_l_nw_n (h : q ≠ a) : dw_l (dw_nw Y a kd len f g) q = dw_l Y q := by
  show (va_up Y.2.2.1 a (kd, len) q).2 = _
  unfold va_up; rw [if_neg h]; rfl
theorem dq_i_nw_n (h : q ≠ a) : dw_i (dw_nw Y a kd len f g) q j = dw_i Y q j := by
  show tw_upA Y.2.2.2.1 a f q j = _
  unfold tw_upA; rw [if_neg h]; rfl
theorem dq_r_nw_n (h : q ≠ a) : dw_r (dw_nw Y a kd len f g) q j = dw_r Y q j := by
  show va_up Y.2.2.2.2 a g q j = _
  unfold va_up; rw [if_neg h]; rfl
/-- what may change: ints in Si, references in Sr; whatever is new -/
def dq_fr (Si Sr : Nat → Nat → Prop) (Y Y' : dw_S) : Prop := dw_s Y' = dw_s Y ∧ dw_n Y ≤ dw_n Y' ∧ (∀ k, k < dw_n Y → dw_k Y' k = dw_k Y k ∧ dw_l Y' k = dw_l Y k) ∧ (∀ k j, k < dw_n Y → ¬ Si k j → dw_i Y' k j = dw_i Y k j) ∧ ∀ k j, k < dw_n Y → ¬ Sr k j → dw_r Y' k j = dw_r Y k j
variable {Si Sr Ti Tr : Nat → Nat → Prop}
theorem dq_fr_refl : dq_fr Si Sr Y Y := ⟨rfl, Nat.le_refl _, fun _ _ => ⟨rfl, rfl⟩, fun _ _ _ _ => rfl, fun _ _ _ _ => rfl⟩
theorem dq_fr_trans (h : dq_fr Si Sr Y Y') (h' : dq_fr Ti Tr Y' Y'') (hi : ∀ k j, k < dw_n Y → Ti k j → Si k j) (hr : ∀ k j, k < dw_n Y → Tr k j → Sr k j) : dq_fr Si Sr Y Y'' := by
  obtain ⟨a1, a2, a3, a4, a5⟩ := h
  obtain ⟨b1, b2, b3, b4, b5⟩ := h'
  refine ⟨b1.trans a1, Nat.le_trans a2 b2, fun k hk => ?_, fun k j hk hs => ?_, fun k j hk hs => ?_⟩
  · obtain ⟨c1, c2⟩ := b3 k (by omega)
    obtain ⟨d1, d2⟩ := a3 k hk
    exact ⟨c1.trans d1, c2.trans d2⟩
  · exact (b4 k j (by omega) (fun z => hs (hi k j hk z))).trans (a4 k j hk hs)
  · exact (b5 k j (by omega) (fun z => hs (hr k j hk z))).trans (a5 k j hk hs)
theorem dq_fr_tr (h : dq_fr Si Sr Y Y') (h' : dq_fr Si Sr Y' Y'') : dq_fr Si Sr Y Y'' := dq_fr_trans h h' (fun _ _ _ z => z) (fun _ _ _ z => z)
theorem dq_fr_mono (h : dq_fr Ti Tr Y Y') (hi : ∀ k j, k < dw_n Y → Ti k j → Si k j) (hr : ∀ k j, k < dw_n Y → Tr k j → Sr k j) : dq_fr Si Sr Y Y' := dq_fr_trans dq_fr_refl h hi hr
theorem dq_fr_pi (F : dq_fr Si Sr Y Y') (h : k < dw_n Y → Si k i) : dq_fr Si Sr Y (dw_pi Y' k i v) := by
  obtain ⟨a1, a2, a3, a4, a5⟩ := F
  refine ⟨a1, a2, a3, fun q j hq hs => ?_, a5⟩
  rw [dq_i_pi_n (fun e1 e2 => hs (by rw [e1, e2]; exact h (by rw [← e1]; exact hq)))]
  exact a4 q j hq hs
theorem dq_fr_pr (F : dq_fr Si Sr Y Y') (h : k < dw_n Y → Sr k i) : dq_fr Si Sr Y (dw_pr Y' k i o) := by
  obtain ⟨a1, a2, a3, a4, a5⟩ := F
  refine ⟨a1, a2, a3, a4, fun q j hq hs => ?_⟩
  rw [dq_r_pr_n (fun e1 e2 => hs (by rw [e1, e2]; exact h (by rw [← e1]; exact hq)))]
  exact a5 q j hq hs
theorem dq_fr_pA (F : dq_fr Si Sr Y Y') (h : k < dw_n Y → ∀ j, Si k j) : dq_fr Si Sr Y (dw_pA Y' k f) := by
  obtain ⟨a1, a2, a3, a4, a5⟩ := F
  refine ⟨a1, a2, a3, fun q j hq hs => ?_, a5⟩
  have e : q ≠ k := fun e => hs (by rw [e]; exact h (by rw [← e]; exact hq) j)
  show tw_upA Y'.2.2.2.1 k f q j = _
  unfold tw_upA; rw [if_neg e]
  exact a4 q j hq hs
theorem dq_fr_nw (F : dq_fr Si Sr Y Y') (ha : dw_n Y' ≤ a) : dq_fr Si Sr Y (dw_nw Y' a kd len f g) := by
  obtain ⟨a1, a2, a3, a4, a5⟩ := F
  refine ⟨a1, ?_, fun q hq => ?_, fun q j hq hs => ?_, fun q j hq hs => ?_⟩
  · show dw_n Y ≤ a + 1
    omega
  · rw [dq_k_nw_n (by omega), dq_l_nw_n (by omega)]; exact a3 q hq
  · rw [dq_i_nw_n (by omega)]; exact a4 q j hq hs
  · rw [dq_r_nw_n (by omega)]; exact a5 q j hq hs
theorem dq_is_fr (F : dq_fr Si Sr Y Y') (h : dw_is Y k kd) : dw_is Y' k kd := by
  obtain ⟨-, a2, a3, -⟩ := F
  obtain ⟨h1, h2, h3⟩ := h
  exact ⟨Nat.lt_of_lt_of_le h1 a2, h2, (a3 k h1).1.trans h3⟩
theorem dq_is_new (h4 : 442 ≤ dw_n Y) (ha : dw_n Y ≤ a) : dw_is (dw_nw Y a kd len f g) a kd := ⟨Nat.lt_succ_self a, by omega, dw_nw_k⟩
theorem dq_is_nw {kd' : Nat} (h : dw_is Y k kd) (ha : dw_n Y ≤ a) : dw_is (dw_nw Y a kd' len f g) k kd := dq_is_fr (Si := fun _ _ => False) (Sr := fun _ _ => False) (dq_fr_nw dq_fr_refl ha) h
/-- an array -/
def dq_A1 (Y : dw_S) (k kd len : Nat) : Prop := dw_is Y k kd ∧ dw_l Y k = len
theorem dq_A1_fr (F : dq_fr Si Sr Y Y') (h : dq_A1 Y k kd len) : dq_A1 Y' k kd len := ⟨dq_is_fr F h.1, (F.2.2.1 k h.1.1).2.trans h.2⟩
theorem dq_A1_new (h4 : 442 ≤ dw_n Y) (ha : dw_n Y ≤ a) : dq_A1 (dw_nw Y a kd len f g) a kd len := ⟨dq_is_new h4 ha, dw_nw_l⟩
theorem dq_A1_ok {m : Nat} (h : dq_A1 Y k kd len) (hm : m < len) (hl : len < 100000) : dw_is Y k kd ∧ tw_ok (Int32.ofNat m) (dw_l Y k) = true := ⟨h.1, by rw [h.2]; exact pu_ok (by omega) hm⟩
theorem dq_A1_okn {m : Nat} (h : dq_A1 Y k kd len) (hm : m < len) (hl : len < 100000) : dw_is Y k kd ∧ tw_ok (Int32.ofNat m) len = true := ⟨h.1, pu_ok (by omega) hm⟩
theorem dq_A1_len (h : dq_A1 Y k kd len) : Int32.ofNat (dw_l Y k) = Int32.ofNat len := by rw [h.2]
end DQH
