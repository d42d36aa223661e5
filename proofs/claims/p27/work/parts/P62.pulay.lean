/-! the reference lays the sets of all legs -/
def pu_En (q l : Nat) : Nat := 459 + 10 * q + l
noncomputable def pu_bi (P : Prop) : Int32 := if pu_B P then 1 else 0
theorem pu_bi_t {P : Prop} (h : P) : pu_bi P = 1 := by unfold pu_bi; rw [pu_B_t h]; rfl
theorem pu_bi_f {P : Prop} (h : ¬ P) : pu_bi P = 0 := by unfold pu_bi; rw [pu_B_f h]; rfl
theorem pu_bi_cong {P Q : Prop} (h : P ↔ Q) : pu_bi P = pu_bi Q := by unfold pu_bi; rw [pu_B_cong h]
theorem pu_bi_01 {P : Prop} : tw_01 (pu_bi P) = true := by
  by_cases h : P
  · rw [pu_bi_t h]; rfl
  · rw [pu_bi_f h]; rfl
theorem pu_bi_0 {P : Prop} : pu_bi P = 0 ↔ ¬ P := by
  by_cases h : P
  · rw [pu_bi_t h]; exact ⟨fun e => absurd e (by decide), fun n => absurd h n⟩
  · rw [pu_bi_f h]; exact ⟨fun _ => h, fun _ => rfl⟩
/-- the row A holds the set P of the cells below m -/
def pu_es (σ : tw_Sg) (A m : Nat) (P : Nat → Prop) : Prop := ∀ d, d < m → σ A d = pu_bi (P d)
theorem pu_es_cong {σ σ' : tw_Sg} {A m : Nat} {P : Nat → Prop} (h : pu_es σ A m P) (e : σ' A = σ A) : pu_es σ' A m P := fun d hd => by rw [e]; exact h d hd
theorem pu_es_ext {σ : tw_Sg} {A m : Nat} {P Q : Nat → Prop} (h : pu_es σ A m P) (e : ∀ d, d < m → (P d ↔ Q d)) : pu_es σ A m Q := fun d hd => (h d hd).trans (pu_bi_cong (e d hd))
theorem pu_es_set {σ : tw_Sg} {A m x : Nat} {P : Nat → Prop} (h : pu_es σ A m P) : pu_es (tw_up σ A x 1) A m (fun d => P d ∨ d = x) := by
  intro d hd
  rw [tw_up_s]
  unfold upd
  by_cases e : d = x
  · rw [if_pos e, pu_bi_t (Or.inr e)]
  · rw [if_neg e, h d hd]
    exact pu_bi_cong ⟨Or.inl, fun z => z.elim id (fun y => absurd y e)⟩
def pu_F10 (k : Nat) : Prop := pu_F9 k ∨ (459 ≤ k ∧ k < 498)
theorem pu_nar1 : vp_nar .boolean (1 : Int32) = 1 := by decide
theorem pu_nar0 : vp_nar .boolean (0 : Int32) = 0 := by decide
/-- all sets laid -/
def pu_ends (σ : tw_Sg) (a : Nat → Int32) (w h nb nc : Nat) : Prop := ∀ q, q < nc → ∀ l, l ≤ pu_nl a q → pu_es σ (pu_En q l) (w * h) (pu_Fw a w h nb q l)
def pu_F11 (k : Nat) : Prop := k = 442 ∨ pu_F10 k
