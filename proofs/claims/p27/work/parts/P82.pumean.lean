/-! meanDistance -/
theorem pu_nnv {s k : Int32} (hk : k ≠ 0) : tw_nn (FP.ddiv (FP.i2d s) (FP.i2d k)) = true := by
  have h1 := Jvm.FP.Core.i2d_mag s
  have h2 := Jvm.FP.Core.i2d_big (v := k) (Jvm.FP.Core.int32_ne hk)
  have h3 := Jvm.FP.Core.ddiv_mag (K := 1056) (L := 1023) h1 h2.1 h2.2 (by decide) (by decide)
  unfold tw_nn
  refine decide_eq_true ?_
  rw [UInt64.le_iff_toNat_le, UInt64.toNat_and]
  show (Jvm.FP.Core.ddiv (Jvm.FP.Core.i2d s) (Jvm.FP.Core.i2d k)).toNat &&& (2 ^ 63 - 1) ≤ 9218868437227405312
  rw [Nat.and_two_pow_sub_one_eq_mod]
  omega
/-- how many of the cells below m are left and can be come to, and their distances' sum -/
def pu_ms (p : Nat → Bool) (D : Nat → Int) : Nat → Nat × Int32
  | 0 => (0, 0)
  | m + 1 => if p m = true ∧ 0 ≤ D m then ((pu_ms p D m).1 + 1, (pu_ms p D m).2 + Int32.ofInt (D m)) else pu_ms p D m
theorem pu_ms_S {p : Nat → Bool} {D : Nat → Int} {m : Nat} : pu_ms p D (m + 1) = if p m = true ∧ 0 ≤ D m then ((pu_ms p D m).1 + 1, (pu_ms p D m).2 + Int32.ofInt (D m)) else pu_ms p D m := rfl
theorem pu_ms_le {p : Nat → Bool} {D : Nat → Int} : ∀ m, (pu_ms p D m).1 ≤ m
  | 0 => Nat.le_refl _
  | m + 1 => by
    have := pu_ms_le (p := p) (D := D) m
    rw [pu_ms_S]
    split
    · show (pu_ms p D m).1 + 1 ≤ m + 1
      omega
    · omega
noncomputable def pu_oMean (a : Nat → Int32) (w h nb nc : Nat) : UInt64 := if (pu_ms (pu_left a w h nb nc) (pu_D a w h) (w * h)).1 = 0 then FP.dconst0 else FP.ddiv (FP.i2d (pu_ms (pu_left a w h nb nc) (pu_D a w h) (w * h)).2) (FP.i2d (Int32.ofNat (pu_ms (pu_left a w h nb nc) (pu_D a w h) (w * h)).1))
/-- what a question of the reference leaves, whatever it answers -/
def pu_Q0 (σ : tw_Sg) (a : Nat → Int32) (w h nb nc : Nat) (s : tw_Sg) : Prop := s 442 0 = 0 ∧ pu_RL s a w h nb nc ∧ (∀ i, i ≠ 0 → i ≠ 22 → s 442 i = σ 442 i) ∧ pu_fr pu_FQ σ s
theorem pu_Q0_fr {σ s s' : tw_Sg} {a : Nat → Int32} {w h nb nc : Nat} {T : Nat → Prop} (H : pu_WF a w h nb nc) (hQ : pu_Q0 σ a w h nb nc s) (hf : pu_fr T s s') (hT : ∀ k, T k → k = 455 ∨ k = 456 ∨ (498 ≤ k ∧ k < 1036)) : pu_Q0 σ a w h nb nc s' := by
  obtain ⟨t0, ⟨tL1, tL2⟩, ti, tF⟩ := hQ
  have e42 : s' 442 = s 442 := hf 442 (fun z => by have := hT 442 z; omega)
  have e44 : s' 444 = s 444 := hf 444 (fun z => by have := hT 444 z; omega)
  refine ⟨by rw [e42]; exact t0, ⟨e44.trans tL1, ?_⟩, fun i z1 z2 => by rw [e42]; exact ti i z1 z2, pu_fr_trans tF (pu_fr_mono hf (fun k hk => by have := hT k hk; unfold pu_FQ; omega))⟩
  rw [e42]
  rcases tL2 with z | ⟨z1, z2⟩
  · exact Or.inl z
  · have hnc := H.2.2.1.2.1
    refine Or.inr ⟨z1, fun q hq l hl => pu_es_cong (z2 q hq l hl) (hf _ (fun z => ?_))⟩
    have h9 : pu_nl a q < 9 := (H.2.2.1.2.2 q hq).2.2.1.2
    have := hT _ z
    unfold pu_En at this; omega
theorem pu_Q0_RS {σ s s' : tw_Sg} {a : Nat → Int32} {w h nb nc : Nat} (hQ : pu_Q0 σ a w h nb nc s) (hL : pu_RL s' a w h nb nc) (hS : pu_RS s s') : pu_Q0 σ a w h nb nc s' := by
  obtain ⟨q1, q2, q3⟩ := pu_RS_FQ hS
  exact ⟨q2.trans hQ.1, hL, fun i z1 z2 => (q1 i z1 z2).trans (hQ.2.2.1 i z1 z2), pu_fr_trans hQ.2.2.2 q3⟩
