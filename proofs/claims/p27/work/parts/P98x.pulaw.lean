/-! THE LAW'S TURN -/
/-- what holds between the law's turns -/
def pu_Inv (σ : tw_Sg) : Prop := ∃ (w h nb nc cn len : Nat) (a : Nat → Int32) (hist : Nat → Nat → Int32) (buf : Nat → Nat) (err : Int32), pu_IC σ w h nb nc a cn hist len buf err ∧ pu_IR σ w h nb nc a cn hist len buf err
section LAW
variable {σ : tw_Sg} {w h nb nc cn len n : Nat} {a : Nat → Int32} {hist : Nat → Nat → Int32} {buf : Nat → Nat} {err : Int32} {Q : Int32 → Prop}
theorem pu_cmp0 {x y : Int32} (h : x = y) : lg_cmp (Int32.toInt64 x) (Int32.toInt64 y) = 0 := by
  rw [h]
  exact (lg_cmp_eq _ _).mpr rfl
/-- a question: the class's and the reference's -/
theorem pu_quC (I : pu_IC σ w h nb nc a cn hist len buf err) (J : pu_IR σ w h nb nc a cn hist len buf err) {s : tw_Sg} (hf : pu_fr pu_SQ σ s) : pu_IC s w h nb nc a cn hist len buf err ∧ pu_IR s w h nb nc a cn hist len buf err := ⟨pu_IC_SQ I hf, pu_IR_fr I.1 J (fun k h1 h2 => hf k (by unfold pu_SQ; omega))⟩
theorem pu_quR {s t : tw_Sg} (I : pu_IC s w h nb nc a cn hist len buf err) (J : pu_IR s w h nb nc a cn hist len buf err) (hL : pu_RL t a w h nb nc) (hi : ∀ i, i ≠ 0 → i ≠ 22 → t 442 i = s 442 i) (hf : pu_fr pu_FQ s t) : t 1036 = s 1036 ∧ pu_Inv t := ⟨hf 1036 (by unfold pu_FQ; omega), _, _, _, _, _, _, _, _, _, _, pu_IC_fr I (fun k h1 _ => hf k (by unfold pu_FQ; omega)), pu_IR_Q J hL hi hf⟩
theorem pu_ansB {α : Type} {d : DecidableEq α} {E1 : Option (α × tw_Sg)} {E2 : tw_Sg → Option (α × tw_Sg)} {j2 : tw_Sg → Option Int32} {v : α} {PC : tw_Sg → Prop} (hC : pu_wp E1 (fun r => r.1 = v ∧ PC r.2)) (hR : ∀ s, PC s → pu_wp (E2 s) (fun r => r.1 = v ∧ pu_Inv r.2)) (hj : ∀ s, pu_Inv s → pu_wp (j2 s) Q) : pu_wp (tw_bd E1 (fun r5 => tw_bd (E2 r5.2) (fun r6 => if r5.1 = r6.1 then (j2 r6.2) else (some (0 : Int32))))) Q := by
  refine pu_bd hC (fun r hr => pu_bd (hR r.2 hr.2) (fun r' hr' => pu_ift (hr.1.trans hr'.1.symm) (hj _ hr'.2)))
theorem pu_QRv {s : tw_Sg} {v : Int32} {r : Int32 × tw_Sg} (hq : pu_QR s a w h nb nc (.inl v) r) : r.1 = v ∧ pu_RL r.2 a w h nb nc ∧ (∀ i, i ≠ 0 → i ≠ 22 → r.2 442 i = s 442 i) ∧ pu_fr pu_FQ s r.2 := ⟨hq.2.1 v rfl, hq.2.2.1, hq.2.2.2.1, hq.2.2.2.2⟩
theorem pu_Inv_R {s t : tw_Sg} {w' h' nb' nc' cn' len' : Nat} {a' : Nat → Int32} {hist' : Nat → Nat → Int32} {buf' : Nat → Nat} {err' : Int32} (I : pu_IC s w' h' nb' nc' a' cn' hist' len' buf' err') (J : pu_IR t w' h' nb' nc' a' cn' hist' len' buf' err') (hf : pu_fr pu_fR s t) : pu_Inv t := ⟨_, _, _, _, _, _, _, _, _, _, pu_IC_fr I (fun k h1 _ => hf k (by unfold pu_fR; omega)), J⟩
theorem pu_IR_C {s t : tw_Sg} (H : pu_WF a w h nb nc) (J : pu_IR s w h nb nc a cn hist len buf err) (hf : pu_fr pu_fC s t) : pu_IR t w h nb nc a cn hist len buf err := pu_IR_fr H J (fun k h1 h2 => hf k (by unfold pu_fC; omega))
end LAW
/-! no fault has the number 0 -/
section NZ
variable {a : Nat → Int32} {w h nb nc : Nat} {k : Int32}
theorem pu_z1 {o : Int32 ⊕ Int32} (e : o = .inr 1) (hk : o = .inr k) : k ≠ 0 := by
  rw [e] at hk
  rw [← Sum.inr.inj hk]
  decide
theorem pu_z2 {o : Int32 ⊕ Int32} (e : o = .inr 2) (hk : o = .inr k) : k ≠ 0 := by
  rw [e] at hk
  rw [← Sum.inr.inj hk]
  decide
theorem pu_zl {o : Int32 ⊕ Int32} {v : Int32} (e : o = .inl v) (hk : o = .inr k) : k ≠ 0 := by
  rw [e] at hk
  cases hk
theorem pu_zite {c : Prop} {d : Decidable c} {x y : Int32 ⊕ Int32} (hx : ∀ k, x = .inr k → k ≠ 0) (hy : ∀ k, y = .inr k → k ≠ 0) (hk : (if c then x else y) = .inr k) : k ≠ 0 := by
  by_cases e : c
  · rw [if_pos e] at hk; exact hx k hk
  · rw [if_neg e] at hk; exact hy k hk
theorem pu_n1 (k : Int32) (hk : (.inr 1 : Int32 ⊕ Int32) = .inr k) : k ≠ 0 := pu_z1 rfl hk
theorem pu_n2 (k : Int32) (hk : (.inr 2 : Int32 ⊕ Int32) = .inr k) : k ≠ 0 := pu_z2 rfl hk
theorem pu_nl0 {v : Int32} (k : Int32) (hk : (.inl v : Int32 ⊕ Int32) = .inr k) : k ≠ 0 := pu_zl rfl hk
theorem pu_zState {P : Nat} {x : Int32} (k : Int32) (hk : pu_oState a w h nb nc P x = .inr k) : k ≠ 0 := by
  unfold pu_oState at hk
  exact pu_zite (fun k hk => pu_zl rfl hk) pu_n1 hk
theorem pu_zCell {x y : Int32} (k : Int32) (hk : pu_oCell a w h nb nc x y = .inr k) : k ≠ 0 := by
  unfold pu_oCell at hk
  cases e0 : pu_cellOf w h x y with
  | none =>
    rw [e0] at hk
    exact pu_n1 k hk
  | some u0 =>
    rw [e0] at hk
    dsimp only [] at hk
    exact pu_zl rfl hk
theorem pu_zPace {x y b : Int32} (k : Int32) (hk : pu_oPace a w h nb x y b = .inr k) : k ≠ 0 := by
  unfold pu_oPace at hk
  cases e0 : pu_cellOf w h x y with
  | none =>
    rw [e0] at hk
    exact pu_n1 k hk
  | some u0 =>
    rw [e0] at hk
    dsimp only [] at hk
    exact pu_zite (fun k hk => pu_zl rfl hk) pu_n2 hk
theorem pu_zReached {q l : Int32} (k : Int32) (hk : pu_oReached a w h nb nc q l = .inr k) : k ≠ 0 := by
  unfold pu_oReached at hk
  cases e0 : pu_clueOf nc q with
  | none =>
    rw [e0] at hk
    exact pu_n1 k hk
  | some u0 =>
    rw [e0] at hk
    dsimp only [] at hk
    exact pu_zite (fun k hk => pu_zl rfl hk) pu_n2 hk
theorem pu_zEnds {q x y : Int32} (k : Int32) (hk : pu_oEnds a w h nb nc q x y = .inr k) : k ≠ 0 := by
  unfold pu_oEnds at hk
  cases e0 : pu_clueOf nc q with
  | none =>
    rw [e0] at hk
    exact pu_n1 k hk
  | some u0 =>
    rw [e0] at hk
    dsimp only [] at hk
    cases e1 : pu_cellOf w h x y with
    | none =>
      rw [e1] at hk
      exact pu_n1 k hk
    | some u1 =>
      rw [e1] at hk
      dsimp only [] at hk
      exact pu_zl rfl hk
theorem pu_zWhy {x y : Int32} (k : Int32) (hk : pu_oWhy a w h nb nc x y = .inr k) : k ≠ 0 := by
  unfold pu_oWhy at hk
  cases e0 : pu_cellOf w h x y with
  | none =>
    rw [e0] at hk
    exact pu_n1 k hk
  | some u0 =>
    rw [e0] at hk
    dsimp only [] at hk
    exact pu_zl rfl hk
theorem pu_zWalk {q x y l : Int32} (k : Int32) (hk : pu_oWalk a w h nb nc q x y l = .inr k) : k ≠ 0 := by
  unfold pu_oWalk at hk
  cases e0 : pu_clueOf nc q with
  | none =>
    rw [e0] at hk
    exact pu_n1 k hk
  | some u0 =>
    rw [e0] at hk
    dsimp only [] at hk
    cases e1 : pu_cellOf w h x y with
    | none =>
      rw [e1] at hk
      exact pu_n1 k hk
    | some u1 =>
      rw [e1] at hk
      dsimp only [] at hk
      cases e2 : pu_clueOf (pu_nl a u0) l with
      | none =>
        rw [e2] at hk
        exact pu_n1 k hk
      | some u2 =>
        rw [e2] at hk
        dsimp only [] at hk
        exact pu_zite (fun k hk => pu_zl rfl hk) pu_n2 hk
theorem pu_zStarts {q x y : Int32} (k : Int32) (hk : pu_oStarts a w h nb nc q x y = .inr k) : k ≠ 0 := by
  unfold pu_oStarts at hk
  cases e0 : pu_clueOf nc q with
  | none =>
    rw [e0] at hk
    exact pu_n1 k hk
  | some u0 =>
    rw [e0] at hk
    dsimp only [] at hk
    cases e1 : pu_cellOf w h x y with
    | none =>
      rw [e1] at hk
      exact pu_n1 k hk
    | some u1 =>
      rw [e1] at hk
      dsimp only [] at hk
      exact pu_zl rfl hk
theorem pu_zDist {x y : Int32} (k : Int32) (hk : pu_oDist a w h x y = .inr k) : k ≠ 0 := by
  unfold pu_oDist at hk
  cases e0 : pu_cellOf w h x y with
  | none =>
    rw [e0] at hk
    exact pu_n1 k hk
  | some u0 =>
    rw [e0] at hk
    dsimp only [] at hk
    exact pu_zl rfl hk
theorem pu_zPart {x y : Int32} (k : Int32) (hk : pu_oPart a w h nb nc x y = .inr k) : k ≠ 0 := by
  unfold pu_oPart at hk
  cases e0 : pu_cellOf w h x y with
  | none =>
    rw [e0] at hk
    exact pu_n1 k hk
  | some u0 =>
    rw [e0] at hk
    dsimp only [] at hk
    exact pu_zl rfl hk
theorem pu_zMove {x y : Int32} (k : Int32) (hk : pu_oMove a w h x y = .inr k) : k ≠ 0 := by
  unfold pu_oMove at hk
  cases e0 : pu_cellOf w h x y with
  | none =>
    rw [e0] at hk
    exact pu_n1 k hk
  | some u0 =>
    rw [e0] at hk
    dsimp only [] at hk
    exact pu_zite (fun k hk => pu_zl rfl hk) (fun k hk => pu_zl rfl hk) hk
theorem pu_zUse {q x : Int32} (k : Int32) (hk : pu_oUse a w h nb nc q x = .inr k) : k ≠ 0 := by
  unfold pu_oUse at hk
  cases e0 : pu_clueOf nc q with
  | none =>
    rw [e0] at hk
    exact pu_n1 k hk
  | some u0 =>
    rw [e0] at hk
    dsimp only [] at hk
    exact pu_zl rfl hk
theorem pu_zHide {x : Int32} (k : Int32) (hk : pu_oHide a w h nb nc x = .inr k) : k ≠ 0 := by
  unfold pu_oHide at hk
  cases e0 : pu_hideOf x with
  | none =>
    rw [e0] at hk
    exact pu_n1 k hk
  | some u0 =>
    rw [e0] at hk
    dsimp only [] at hk
    exact pu_zl rfl hk
theorem pu_zTurn {q x : Int32} (k : Int32) (hk : pu_oTurn a nb q x = .inr k) : k ≠ 0 := by
  unfold pu_oTurn at hk
  cases e0 : pu_clueOf nb q with
  | none =>
    rw [e0] at hk
    exact pu_n1 k hk
  | some u0 =>
    rw [e0] at hk
    dsimp only [] at hk
    exact pu_zite (fun k hk => pu_zl rfl hk) pu_n2 hk
end NZ
