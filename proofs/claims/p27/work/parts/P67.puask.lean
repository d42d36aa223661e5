/-! questions: pace, why, cell, ends -/
theorem pu_bcl {α ρ : Type} {e : Option (α ⊕ String)} {k : α → Option ρ} {x : String → Option ρ} {Q : ρ → Prop} {a : α} (h : e = some (.inl a)) (q : pu_wp (k a) Q) : pu_wp (tw_bc e k x) Q := by subst h; exact q
theorem pu_bcr {α ρ : Type} {e : Option (α ⊕ String)} {k : α → Option ρ} {x : String → Option ρ} {Q : ρ → Prop} {s : String} (h : e = some (.inr s)) (q : pu_wp (x s) Q) : pu_wp (tw_bc e k x) Q := by subst h; exact q
theorem pu_bcw {α ρ : Type} {e : Option (α ⊕ String)} {k : α → Option ρ} {x : String → Option ρ} {Q : ρ → Prop} {R : α ⊕ String → Prop} (h : pu_wp e R) (q1 : ∀ a, R (.inl a) → pu_wp (k a) Q) (q2 : ∀ s, R (.inr s) → pu_wp (x s) Q) : pu_wp (tw_bc e k x) Q := by
  obtain ⟨r, rfl, hr⟩ := h
  cases r with
  | inl a => exact q1 a hr
  | inr s => exact q2 s hr
theorem pu_bxl {α ρ : Type} {e : Option (α ⊕ String)} {k : α → Option (ρ ⊕ String)} {Q : ρ ⊕ String → Prop} {a : α} (h : e = some (.inl a)) (q : pu_wp (k a) Q) : pu_wp (tw_bx e k) Q := by subst h; exact q
theorem pu_bxr {α ρ : Type} {e : Option (α ⊕ String)} {k : α → Option (ρ ⊕ String)} {Q : ρ ⊕ String → Prop} {s : String} (h : e = some (.inr s)) (q : Q (.inr s)) : pu_wp (tw_bx e k) Q := by subst h; exact pu_some q
theorem pu_numS {σ : tw_Sg} {th w h : Nat} {o : Option Nat} (hσ : σ th 0 = Int32.ofNat w) (w1 : 0 < w) (w2 : w ≤ 20) (h2 : h ≤ 20) (ho : ∀ d, o = some d → d < w * h) : tw_P_X2_numberOf th (pu_eS w o) σ = some (pu_eR o) := by
  cases o with
  | none => exact pu_numberOf0
  | some d =>
    have := ho d rfl
    have := pu_m400 w2 h2
    exact pu_numberOf hσ w1 w2 (by omega)
theorem pu_hasS {σ : tw_Sg} {th w h c : Nat} {p : Nat → Bool} (hk : tw_kd th = 0) (hw : w ≤ 20) (hh : h ≤ 20) (hc : c < w * h) (hp : pu_set σ (th + 1) w (w * h) p) : tw_P_X0_has th (Int32.ofNat (pu_sp w c)) σ = some (pu_b1 (p c)) := by
  have := pu_sp_rng hw hh hc
  rw [pu_has hk (by omega), hp.1 c hc]
  rfl
theorem pu_CCdim {σ : tw_Sg} {a : Nat → Int32} {w h nb nc : Nat} (H : pu_WF a w h nb nc) (C : pu_CC σ a w h nb nc) : σ 1 0 = Int32.ofNat w ∧ σ 1 1 = Int32.ofNat h ∧ σ 14 0 = Int32.ofNat nc := ⟨C.1.1.1.trans H.1.1, C.1.1.2.1.trans H.1.2.1, C.1.1.2.2.2.2.2.1.trans H.2.2.1.1⟩
theorem pu_CC_fr {σ σ' : tw_Sg} {a : Nat → Int32} {w h nb nc : Nat} (H : pu_WF a w h nb nc) (C : pu_CC σ a w h nb nc) (hf : ∀ k, k < 112 → σ' k = σ k) : pu_CC σ' a w h nb nc := by
  refine ⟨pu_CD_fr H.1 H.2.1.2.1 H.2.2.1 C.1 (fun k hk => hf k (by omega)), fun q hq l hl => pu_set_cong (C.2.1 q hq l hl) (hf _ ?_), fun c hc => ?_⟩
  · have h1 := H.2.2.1.2.1
    have h2 : pu_nl a q < 9 := (H.2.2.1.2.2 q hq).2.2.1.2
    unfold pu_La; omega
  · rw [hf 35 (by omega)]
    exact C.2.2 c hc
/-! pace -/
def pu_oPace (a : Nat → Int32) (w h nb : Nat) (x y b : Int32) : Int32 ⊕ Int32 := match pu_cellOf w h x y with
  | none => .inr 1
  | some c => if 0 ≤ b.toInt ∧ b.toInt ≤ 7 then .inl (pu_eR (pu_step a w h nb c b.toNatClampNeg)) else .inr 2
theorem pu_cpace {σ : tw_Sg} {a : Nat → Int32} {w h nb nc n : Nat} {x y b : Int32} (H : pu_WF a w h nb nc) (C : pu_CC σ a w h nb nc) : pu_wp (tw_P_L_pace n x y b σ) (pu_QC σ (pu_oPace a w h nb x y b)) := by
  obtain ⟨dw, dh, dn⟩ := pu_CCdim H C
  obtain ⟨-, -, w1, w2, h1, h2⟩ := id H.1
  have hcs := pu_checkedSpot (x := x) (y := y) dw dh w2 h2
  unfold tw_P_L_pace
  cases e : pu_cellOf w h x y with
  | none =>
    rw [e] at hcs
    have ho : pu_oPace a w h nb x y b = .inr 1 := by unfold pu_oPace; rw [e]
    refine pu_bcr (s := "java/lang/IndexOutOfBoundsException") (by unfold tw_P_X11_pace; rw [hcs]; rfl) ?_
    exact pu_ift rfl (pu_some (pu_fault ho))
  | some c =>
    rw [e] at hcs
    have hc := pu_cellOf_lt e
    refine pu_bcw (R := fun r => (r = .inr "java/lang/IllegalArgumentException" ∧ pu_oPace a w h nb x y b = .inr 2) ∨ ∃ v, r = .inl v ∧ pu_oPace a w h nb x y b = .inl v) ?_ (fun v hv => ?_) (fun s hs => ?_)
    · unfold tw_P_X11_pace
      refine pu_bxl hcs (pu_lt (pu_jn0 (pu_if (fun c1 => ?_) (fun c1 => pu_if (fun c2 => ?_) (fun c2 => ?_)))))
      · refine pu_some (Or.inl ⟨rfl, ?_⟩)
        unfold pu_oPace
        rw [Int32.lt_iff_toInt_lt, pu_toInt0] at c1
        rw [e]
        exact if_neg (by omega)
      · rw [Int32.lt_iff_toInt_lt, pu_toInt0] at c1
        rw [Int32.lt_iff_toInt_lt, show (8 : Int32).toInt = 8 from by decide] at c2
        obtain ⟨b1, b2, b3⟩ := pu_back (x := b) (by omega)
        have ho : pu_oPace a w h nb x y b = .inl (pu_eR (pu_step a w h nb c b.toNatClampNeg)) := by
          unfold pu_oPace
          rw [e]
          exact if_pos ⟨by omega, by omega⟩
        generalize b.toNatClampNeg = bb at b1 b2 b3 ho
        subst b1
        refine pu_bde (pu_cstep H.1 C.1.2.1 C.2.2 hc (by omega)) ?_
        refine pu_bde (pu_numS dw w1 w2 h2 (fun d hd => pu_step_lt H.1 hc hd)) (pu_some (Or.inr ⟨_, rfl, ho⟩))
      · refine pu_some (Or.inl ⟨rfl, ?_⟩)
        unfold pu_oPace
        rw [Int32.lt_iff_toInt_lt, show (8 : Int32).toInt = 8 from by decide] at c2
        rw [e]
        exact if_neg (by omega)
    · rcases hv with ⟨z, -⟩ | ⟨u, z, ho⟩
      · cases z
      · cases z
        exact pu_tell ho pu_fr_refl
    · rcases hs with ⟨z, ho⟩ | ⟨u, z, -⟩
      · cases z
        exact pu_iff (by decide) (pu_ift rfl (pu_some (pu_fault ho)))
      · cases z
/-! why -/
noncomputable def pu_oWhy (a : Nat → Int32) (w h nb nc : Nat) (x y : Int32) : Int32 ⊕ Int32 := match pu_cellOf w h x y with
  | none => .inr 1
  | some c => .inl (if pu_land a c = false then -1 else match pu_first (pu_bad a w h nb c) nc with | some q => Int32.ofNat (q + 1) | none => 0)
theorem pu_cwhy {σ : tw_Sg} {a : Nat → Int32} {w h nb nc n : Nat} {x y : Int32} (H : pu_WF a w h nb nc) (C : pu_CC σ a w h nb nc) (hn : 30 < n) : pu_wp (tw_P_L_why n x y σ) (pu_QC σ (pu_oWhy a w h nb nc x y)) := by
  obtain ⟨dw, dh, dn⟩ := pu_CCdim H C
  obtain ⟨-, -, w1, w2, h1, h2⟩ := id H.1
  have hcs := pu_checkedSpot (x := x) (y := y) dw dh w2 h2
  unfold tw_P_L_why
  cases e : pu_cellOf w h x y with
  | none =>
    rw [e] at hcs
    have ho : pu_oWhy a w h nb nc x y = .inr 1 := by unfold pu_oWhy; rw [e]
    refine pu_bcr (s := "java/lang/IndexOutOfBoundsException") (by unfold tw_P_X11_why; rw [hcs]; rfl) ?_
    exact pu_ift rfl (pu_some (pu_fault ho))
  | some c =>
    rw [e] at hcs
    have hc := pu_cellOf_lt e
    refine pu_bcw (R := fun r => ∃ v, r = .inl v ∧ pu_oWhy a w h nb nc x y = .inl v) ?_ (fun v hv => ?_) (fun s hs => ?_)
    · unfold tw_P_X11_why
      refine pu_bxl hcs (pu_lt ?_)
      refine pu_bde (pu_hasS (th := 2) pu_kd2 w2 h2 hc C.1.2.1) ?_
      refine pu_jn0 (pu_if (fun c1 => ?_) (fun c1 => ?_))
      · refine pu_some ⟨_, rfl, ?_⟩
        unfold pu_oWhy
        rw [e]
        rw [pu_b1_0] at c1
        exact congrArg Sum.inl (if_pos c1)
      · rw [pu_b1_0] at c1
        refine pu_bde (pu_clueAgainst H.1 H.2.2.1 C.1 C.2.1 hc hn) (pu_some ⟨_, rfl, ?_⟩)
        unfold pu_oWhy
        rw [e]
        exact congrArg Sum.inl (if_neg c1)
    · obtain ⟨u, z, ho⟩ := hv
      cases z
      exact pu_tell ho pu_fr_refl
    · obtain ⟨u, z, -⟩ := hs
      cases z
