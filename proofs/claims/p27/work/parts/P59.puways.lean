/-! WHERE LEGS LEAD -/
noncomputable def pu_B (P : Prop) : Bool := @decide P (Classical.propDecidable P)
theorem pu_B_t {P : Prop} (h : P) : pu_B P = true := @decide_eq_true P (Classical.propDecidable P) h
theorem pu_B_f {P : Prop} (h : ¬ P) : pu_B P = false := @decide_eq_false P (Classical.propDecidable P) h
theorem pu_B_iff {P : Prop} : pu_B P = true ↔ P := ⟨fun h => @of_decide_eq_true P (Classical.propDecidable P) h, pu_B_t⟩
theorem pu_B_cong {P Q : Prop} (h : P ↔ Q) : pu_B P = pu_B Q := by
  by_cases p : P
  · rw [pu_B_t p, pu_B_t (h.mp p)]
  · rw [pu_B_f p, pu_B_f (fun q => p (h.mpr q))]
theorem pu_B_or {P Q : Prop} {b : Bool} (hb : b = true ↔ Q) : (b || pu_B P) = pu_B (P ∨ Q) := by
  by_cases p : P
  · rw [pu_B_t p, pu_B_t (Or.inl p), Bool.or_true]
  · by_cases q : Q
    · rw [hb.mpr q, pu_B_t (Or.inr q)]; rfl
    · have : b = false := by
        cases b
        · rfl
        · exact absurd (hb.mp rfl) q
      rw [this, pu_B_f p, pu_B_f (fun z => z.elim p q)]; rfl
/-- the cell behind i paces -/
def pu_pt (a : Nat → Int32) (w h nb b c : Nat) : Nat → Option Nat
  | 0 => some c
  | i + 1 => match pu_pt a w h nb b c i with | some d => pu_step a w h nb d b | none => none
theorem pu_pt_none {a : Nat → Int32} {w h nb b c i : Nat} (hn : pu_pt a w h nb b c i = none) : ∀ j, pu_pt a w h nb b c (i + j) = none
  | 0 => hn
  | j + 1 => by
    show (match pu_pt a w h nb b c (i + j) with | some d => pu_step a w h nb d b | none => none) = none
    rw [pu_pt_none hn j]
theorem pu_pt_lt {a : Nat → Int32} {w h nb b c : Nat} (hm : pu_wfm a w h) (hc : c < w * h) : ∀ i d, pu_pt a w h nb b c i = some d → d < w * h
  | 0, d, e => by cases e; exact hc
  | i + 1, d, e => by
    have e : (match pu_pt a w h nb b c i with | some d => pu_step a w h nb d b | none => none) = some d := e
    cases hp : pu_pt a w h nb b c i with
    | none => rw [hp] at e; cases e
    | some x =>
      rw [hp] at e
      exact pu_step_lt hm (pu_pt_lt hm hc i x hp) e
/-- whether the leg l of the clue q can end at d behind i paces, i being at most its most -/
def pu_ce (a : Nat → Int32) (w h nb q l d i : Nat) : Bool := if pu_kind a q l = 0 then decide (pu_few a q l ≤ i) else if pu_kind a q l = 1 then decide (pu_goal a q l = some d) else (pu_step a w h nb d (pu_bear a q l)).isNone
def pu_E (a : Nat → Int32) (w h nb q l c d : Nat) : Prop := ∃ i, i ≤ pu_most a q l ∧ pu_pt a w h nb (pu_bear a q l) c i = some d ∧ pu_ce a w h nb q l d i = true
def pu_Fw (a : Nat → Int32) (w h nb q : Nat) : Nat → Nat → Prop
  | 0, d => ∃ k, k < pu_ns a q ∧ pu_sc a q k = d
  | l + 1, d => ∃ c, c < w * h ∧ pu_Fw a w h nb q l c ∧ pu_E a w h nb q l c d
theorem pu_E_lt {a : Nat → Int32} {w h nb q l c d : Nat} (hm : pu_wfm a w h) (hc : c < w * h) (he : pu_E a w h nb q l c d) : d < w * h := by
  obtain ⟨i, -, h2, -⟩ := he
  exact pu_pt_lt hm hc i d h2
/-! the class's legs -/
def pu_La (q l : Nat) : Nat := 41 + 2 * (9 * q + l)
theorem pu_layer {σ : tw_Sg} {q l : Nat} (hq : q < 4) (hl : l < 9) : tw_P_X10_layer (Int32.ofNat q) (Int32.ofNat l) σ = some (40 + 2 * (9 * q + l)) ∧ tw_kd (40 + 2 * (9 * q + l)) = 0 := by
  have hk : tw_kd (40 + 2 * (9 * q + l)) = 0 := eq_of_beq (tw_rng (n := 36) (p := fun i => tw_kd (40 + 2 * i) == 0) (by decide +kernel) (9 * q + l) (by omega))
  refine ⟨?_, hk⟩
  unfold tw_P_X10_layer tw_P_X5_at
  dsimp only [tw_jn, tw_mt]
  have e : Int32.ofNat q * (9 : Int32) + Int32.ofNat l = Int32.ofNat (9 * q + l) := by
    show Int32.ofNat q * Int32.ofNat 9 + Int32.ofNat l = _
    rw [pu_mul, pu_add, Nat.mul_comm]
  rw [e, show tw_ln (36 + 3) = 36 from by decide +kernel, if_neg (pu_nn (by omega)), if_neg (by rw [pu_le (by omega) (by omega)]; omega), pu_ok (by omega) (by omega), pu_n (by omega)]
  simp only [pu_ckt]
  dsimp only [tw_bd]
  rw [show 36 + 3 + 1 + 2 * (9 * q + l) = 40 + 2 * (9 * q + l) from by omega, hk]
  rfl
theorem pu_eS_eq {w h c : Nat} {o : Option Nat} (hw : w ≤ 20) (hh : h ≤ 20) (hc : c < w * h) (ho : ∀ d, o = some d → d < w * h) : Int32.ofNat (pu_sp w c) = pu_eS w o ↔ o = some c := by
  have h1 := pu_sp_rng hw hh hc
  cases o with
  | none =>
    show Int32.ofNat (pu_sp w c) = Int32.ofNat 0 ↔ _
    rw [pu_eq (by omega) (by decide)]
    constructor
    · intro e; omega
    · intro e; cases e
  | some d =>
    have hd := ho d rfl
    have h2 := pu_sp_rng hw hh hd
    show Int32.ofNat (pu_sp w c) = Int32.ofNat (pu_sp w d) ↔ _
    rw [pu_eq (by omega) (by omega)]
    constructor
    · intro e; rw [pu_sp_inj hw hc hd e]
    · intro e; rw [Option.some.inj e]
theorem pu_eS0 {w h : Nat} {o : Option Nat} (hw : w ≤ 20) (hh : h ≤ 20) (ho : ∀ d, o = some d → d < w * h) : pu_eS w o = 0 ↔ o = none := by
  cases o with
  | none => exact ⟨fun _ => rfl, fun _ => rfl⟩
  | some d =>
    have h2 := pu_sp_rng hw hh (ho d rfl)
    show Int32.ofNat (pu_sp w d) = Int32.ofNat 0 ↔ _
    rw [pu_eq (by omega) (by decide)]
    constructor
    · intro e; omega
    · intro e; cases e
/-- what a leg's walk needs of the class -/
def pu_cl1 (σ : tw_Sg) (a : Nat → Int32) (w h nb nc : Nat) : Prop := pu_wfm a w h ∧ pu_wfc a w h nc ∧ pu_CD (pu_bk σ 1) a w h nb nc ∧ pu_twOK σ a w h nb
theorem pu_goal_lt {a : Nat → Int32} {w h q l : Nat} (hl : pu_wfl a w h q l) : ∀ d, pu_goal a q l = some d → d < w * h := by
  intro d hd
  unfold pu_goal at hd
  split at hd
  · rename_i hk
    cases hd
    exact (hl.2.2.2 hk).2.2
  · cases hd
theorem pu_few_lt {a : Nat → Int32} {w h q l : Nat} (hl : pu_wfl a w h q l) : pu_few a q l < 31 ∧ pu_most a q l ≤ 60 := by
  unfold pu_few pu_most
  by_cases hk : pu_kind a q l = 0
  · obtain ⟨⟨-, h1⟩, ⟨-, h2⟩⟩ := hl.2.2.1 hk
    have h1 : pu_many a q l < 31 := h1
    have h2 : pu_give a q l < 6 := h2
    rw [if_pos hk, if_pos hk]
    omega
  · rw [if_neg hk, if_neg hk]
    split <;> omega
theorem pu_canEnd {σ : tw_Sg} {a : Nat → Int32} {w h nb nc q l d i : Nat} (H : pu_cl1 σ a w h nb nc) (hq : q < nc) (hl : l < pu_nl a q) (hd : d < w * h) (hi : i < 1000) : tw_P_X10_canEnd (Int32.ofNat (8 * q + l)) (Int32.ofNat (pu_sp w d)) (Int32.ofNat i) σ = some (if pu_ce a w h nb q l d i then 1 else 0) := by
  obtain ⟨hm, hc, hCD, ht⟩ := H
  have hw := hm.2.2.2.1
  have hh := hm.2.2.2.2.2
  obtain ⟨-, hnc, hcq⟩ := hc
  obtain ⟨-, -, ⟨-, hnl⟩, -, hlq⟩ := hcq q hq
  have hnl : pu_nl a q < 9 := hnl
  have hwl := hlq l hl
  obtain ⟨-, -, -, -, -, hcd⟩ := id hCD
  obtain ⟨-, -, -, -, hcl⟩ := hcd q hq
  obtain ⟨l1, l2, l3, l4, l5⟩ := hcl l hl
  have l1 : σ 24 (8 * q + l) = _ := l1
  have l2 : σ 26 (8 * q + l) = _ := l2
  have l3 : σ 28 (8 * q + l) = _ := l3
  have l5 : σ 32 (8 * q + l) = _ := l5
  have hix : 8 * q + l < 32 := by omega
  obtain ⟨f1, f2⟩ := pu_few_lt hwl
  unfold tw_P_X10_canEnd
  rw [pu_get (N := 32) (by decide +kernel) (by decide) hix, pu_get (N := 32) (by decide +kernel) (by decide) hix, pu_get (N := 32) (by decide +kernel) (by decide) hix, pu_get (N := 32) (by decide +kernel) (by decide) hix]
  dsimp only [tw_bd, tw_lt, tw_jn]
  rw [l1, l2, l3, l5, hwl.1.1, hwl.2.1.1]
  have hk3 : pu_v a (pu_lg q l) < 3 := hwl.1.2
  have hkd : pu_v a (pu_lg q l) = pu_kind a q l := rfl
  rw [hkd] at hk3 ⊢
  unfold pu_ce
  by_cases k0 : pu_kind a q l = 0
  · rw [k0, if_neg (by decide), if_pos rfl]
    by_cases hf : pu_few a q l ≤ i
    · rw [if_neg (by rw [pu_ltn (by omega) (by omega)]; omega), decide_eq_true hf]; rfl
    · rw [if_pos (by rw [pu_ltn (by omega) (by omega)]; omega), decide_eq_false hf]; rfl
  · have k0' : ¬ Int32.ofNat (pu_kind a q l) = 0 := fun e => k0 ((pu_eq (b := 0) (by omega) (by decide)).mp e)
    rw [if_pos k0', if_neg k0]
    by_cases k1 : pu_kind a q l = 1
    · rw [k1, if_neg (by decide), if_pos rfl]
      have he := pu_eS_eq (o := pu_goal a q l) hw hh hd (pu_goal_lt hwl)
      by_cases hg : pu_goal a q l = some d
      · rw [if_neg (not_not_intro (he.mpr hg)), decide_eq_true hg]; rfl
      · rw [if_pos (fun e => hg (he.mp e)), decide_eq_false hg]; rfl
    · have k1' : ¬ Int32.ofNat (pu_kind a q l) = 1 := fun e => k1 ((pu_eq (b := 1) (by omega) (by decide)).mp e)
      rw [if_pos k1', if_neg k1]
      have hb : pu_v a (pu_lg q l + 3) < 8 := hwl.2.1.2
      rw [pu_cstep hm hCD.2.1 ht hd hb]
      show (if ¬ pu_eS w (pu_step a w h nb d (pu_bear a q l)) = 0 then _ else _) = _
      have hz := pu_eS0 (o := pu_step a w h nb d (pu_bear a q l)) hw hh (fun x hx => pu_step_lt hm hd hx)
      cases hs : pu_step a w h nb d (pu_bear a q l) with
      | none => rw [hs] at hz; rw [if_neg (not_not_intro (hz.mpr rfl))]; rfl
      | some x => rw [hs] at hz; rw [if_pos (fun e => by cases hz.mp e)]; rfl
def pu_F7 (k : Nat) : Prop := 41 ≤ k ∧ k < 112
theorem pu_cl1_fr {σ σ' : tw_Sg} {a : Nat → Int32} {w h nb nc : Nat} (H : pu_cl1 σ a w h nb nc) (hf : ∀ k, k < 36 → σ' k = σ k) (W : nb ≤ 8) : pu_cl1 σ' a w h nb nc := by
  obtain ⟨hm, hc, hCD, ht⟩ := H
  refine ⟨hm, hc, ?_, fun c q => by rw [hf 35 (by decide)]; exact ht c q⟩
  refine pu_CD_live hm.2.2.2.1 hm.2.2.2.2.2 W hc.2.1 (fun c q => Nat.le_of_lt_succ (hc.2.2 c q).2.1.2) (fun c q => Nat.le_of_lt_succ (hc.2.2 c q).2.2.1.2) hCD (fun j i hl => ?_)
  have := pu_lv_lt hl
  show σ' (1 + j) i = σ (1 + j) i
  rw [hf (1 + j) (by omega)]
theorem pu_followLeg {σ : tw_Sg} {a : Nat → Int32} {w h nb nc q l c n : Nat} {p : Nat → Prop} (H : pu_cl1 σ a w h nb nc) (W : nb ≤ 8) (hn : 500 < n) (hq : q < nc) (hl : l < pu_nl a q) (hc : c < w * h) (hp : pu_set σ (pu_La q (l + 1)) w (w * h) (fun d => pu_B (p d))) :
    pu_wp (tw_P_X10_followLeg n (Int32.ofNat q) (Int32.ofNat l) (Int32.ofNat (pu_sp w c)) σ) (fun σ' => pu_set σ' (pu_La q (l + 1)) w (w * h) (fun d => pu_B (p d ∨ pu_E a w h nb q l c d)) ∧ pu_fr (fun k => k = pu_La q (l + 1)) σ σ') := by
  obtain ⟨hm, hcc, hCD, ht⟩ := id H
  have hw := hm.2.2.2.1
  have hh := hm.2.2.2.2.2
  obtain ⟨-, hnc, hcq⟩ := id hcc
  obtain ⟨-, -, ⟨-, hnl⟩, -, hlq⟩ := hcq q hq
  have hnl : pu_nl a q < 9 := hnl
  have hwl := hlq l hl
  obtain ⟨-, -, -, -, -, hcd⟩ := id hCD
  obtain ⟨-, -, -, -, hcl⟩ := hcd q hq
  obtain ⟨-, l2, -, l4, -⟩ := hcl l hl
  have l2 : σ 26 (8 * q + l) = _ := l2
  have l4 : σ 30 (8 * q + l) = _ := l4
  have hix : 8 * q + l < 32 := by omega
  obtain ⟨f1, f2⟩ := pu_few_lt hwl
  have hb : pu_v a (pu_lg q l + 3) < 8 := hwl.2.1.2
  have ei : Int32.ofNat q * (8 : Int32) + Int32.ofNat l = Int32.ofNat (8 * q + l) := by
    show Int32.ofNat q * Int32.ofNat 8 + Int32.ofNat l = _
    rw [pu_mul, pu_add, Nat.mul_comm]
  unfold tw_P_X10_followLeg
  refine pu_lt ?_
  rw [ei]
  refine pu_bde (pu_get (N := 32) (by decide +kernel) (by decide) hix) ?_
  rw [show 29 + 1 = 30 from rfl, l4]
  refine pu_lt (pu_lt (pu_lt ?_))
  refine pu_lp (J := fun s => ∃ i, i ≤ pu_most a q l + 1 ∧ s.2.1 = Int32.ofNat i ∧ s.1 = pu_eS w (pu_pt a w h nb (pu_bear a q l) c i) ∧ pu_set s.2.2 (pu_La q (l + 1)) w (w * h) (fun d => pu_B (p d ∨ ∃ j, j < i ∧ pu_pt a w h nb (pu_bear a q l) c j = some d ∧ pu_ce a w h nb q l d j = true)) ∧ pu_fr (fun k => k = pu_La q (l + 1)) σ s.2.2) (m := fun s => 100 - s.2.1.toNatClampNeg) ?_ n _ (by show 100 - _ < n; omega) ⟨0, by omega, rfl, rfl, pu_set_ext hp (fun d _ => pu_B_cong ⟨Or.inl, fun z => z.elim id (fun ⟨j, hj, _⟩ => absurd hj (Nat.not_lt_zero _))⟩), pu_fr_refl⟩
  rintro k ⟨sp, ii, σ1⟩ ⟨i, hi, e1, e2, hS, hF⟩ hk1
  dsimp only [] at e1 e2 hS hF
  subst e1; subst e2
  dsimp only [tw_jn]
  have hptl := fun d => pu_pt_lt (nb := nb) (b := pu_bear a q l) hm hc i d
  have hdone : (∀ j, j ≤ pu_most a q l → i ≤ j → pu_pt a w h nb (pu_bear a q l) c j = none) → pu_wp (some σ1) (fun σ' => pu_set σ' (pu_La q (l + 1)) w (w * h) (fun d => pu_B (p d ∨ pu_E a w h nb q l c d)) ∧ pu_fr (fun k => k = pu_La q (l + 1)) σ σ') := by
    intro hend
    refine pu_some ⟨pu_set_ext hS (fun d _ => pu_B_cong ⟨fun z => z.imp_right (fun ⟨j, j1, j2, j3⟩ => ⟨j, ?_, j2, j3⟩), fun z => z.imp_right (fun ⟨j, j1, j2, j3⟩ => ⟨j, ?_, j2, j3⟩)⟩), hF⟩
    · omega
    · rcases Nat.lt_or_ge j i with y | y
      · exact y
      · rw [hend j j1 y] at j2; cases j2
  refine pu_if (fun hc1 => ?_) (fun hc1 => ?_)
  · have hc1 := (pu_ltn (by omega) (by omega)).mp hc1
    exact hdone (fun j j1 j2 => by omega)
  · have hc1 : i ≤ pu_most a q l := by rw [pu_ltn (by omega) (by omega)] at hc1; omega
    refine pu_if (fun hz => ?_) (fun hz => ?_)
    · have hz := (pu_eS0 hw hh hptl).mp hz
      refine hdone (fun j j1 j2 => ?_)
      have := pu_pt_none hz (j - i)
      rwa [show i + (j - i) = j from by omega] at this
    · cases hpt : pu_pt a w h nb (pu_bear a q l) c i with
      | none => rw [hpt] at hz; exact absurd rfl hz
      | some d =>
        have hd := hptl d hpt
        rw [show pu_eS w (some d) = Int32.ofNat (pu_sp w d) from rfl]
        have hlay : (∀ k, k < 36 → σ1 k = σ k) := fun k hk => hF k (by unfold pu_La; omega)
        have H1 := pu_cl1_fr H hlay W
        refine pu_bde (pu_canEnd H1 hq hl hd (by omega)) ?_
        have hgo : ∀ σ2 : tw_Sg, pu_set σ2 (pu_La q (l + 1)) w (w * h) (fun x => pu_B (p x ∨ ∃ j, j < i + 1 ∧ pu_pt a w h nb (pu_bear a q l) c j = some x ∧ pu_ce a w h nb q l x j = true)) → pu_fr (fun k => k = pu_La q (l + 1)) σ σ2 → pu_wp (tw_bd (tw_P_X7_get 25 (Int32.ofNat (8 * q + l)) σ2) fun r13 => tw_bd (tw_P_X10_step (Int32.ofNat (pu_sp w d)) r13 σ2) fun r14 => tw_lt r14 fun v15 => tw_lt (Int32.ofNat i + 1) fun v16 => k (v15, v16, σ2)) (fun σ' => pu_set σ' (pu_La q (l + 1)) w (w * h) (fun d => pu_B (p d ∨ pu_E a w h nb q l c d)) ∧ pu_fr (fun k => k = pu_La q (l + 1)) σ σ') := by
          intro σ2 hS2 hF2
          have hlay2 : (∀ k, k < 36 → σ2 k = σ k) := fun k hk => hF2 k (by unfold pu_La; omega)
          have H2 := pu_cl1_fr H hlay2 W
          refine pu_bde (pu_get (N := 32) (by decide +kernel) (by decide) hix) ?_
          rw [show 25 + 1 = 26 from rfl, hlay2 26 (by decide), l2, hwl.2.1.1]
          refine pu_bde (pu_cstep hm H2.2.2.1.2.1 H2.2.2.2 hd hb) ?_
          refine pu_lt (pu_lt ?_)
          have em : Int32.ofNat i + (1 : Int32) = Int32.ofNat (i + 1) := pu_add i 1
          rw [em]
          refine hk1 _ ⟨i + 1, by omega, rfl, ?_, hS2, hF2⟩ ?_
          · show pu_eS w (pu_step a w h nb d (pu_bear a q l)) = pu_eS w (match pu_pt a w h nb (pu_bear a q l) c i with | some d => pu_step a w h nb d (pu_bear a q l) | none => none)
            rw [hpt]
          · show 100 - (Int32.ofNat (i + 1)).toNatClampNeg < 100 - (Int32.ofNat i).toNatClampNeg
            rw [pu_n (by omega), pu_n (by omega)]
            omega
        cases hce : pu_ce a w h nb q l d i with
        | false =>
          refine pu_ift (by simp) ?_
          refine hgo σ1 (pu_set_ext hS (fun x _ => pu_B_cong ⟨fun z => z.imp_right (fun ⟨j, j1, j2⟩ => ⟨j, by omega, j2⟩), fun z => z.imp_right (fun ⟨j, j1, j2, j3⟩ => ⟨j, ?_, j2, j3⟩)⟩)) hF
          rcases Nat.lt_or_ge j i with y | y
          · exact y
          · have : j = i := by omega
            subst this
            rw [hpt] at j2
            cases j2
            rw [hce] at j3
            cases j3
        | true =>
          refine pu_iff (by simp) ?_
          have el : Int32.ofNat l + (1 : Int32) = Int32.ofNat (l + 1) := pu_add l 1
          rw [el]
          obtain ⟨y1, y2⟩ := pu_layer (σ := σ1) (q := q) (l := l + 1) (by omega) (by omega)
          refine pu_bde y1 ?_
          refine pu_ck (decide_eq_true y2) ?_
          have hsd := pu_sp_rng hw hh hd
          refine pu_bde (pu_add_eq y2 (by omega)) ?_
          have eA : 40 + 2 * (9 * q + (l + 1)) + 1 = pu_La q (l + 1) := by unfold pu_La; omega
          rw [eA]
          refine hgo _ (pu_set_ext (pu_set_add hw hh hS hd) (fun x _ => ?_)) (fun k hk => by rw [pu_addb_n hk]; exact hF k hk)
          rw [pu_B_or (Q := x = d) (by simp)]
          refine pu_B_cong ⟨fun z => ?_, fun z => ?_⟩
          · rcases z with (z | ⟨j, j1, j2⟩) | z
            · exact Or.inl z
            · exact Or.inr ⟨j, by omega, j2⟩
            · subst z
              exact Or.inr ⟨i, by omega, hpt, hce⟩
          · rcases z with z | ⟨j, j1, j2, j3⟩
            · exact Or.inl (Or.inl z)
            · rcases Nat.lt_or_ge j i with y | y
              · exact Or.inl (Or.inr ⟨j, y, j2, j3⟩)
              · have : j = i := by omega
                subst this
                rw [hpt] at j2
                exact Or.inr (Option.some.inj j2).symm
