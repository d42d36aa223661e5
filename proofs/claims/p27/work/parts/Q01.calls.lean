/-! THE LAW'S CALLS: what the class answers, told as the law sees it -/
/-! the loops of the law's side: a measure that falls -/
theorem dq_lp {α : Type} {F : (α → Prop) → α → Prop} (μ : α → Nat) (I : α → Prop) (step : ∀ (a : α) (K : α → Prop), I a → (∀ a', I a' → μ a' < μ a → K a') → F K a) : ∀ (n : Nat) (a : α), I a → μ a < n → pw_lp F n a := by
  intro n
  induction n with
  | zero => intro a _ h; exact absurd h (Nat.not_lt_zero _)
  | succ n ih =>
    intro a hI hm
    exact step a _ hI (fun a' h1 h2 => ih a' h1 (by omega))
section DQC
variable {σ : tw_Sg} {o : Int32 ⊕ Int32} {v k : Int32} {hd : String → Option (Int32 × tw_Sg)} {I : tw_Sg → Prop}
theorem dq_bcS {E : Option ((Int32 × tw_Sg) ⊕ String)} {P : Int32 × tw_Sg → Prop} (H : pu_wp (tw_bc E (fun r : Int32 × tw_Sg => tw_ck (tw_ok (0 : Int32) (pw_ln 1036)) (tw_lt (tw_up r.2 1036 (Int32.toNatClampNeg (0 : Int32)) r.1) (fun (s9 : tw_Sg) => some ((0 : Int32), s9)))) hd) P) : (∃ v s, E = some (.inl (v, s)) ∧ P ((0 : Int32), tw_up s 1036 0 v)) ∨ ∃ x r, E = some (.inr x) ∧ hd x = some r ∧ P r := by
  obtain ⟨r, hr, hP⟩ := H
  cases E with
  | none => cases hr
  | some x =>
    cases x with
    | inl y =>
      rw [pu_l1036] at hr
      have hr : some ((0 : Int32), tw_up y.2 1036 0 y.1) = some r := hr
      have hr := Option.some.inj hr
      subst hr
      exact Or.inl ⟨y.1, y.2, rfl, hP⟩
    | inr x => exact Or.inr ⟨x, r, rfl, hr, hP⟩
theorem dq_bcR {E : Option (Int32 ⊕ String)} {P : Int32 × tw_Sg → Prop} (H : pu_wp (tw_bc E (fun r : Int32 => tw_ck (tw_ok (0 : Int32) (pw_ln 1036)) (tw_lt (tw_up σ 1036 (Int32.toNatClampNeg (0 : Int32)) r) (fun (s9 : tw_Sg) => some ((0 : Int32), s9)))) hd) P) : (∃ v, E = some (.inl v) ∧ P ((0 : Int32), tw_up σ 1036 0 v)) ∨ ∃ x r, E = some (.inr x) ∧ hd x = some r ∧ P r := by
  obtain ⟨r, hr, hP⟩ := H
  cases E with
  | none => cases hr
  | some x =>
    cases x with
    | inl y =>
      rw [pu_l1036] at hr
      have hr : some ((0 : Int32), tw_up σ 1036 0 y) = some r := hr
      have hr := Option.some.inj hr
      subst hr
      exact Or.inl ⟨y, rfl, hP⟩
    | inr x => exact Or.inr ⟨x, r, rfl, hr, hP⟩
theorem dq_QX {r : Int32 × tw_Sg} (ho : o = .inr k) (h : pu_QC σ o r) : r.1 = k := by subst ho; exact h.1
theorem dq_KX {r : Int32 × tw_Sg} (ho : o = .inr k) (h : pu_KC σ o I r) : r.1 = k := by subst ho; exact h.1
/-- a fault -/
theorem dq_xS {E : Option ((Int32 × tw_Sg) ⊕ String)} {P : Int32 × tw_Sg → Prop} (hP : ∀ r, P r → r.1 = k) (hk : k ≠ 0) (H : pu_wp (tw_bc E (fun r : Int32 × tw_Sg => tw_ck (tw_ok (0 : Int32) (pw_ln 1036)) (tw_lt (tw_up r.2 1036 (Int32.toNatClampNeg (0 : Int32)) r.1) (fun (s9 : tw_Sg) => some ((0 : Int32), s9)))) hd) P) : ∃ x r, E = some (.inr x) ∧ hd x = some r ∧ r.1 = k := by
  rcases dq_bcS H with ⟨v, s, -, h⟩ | ⟨x, r, h1, h2, h3⟩
  · exact absurd (hP _ h).symm hk
  · exact ⟨x, r, h1, h2, hP r h3⟩
theorem dq_xR {E : Option (Int32 ⊕ String)} {P : Int32 × tw_Sg → Prop} (hP : ∀ r, P r → r.1 = k) (hk : k ≠ 0) (H : pu_wp (tw_bc E (fun r : Int32 => tw_ck (tw_ok (0 : Int32) (pw_ln 1036)) (tw_lt (tw_up σ 1036 (Int32.toNatClampNeg (0 : Int32)) r) (fun (s9 : tw_Sg) => some ((0 : Int32), s9)))) hd) P) : ∃ x r, E = some (.inr x) ∧ hd x = some r ∧ r.1 = k := by
  rcases dq_bcR H with ⟨v, -, h⟩ | ⟨x, r, h1, h2, h3⟩
  · exact absurd (hP _ h).symm hk
  · exact ⟨x, r, h1, h2, hP r h3⟩
theorem dq_hd1 {p x : String} {r : Int32 × tw_Sg} (e : (if x = p then some ((1 : Int32), σ) else none) = some r) : x = p := by
  by_cases c : x = p
  · exact c
  · rw [if_neg c] at e; cases e
theorem dq_hd2 {p p' x : String} {r : Int32 × tw_Sg} (e : (if x = p then some ((1 : Int32), σ) else if x = p' then some ((2 : Int32), σ) else none) = some r) : (r.1 = 1 → x = p) ∧ (r.1 = 2 → x ≠ p ∧ x = p') := by
  by_cases c : x = p
  · rw [if_pos c] at e
    cases e
    exact ⟨fun _ => c, fun z => absurd (show (1 : Int32) = 2 from z) (by decide)⟩
  · rw [if_neg c] at e
    by_cases c2 : x = p'
    · rw [if_pos c2] at e
      cases e
      exact ⟨fun z => absurd (show (2 : Int32) = 1 from z) (by decide), fun _ => ⟨c, c2⟩⟩
    · rw [if_neg c2] at e; cases e
/-- an answer of a call that changes something -/
theorem dq_vK {E : Option ((Int32 × tw_Sg) ⊕ String)} (ho : o = .inl v) (hh : ∀ x r, hd x = some r → r.1 ≠ 0) (H : pu_wp (tw_bc E (fun r : Int32 × tw_Sg => tw_ck (tw_ok (0 : Int32) (pw_ln 1036)) (tw_lt (tw_up r.2 1036 (Int32.toNatClampNeg (0 : Int32)) r.1) (fun (s9 : tw_Sg) => some ((0 : Int32), s9)))) hd) (pu_KC σ o I)) : ∃ s, E = some (.inl (v, s)) ∧ I (tw_up s 1036 0 v) := by
  subst ho
  rcases dq_bcS H with ⟨u, s, h1, h2, h3, h4, -⟩ | ⟨x, r, -, h2, h3, -⟩
  · have e := h3 v rfl
    have e : tw_up s 1036 0 u 1036 0 = v := e
    rw [tw_up_s] at e
    have e : u = v := e
    subst e
    exact ⟨s, h1, h4⟩
  · exact absurd h3 (hh x r h2)
variable {w h nb nc cn len n : Nat} {a : Nat → Int32} {hist : Nat → Nat → Int32} {buf : Nat → Nat} {err : Int32} {Y : dw_S} {Q : Int32 × dw_S → Prop} {x y z b : Int32}
theorem dq_ICu {s : tw_Sg} {u : Int32} (J : pu_IC (tw_up s 1036 0 u) w h nb nc a cn hist len buf err) : pu_IC s w h nb nc a cn hist len buf err := pu_IC_1036 (tw_up s 1036 0 u) s (fun k hk => (tw_up_n hk).symm) J
theorem dq_qstate (J : pu_IC (dw_s Y) w h nb nc a cn hist len buf err) (hn : 1000 < n) {k : Nat} (hk : k ≤ 12) (hQ : ∀ s, pu_IC s w h nb nc a cn hist len buf err → Q (pu_tv a w h nb nc (pu_np a w h nb nc) k, dw_cs Y s)) : dw_P_L_state n (Int32.ofNat k) Y Q := by
  obtain ⟨s, e, hf⟩ := pu_state0 J.1 J.2.1 hn hk
  unfold dw_P_L_state
  rw [e]
  exact hQ s (pu_IC_SQ J hf)
theorem dq_qstateX (J : pu_IC (dw_s Y) w h nb nc a cn hist len buf err) (hn : 1000 < n) (hQ : Q ((-2000000098 : Int32), Y)) : dw_P_L_state n (13 : Int32) Y Q := by
  have ho : pu_oState a w h nb nc (pu_np a w h nb nc) (13 : Int32) = .inr 1 := by
    unfold pu_oState
    rw [if_neg (by decide)]
  obtain ⟨e, r, h1, h2, -⟩ := dq_xS (fun r h => dq_QX ho h) (by decide) (pu_cstateP (x := (13 : Int32)) J.1 J.2.1 hn)
  unfold dw_P_L_state
  rw [h1, dq_hd1 h2]
  exact hQ
theorem dq_qcellX (J : pu_IC (dw_s Y) w h nb nc a cn hist len buf err) (hn : 1000 < n) (hc : pu_cellOf w h x y = none) (hQ : Q ((-2000000097 : Int32), Y)) : dw_P_L_cell n x y Y Q := by
  have ho : pu_oCell a w h nb nc x y = .inr 1 := by unfold pu_oCell; rw [hc]
  obtain ⟨e, r, h1, h2, -⟩ := dq_xS (fun r h => dq_QX ho h) (by decide) (pu_ccell (x := x) (y := y) (n := n) J.1 J.2.1 (by omega))
  unfold dw_P_L_cell
  rw [h1, dq_hd1 h2]
  exact hQ
theorem dq_qreachedX (J : pu_IC (dw_s Y) w h nb nc a cn hist len buf err) (hn : 1000 < n) (hc : pu_clueOf nc x = none) (hQ : Q ((-2000000097 : Int32), Y)) : dw_P_L_reached n x y Y Q := by
  have ho : pu_oReached a w h nb nc x y = .inr 1 := by unfold pu_oReached; rw [hc]
  obtain ⟨e, r, h1, h2, h3⟩ := dq_xR (fun r h => dq_QX ho h) (by decide) (pu_creached (q := x) (l := y) (n := n) J.1 J.2.1 (by omega))
  unfold dw_P_L_reached
  rw [h1, (dq_hd2 h2).1 h3]
  exact hQ
/-- why a cell is no candidate -/
noncomputable def dq_why (a : Nat → Int32) (w h nb nc c : Nat) : Int32 := if pu_land a c = false then -1 else match pu_first (pu_bad a w h nb c) nc with | some q => Int32.ofNat (q + 1) | none => 0
theorem dq_qwhy (J : pu_IC (dw_s Y) w h nb nc a cn hist len buf err) (hn : 1000 < n) {c : Nat} (hc : pu_cellOf w h x y = some c) (hQ : Q (dq_why a w h nb nc c, Y)) : dw_P_L_why n x y Y Q := by
  have ho : pu_oWhy a w h nb nc x y = .inl (dq_why a w h nb nc c) := by unfold pu_oWhy; rw [hc]; rfl
  have e := pu_unwR ho pu_hd1 (pu_cwhy (x := x) (y := y) (n := n) J.1 J.2.1 (by omega))
  unfold dw_P_L_why
  rw [e]
  exact hQ
theorem dq_qpace1 (J : pu_IC (dw_s Y) w h nb nc a cn hist len buf err) (hc : pu_cellOf w h x y = none) (hQ : Q ((-2000000097 : Int32), Y)) : dw_P_L_pace n x y b Y Q := by
  have ho : pu_oPace a w h nb x y b = .inr 1 := by unfold pu_oPace; rw [hc]
  obtain ⟨e, r, h1, h2, h3⟩ := dq_xR (fun r h => dq_QX ho h) (by decide) (pu_cpace (x := x) (y := y) (b := b) (n := n) J.1 J.2.1)
  unfold dw_P_L_pace
  rw [h1, (dq_hd2 h2).1 h3]
  exact hQ
theorem dq_qpace2 (J : pu_IC (dw_s Y) w h nb nc a cn hist len buf err) {c : Nat} (hc : pu_cellOf w h x y = some c) (hQ : Q ((-2000000098 : Int32), Y)) : dw_P_L_pace n x y (8 : Int32) Y Q := by
  have ho : pu_oPace a w h nb x y (8 : Int32) = .inr 2 := by
    unfold pu_oPace
    rw [hc]
    dsimp only []
    rw [if_neg (by decide)]
  obtain ⟨e, r, h1, h2, h3⟩ := dq_xR (fun r h => dq_QX ho h) (by decide) (pu_cpace (x := x) (y := y) (b := (8 : Int32)) (n := n) J.1 J.2.1)
  obtain ⟨g1, g2⟩ := (dq_hd2 h2).2 h3
  unfold dw_P_L_pace
  rw [h1]
  show if e = _ then _ else _
  rw [if_neg g1, if_pos g2]
  exact hQ
theorem dq_qwalkX (J : pu_IC (dw_s Y) w h nb nc a cn hist len buf err) (hn : 1000 < n) (hc : pu_clueOf nc x = none) (hQ : Q ((-2000000097 : Int32), Y)) : dw_P_L_walk n x y z b Y Q := by
  have ho : pu_oWalk a w h nb nc x y z b = .inr 1 := by unfold pu_oWalk; rw [hc]
  obtain ⟨e, r, h1, h2, h3⟩ := dq_xS (fun r h => dq_QX ho h) (by decide) (pu_cwalk (q := x) (x := y) (y := z) (l := b) J.1 J.2.1 hn)
  unfold dw_P_L_walk
  rw [h1, (dq_hd2 h2).1 h3]
  exact hQ
theorem dq_qstartsX (J : pu_IC (dw_s Y) w h nb nc a cn hist len buf err) (hn : 1000 < n) (hc : pu_clueOf nc x = none) (hQ : Q ((-2000000097 : Int32), Y)) : dw_P_L_starts n x y z Y Q := by
  have ho : pu_oStarts a w h nb nc x y z = .inr 1 := by unfold pu_oStarts; rw [hc]
  obtain ⟨e, r, h1, h2, -⟩ := dq_xS (fun r h => dq_QX ho h) (by decide) (pu_cstarts (q := x) (x := y) (y := z) J.1 J.2.1 hn)
  unfold dw_P_L_starts
  rw [h1, dq_hd1 h2]
  exact hQ
theorem dq_qpartX (J : pu_IC (dw_s Y) w h nb nc a cn hist len buf err) (hn : 1000 < n) (hc : pu_cellOf w h x y = none) (hQ : Q ((-2000000097 : Int32), Y)) : dw_P_L_part n x y Y Q := by
  have ho : pu_oPart a w h nb nc x y = .inr 1 := by unfold pu_oPart; rw [hc]
  obtain ⟨e, r, h1, h2, -⟩ := dq_xS (fun r h => dq_QX ho h) (by decide) (pu_cpart (x := x) (y := y) J.1 J.2.1 hn)
  unfold dw_P_L_part
  rw [h1, dq_hd1 h2]
  exact hQ
theorem dq_qdistX (J : pu_IC (dw_s Y) w h nb nc a cn hist len buf err) (hn : 1000 < n) (hc : pu_cellOf w h x y = none) (hQ : Q ((-2000000097 : Int32), Y)) : dw_P_L_distance n x y Y Q := by
  have ho : pu_oDist a w h x y = .inr 1 := by unfold pu_oDist; rw [hc]
  obtain ⟨e, r, h1, h2, -⟩ := dq_xS (fun r h => dq_QX ho h) (by decide) (pu_cdistance (x := x) (y := y) (n := n) J.1 J.2.1 (by omega))
  unfold dw_P_L_distance
  rw [h1, dq_hd1 h2]
  exact hQ
/-! changes -/
theorem dq_qmoveX (J : pu_IC (dw_s Y) w h nb nc a cn hist len buf err) (hn : 1000 < n) (hc : pu_cellOf w h x y = none) (hQ : Q ((-2000000097 : Int32), Y)) : dw_P_L_moveTo n x y Y Q := by
  have ho : pu_oMove a w h x y = .inr 1 := by unfold pu_oMove; rw [hc]
  obtain ⟨e, r, h1, h2, -⟩ := dq_xS (fun r h => dq_KX ho h) (by decide) (pu_cmove (x := x) (y := y) J hn)
  unfold dw_P_L_moveTo
  rw [h1, dq_hd1 h2]
  exact hQ
theorem dq_qmove (J : pu_IC (dw_s Y) w h nb nc a cn hist len buf err) (hn : 1000 < n) {c : Nat} (hc : pu_cellOf w h x y = some c) (hQ : ∀ s, pu_IC s w h nb nc (if 0 ≤ pu_D a w h c then pu_aMove a c (pu_D a w h c) else a) (if 0 ≤ pu_D a w h c then min (cn + 1) 8 else cn) (if 0 ≤ pu_D a w h c then pu_push cn hist a else hist) len buf err → Q (if 0 ≤ pu_D a w h c then Int32.ofInt (pu_D a w h c) else -1, dw_cs Y s)) : dw_P_L_moveTo n x y Y Q := by
  have ho : pu_oMove a w h x y = .inl (if 0 ≤ pu_D a w h c then Int32.ofInt (pu_D a w h c) else -1) := by
    unfold pu_oMove
    rw [hc]
    dsimp only []
    by_cases e : 0 ≤ pu_D a w h c
    · rw [if_pos e, if_pos e]
    · rw [if_neg e, if_neg e]
  obtain ⟨s, e, hI⟩ := dq_vK ho pu_hd1 (pu_cmove (x := x) (y := y) J hn)
  have hm : pu_moves a w h x y = if 0 ≤ pu_D a w h c then some c else none := by unfold pu_moves; rw [hc]
  rw [hm] at hI
  clear hm ho
  unfold dw_P_L_moveTo
  rw [e]
  by_cases e0 : 0 ≤ pu_D a w h c
  · rw [if_pos e0] at hI
    dsimp only [] at hI
    simp only [if_pos e0] at hQ ⊢
    generalize pu_D a w h c = D at *
    exact hQ s (dq_ICu hI)
  · rw [if_neg e0] at hI
    dsimp only [] at hI
    simp only [if_neg e0] at hQ ⊢
    exact hQ s (dq_ICu hI)
theorem dq_quseX (J : pu_IC (dw_s Y) w h nb nc a cn hist len buf err) (hn : 1000 < n) (hc : pu_clueOf nc x = none) (hQ : Q ((-2000000097 : Int32), Y)) : dw_P_L_use n x y Y Q := by
  have ho : pu_oUse a w h nb nc x y = .inr 1 := by unfold pu_oUse; rw [hc]
  obtain ⟨e, r, h1, h2, -⟩ := dq_xS (fun r h => dq_KX ho h) (by decide) (pu_cuse (q := x) (x := y) J hn)
  unfold dw_P_L_use
  rw [h1, dq_hd1 h2]
  exact hQ
theorem dq_quse (J : pu_IC (dw_s Y) w h nb nc a cn hist len buf err) (hn : 1000 < n) {k : Nat} (hc : pu_clueOf nc x = some k) (hQ : ∀ s, pu_IC s w h nb nc (pu_aUse a k y) (min (cn + 1) 8) (pu_push cn hist a) len buf err → Q (Int32.ofNat (pu_nleft (pu_aUse a k y) w h nb nc), dw_cs Y s)) : dw_P_L_use n x y Y Q := by
  have ho : pu_oUse a w h nb nc x y = .inl (Int32.ofNat (pu_nleft (pu_aUse a k y) w h nb nc)) := by unfold pu_oUse; rw [hc]
  obtain ⟨s, e, hI⟩ := dq_vK ho pu_hd1 (pu_cuse (q := x) (x := y) J hn)
  rw [hc] at hI
  unfold dw_P_L_use
  rw [e]
  exact hQ s (dq_ICu hI)
theorem dq_qhideX (J : pu_IC (dw_s Y) w h nb nc a cn hist len buf err) (hn : 1000 < n) (hc : pu_hideOf x = none) (hQ : Q ((-2000000098 : Int32), Y)) : dw_P_L_hide n x Y Q := by
  have ho : pu_oHide a w h nb nc x = .inr 1 := by unfold pu_oHide; rw [hc]
  obtain ⟨e, r, h1, h2, -⟩ := dq_xS (fun r h => dq_KX ho h) (by decide) (pu_chide (x := x) J hn)
  unfold dw_P_L_hide
  rw [h1, dq_hd1 h2]
  exact hQ
theorem dq_qhide (J : pu_IC (dw_s Y) w h nb nc a cn hist len buf err) (hn : 1000 < n) {i : Nat} (hc : pu_hideOf x = some i) (hQ : ∀ s, pu_IC s w h nb nc (pu_aHide a w h nb nc i) (min (cn + 1) 8) (pu_push cn hist a) len buf err → Q (Int32.ofNat (pu_nleft a w h nb nc), dw_cs Y s)) : dw_P_L_hide n x Y Q := by
  have ho : pu_oHide a w h nb nc x = .inl (Int32.ofNat (pu_nleft a w h nb nc)) := by unfold pu_oHide; rw [hc]
  obtain ⟨s, e, hI⟩ := dq_vK ho pu_hd1 (pu_chide (x := x) J hn)
  rw [hc] at hI
  unfold dw_P_L_hide
  rw [e]
  exact hQ s (dq_ICu hI)
theorem dq_qturn1 (J : pu_IC (dw_s Y) w h nb nc a cn hist len buf err) (hn : 1000 < n) (hc : pu_clueOf nb x = none) (hQ : Q ((-2000000097 : Int32), Y)) : dw_P_L_turn n x y Y Q := by
  have ho : pu_oTurn a nb x y = .inr 1 := by unfold pu_oTurn; rw [hc]
  obtain ⟨e, r, h1, h2, h3⟩ := dq_xS (fun r h => dq_KX ho h) (by decide) (pu_cturn (q := x) (x := y) J hn)
  unfold dw_P_L_turn
  rw [h1, (dq_hd2 h2).1 h3]
  exact hQ
theorem dq_qturn2 (J : pu_IC (dw_s Y) w h nb nc a cn hist len buf err) (hn : 1000 < n) {k : Nat} (hc : pu_clueOf nb x = some k) (hy : ¬ (-3 ≤ y.toInt ∧ y.toInt ≤ 3)) (hQ : Q ((-2000000098 : Int32), Y)) : dw_P_L_turn n x y Y Q := by
  have ho : pu_oTurn a nb x y = .inr 2 := by
    unfold pu_oTurn
    rw [hc]
    dsimp only []
    rw [if_neg hy]
  obtain ⟨e, r, h1, h2, h3⟩ := dq_xS (fun r h => dq_KX ho h) (by decide) (pu_cturn (q := x) (x := y) J hn)
  obtain ⟨g1, g2⟩ := (dq_hd2 h2).2 h3
  unfold dw_P_L_turn
  rw [h1]
  show if e = _ then _ else _
  rw [if_neg g1, if_pos g2]
  exact hQ
theorem dq_qturn (J : pu_IC (dw_s Y) w h nb nc a cn hist len buf err) (hn : 1000 < n) {k : Nat} (hc : pu_clueOf nb x = some k) (hy : -3 ≤ y.toInt ∧ y.toInt ≤ 3) (hQ : ∀ s, pu_IC s w h nb nc (pu_aTurn a k y) (min (cn + 1) 8) (pu_push cn hist a) len buf err → Q (a (816 + 5 * k + 4), dw_cs Y s)) : dw_P_L_turn n x y Y Q := by
  have ho : pu_oTurn a nb x y = .inl (a (816 + 5 * k + 4)) := by
    unfold pu_oTurn
    rw [hc]
    dsimp only []
    rw [if_pos hy]
  obtain ⟨s, e, hI⟩ := dq_vK ho pu_hd2 (pu_cturn (q := x) (x := y) J hn)
  have hm : pu_turnOk nb x y = some k := by
    unfold pu_turnOk
    rw [hc]
    dsimp only []
    rw [if_pos hy]
  rw [hm] at hI
  unfold dw_P_L_turn
  rw [e]
  exact hQ s (dq_ICu hI)
theorem dq_qload (J : pu_IC (dw_s Y) w h nb nc a cn hist len buf err) (hn : 2000 < n) {L : Nat} (hL : L ≤ len) (hX : (pu_Xf buf L).1 = none) (hW : pu_AW (pu_Xf buf L).2.2 (pu_wN buf L) (pu_hN buf L)) (hQ : ∀ s, pu_IC s (pu_wN buf L) (pu_hN buf L) (pu_v (pu_Xf buf L).2.2 2) (pu_v (pu_Xf buf L).2.2 3) (pu_aE (pu_Xf buf L).2.2 (pu_wN buf L) (pu_hN buf L)) (min (cn + 1) 8) (pu_push cn hist a) 0 buf (-1) → Q (Int32.ofNat (pu_v (pu_Xf buf L).2.2 3), dw_cs Y s)) : dw_P_L_load n (Int32.ofNat L) Y Q := by
  have ho : pu_oLd buf L = .inl (Int32.ofNat (pu_v (pu_Xf buf L).2.2 3)) := by unfold pu_oLd; rw [hX]
  obtain ⟨s, e, hI⟩ := dq_vK ho pu_hd1 (pu_cload J hL (fun _ => hW) (fun e he => by rw [hX] at he; cases he) hn)
  unfold pu_LdC at hI
  rw [hX] at hI
  unfold dw_P_L_load
  rw [e]
  exact hQ s (dq_ICu hI)
end DQC
