/-! where a leg of the law's island ends -/
theorem dq_subI {x y : Nat} : Int32.ofNat x - Int32.ofNat y = Int32.ofInt ((x : Int) - (y : Int)) := by
  rw [Int32.ofInt_sub, Int32.ofInt_eq_ofNat, Int32.ofInt_eq_ofNat]
theorem dq_negI {z : Int} : (0 : Int32) - Int32.ofInt z = Int32.ofInt (-z) := by
  have e : (0 : Int32) = Int32.ofInt 0 := rfl
  rw [e, ← Int32.ofInt_sub]
  congr 1
  omega
theorem dq_ge0 {z : Int} (h1 : -2147483648 ≤ z) (h2 : z < 2147483648) : (0 : Int32) ≤ Int32.ofInt z ↔ 0 ≤ z := by
  rw [Int32.le_iff_toInt_le, pu_int h1 h2, Int32.toInt_zero]
/-- |x - y| as the law says it -/
theorem dq_abs {x y : Nat} (hx : x < 1000) (hy : y < 1000) : (if (0 : Int32) ≤ (Int32.ofNat x - Int32.ofNat y) then (Int32.ofNat x - Int32.ofNat y) else 0 - (Int32.ofNat x - Int32.ofNat y)) = Int32.ofNat (if y ≤ x then x - y else y - x) := by
  rw [dq_subI]
  by_cases h : y ≤ x
  · rw [if_pos ((dq_ge0 (by omega) (by omega)).mpr (by omega)), if_pos h]
    exact dq_oI (by omega)
  · rw [if_neg (fun z => h (by have := (dq_ge0 (by omega) (by omega)).mp z; omega)), if_neg h, dq_negI]
    exact dq_oI (by omega)
section DQB
variable {a : Nat → Int32} {w h nb nc q l c b n : Nat} {Y : dw_S} {th : Nat} {ι : Nat → Nat}
/-- the goal was passed ahead of i paces -/
def dq_hit (a : Nat → Int32) (w h nb q l c : Nat) : Nat → Bool
  | 0 => false
  | i + 1 => dq_hit a w h nb q l c i || decide (pu_pt a w h nb (pu_bear a q l) c i = pu_goal a q l)
theorem dq_hit_S {i : Nat} : dq_hit a w h nb q l c (i + 1) = (dq_hit a w h nb q l c i || decide (pu_pt a w h nb (pu_bear a q l) c i = pu_goal a q l)) := rfl
theorem dq_hit_f {i : Nat} : dq_hit a w h nb q l c i = false ↔ ∀ j, j < i → pu_pt a w h nb (pu_bear a q l) c j ≠ pu_goal a q l := by
  induction i with
  | zero => exact ⟨fun _ j hj => absurd hj (Nat.not_lt_zero _), fun _ => rfl⟩
  | succ i ih =>
    rw [dq_hit_S, Bool.or_eq_false_iff, ih, decide_eq_false_iff_not]
    refine ⟨fun z j hj => ?_, fun z => ⟨fun j hj => z j (by omega), z i (by omega)⟩⟩
    by_cases e : j = i
    · rw [e]; exact z.2
    · exact z.1 j (by omega)
/-- where the leg ends behind i paces, as the law's island finds it -/
def dq_bh (a : Nat → Int32) (w h nb q l c i : Nat) : Option Nat := match pu_pt a w h nb (pu_bear a q l) c i with
  | some d => if pu_ce a w h nb q l d i = true ∧ i ≤ pu_most a q l ∧ (pu_kind a q l = 1 → dq_hit a w h nb q l c i = false) then some d else none
  | none => none
theorem dq_bh_some {i d : Nat} : dq_bh a w h nb q l c i = some d ↔ pu_pt a w h nb (pu_bear a q l) c i = some d ∧ pu_ce a w h nb q l d i = true ∧ i ≤ pu_most a q l ∧ (pu_kind a q l = 1 → dq_hit a w h nb q l c i = false) := by
  unfold dq_bh
  cases e : pu_pt a w h nb (pu_bear a q l) c i with
  | none => exact ⟨fun z => (by cases z), fun z => (by cases z.1)⟩
  | some d' =>
    dsimp only []
    by_cases hc : pu_ce a w h nb q l d' i = true ∧ i ≤ pu_most a q l ∧ (pu_kind a q l = 1 → dq_hit a w h nb q l c i = false)
    · rw [if_pos hc]
      exact ⟨fun z => (by cases z; exact ⟨rfl, hc⟩), fun z => (by cases z.1; rfl)⟩
    · rw [if_neg hc]
      exact ⟨fun z => (by cases z), fun z => (by cases z.1; exact absurd z.2 hc)⟩
theorem dq_bh_lt {i d : Nat} (hm : pu_wfm a w h) (hc : c < w * h) (e : dq_bh a w h nb q l c i = some d) : d < w * h := pu_pt_lt hm hc i d (dq_bh_some.mp e).1
theorem dq_ce1 {d i : Nat} (hk : pu_kind a q l = 1) : pu_ce a w h nb q l d i = true ↔ pu_goal a q l = some d := by
  unfold pu_ce
  rw [if_neg (by omega), if_pos hk, decide_eq_true_eq]
theorem dq_ce2 {d i : Nat} (h0 : ¬ pu_kind a q l = 0) (hk : ¬ pu_kind a q l = 1) : pu_ce a w h nb q l d i = true ↔ pu_step a w h nb d (pu_bear a q l) = none := by
  unfold pu_ce
  rw [if_neg h0, if_neg hk, Option.isNone_iff_eq_none]
theorem dq_ce0 {d i : Nat} (h0 : pu_kind a q l = 0) : pu_ce a w h nb q l d i = true ↔ pu_few a q l ≤ i := by
  unfold pu_ce
  rw [if_pos h0, decide_eq_true_eq]
theorem dq_pt_S {i : Nat} : pu_pt a w h nb b c (i + 1) = match pu_pt a w h nb b c i with | some d => pu_step a w h nb d b | none => none := rfl
/-- the ends found are the ends -/
theorem dq_bh_E {e : Nat} : (∃ i, pu_few a q l ≤ i ∧ i ≤ pu_most a q l ∧ dq_bh a w h nb q l c i = some e) ↔ pu_E a w h nb q l c e := by
  constructor
  · rintro ⟨i, -, h2, h3⟩
    obtain ⟨g1, g2, -, -⟩ := dq_bh_some.mp h3
    exact ⟨i, h2, g1, g2⟩
  · rintro ⟨i, h1, h2, h3⟩
    by_cases k0 : pu_kind a q l = 0
    · exact ⟨i, (dq_ce0 k0).mp h3, h1, dq_bh_some.mpr ⟨h2, h3, h1, fun z => by omega⟩⟩
    · have hf : pu_few a q l = 0 := by unfold pu_few; rw [if_neg k0]
      by_cases k1 : pu_kind a q l = 1
      · have key : ∀ i, i ≤ pu_most a q l → pu_pt a w h nb (pu_bear a q l) c i = some e → ∃ j, j ≤ i ∧ pu_pt a w h nb (pu_bear a q l) c j = some e ∧ dq_hit a w h nb q l c j = false := by
          intro i
          induction i using Nat.strongRecOn with
          | _ i ih =>
            intro hi hp
            by_cases hh : dq_hit a w h nb q l c i = false
            · exact ⟨i, Nat.le_refl _, hp, hh⟩
            · have : ¬ ∀ j, j < i → pu_pt a w h nb (pu_bear a q l) c j ≠ pu_goal a q l := fun z => hh (dq_hit_f.mpr z)
              obtain ⟨j, hj⟩ := Classical.not_forall.mp this
              obtain ⟨hj1, hj2⟩ := Classical.not_imp.mp hj
              have hj3 := Classical.not_not.mp hj2
              rw [(dq_ce1 k1).mp h3] at hj3
              obtain ⟨j', a1, a2, a3⟩ := ih j hj1 (by omega) hj3
              exact ⟨j', by omega, a2, a3⟩
        obtain ⟨j, hj, hp, hh⟩ := key i h1 h2
        exact ⟨j, by omega, by omega, dq_bh_some.mpr ⟨hp, (dq_ce1 k1).mpr ((dq_ce1 k1).mp h3), by omega, fun _ => hh⟩⟩
      · exact ⟨i, by omega, h1, dq_bh_some.mpr ⟨h2, h3, h1, fun z => absurd z k1⟩⟩
/-- legs that don't go end at one cell at most -/
theorem dq_bh_uniq {i j d e : Nat} (k0 : ¬ pu_kind a q l = 0) (h1 : dq_bh a w h nb q l c i = some d) (h2 : dq_bh a w h nb q l c j = some e) : i = j := by
  have key : ∀ i j d e, dq_bh a w h nb q l c i = some d → dq_bh a w h nb q l c j = some e → ¬ i < j := by
    intro i j d e h1 h2 hij
    obtain ⟨a1, a2, a3, a4⟩ := dq_bh_some.mp h1
    obtain ⟨b1, b2, b3, b4⟩ := dq_bh_some.mp h2
    by_cases k1 : pu_kind a q l = 1
    · exact dq_hit_f.mp (b4 k1) i hij (by rw [a1, (dq_ce1 k1).mp a2])
    · have n1 : pu_pt a w h nb (pu_bear a q l) c (i + 1) = none := by
        rw [dq_pt_S, a1]
        exact (dq_ce2 k0 k1).mp a2
      have n2 := pu_pt_none n1 (j - (i + 1))
      rw [show i + 1 + (j - (i + 1)) = j by omega, b1] at n2
      cases n2
  have p1 := key i j d e h1 h2
  have p2 := key j i e d h2 h1
  omega
/-- behind -/
theorem dq_behind {Q : Int32 → Prop} {i : Nat} (I : dq_I Y th ι a w h nb nc) (H : pu_WF a w h nb nc) (hq : q < nc) (hl : l < pu_nl a q) (hc : c < w * h) (hi : i ≤ pu_most a q l) (hf : pu_few a q l ≤ i) (hn : 200 < n) (hQ : Q (pu_eR (dq_bh a w h nb q l c i))) : dw_P_X13_behind n th (ι (50 + 8 * q + l)) (Int32.ofNat c) (Int32.ofNat i) Y Q := by
  obtain ⟨hm, hbn, hcc, hd, ht⟩ := id H
  have hle := pu_wfm_le hm
  have W := (hcc.2.2 q hq).2.2.2.2 l hl
  have hfm := pu_few_lt W
  obtain ⟨hk, hbe, w0, w1⟩ := id W
  obtain ⟨Is, -, ⟨-, -, rm, -, -, -⟩, ⟨-, -, M1, M2⟩, -, ⟨-, C2⟩, -⟩ := id I
  obtain ⟨e1, e2⟩ := ((C2 q hq).2.2.2 l hl).2
  have g0 := e2 0 (by omega)
  have g1 := e2 1 (by omega)
  have g2 := e2 2 (by omega)
  have g3 := e2 3 (by omega)
  rw [Nat.add_zero, hk.1] at g0
  rw [hbe.1] at g3
  change dw_i Y (ι (50 + 8 * q + l)) 0 = Int32.ofNat (pu_kind a q l) at g0
  change dw_i Y (ι (50 + 8 * q + l)) 3 = Int32.ofNat (pu_bear a q l) at g3
  have hkl : pu_kind a q l < 3 := hk.2
  have hbl : pu_bear a q l < 8 := hbe.2
  have hpl : ∀ k d, pu_pt a w h nb (pu_bear a q l) c k = some d → d < w * h := fun k d e => pu_pt_lt hm hc k d e
  have hpl2 : ∀ k d, pu_pt a w h nb (pu_bear a q l) c k = some d → d < 2147483648 := fun k d e => by have := hpl k d e; omega
  dsimp only [dw_P_X13_behind, pw_lt]
  rw [g0, g3]
  have hgoal : pu_kind a q l = 1 → pu_goal a q l = some (pu_v a (808 + pu_many a q l)) ∧ pu_many a q l < 8 ∧ pu_v a (808 + pu_many a q l) < w * h ∧ dw_i Y (ι (50 + 8 * q + l)) 1 = Int32.ofNat (pu_many a q l) ∧ dw_i Y (ι 2) (pu_many a q l) = Int32.ofNat (pu_v a (808 + pu_many a q l)) := by
    intro k1
    obtain ⟨z1, z2⟩ := w1 k1
    exact ⟨by unfold pu_goal; rw [if_pos k1], z1.2, z2.2, g1.trans z1.1, (M2 (pu_many a q l) z1.2).trans z2.1⟩
  have hne0 : (¬ Int32.ofNat (pu_kind a q l) = 0) ↔ ¬ pu_kind a q l = 0 := not_congr (pu_eq (b := 0) (by omega) (by omega))
  have hne1 : (¬ Int32.ofNat (pu_kind a q l) = 1) ↔ ¬ pu_kind a q l = 1 := not_congr (pu_eq (b := 1) (by omega) (by omega))
  refine dq_for i (fun k v => v = (pu_eR (pu_pt a w h nb (pu_bear a q l) c k), Int32.ofNat k) ∧ (pu_kind a q l = 1 → dq_hit a w h nb q l c k = false)) (fun k j v hj hv hk => ?_) (fun k v hv => ?_) (by omega) ⟨rfl, fun _ => rfl⟩
  all_goals
    obtain ⟨hv, hh⟩ := hv
    subst hv
    dsimp only []
  · -- on the way
    refine dq_jn (fun _ => pu_pt a w h nb (pu_bear a q l) c j = none) (fun _ hnn => ?_) (fun f hf0 => ?_)
    · rw [hnn]
      refine dq_iff (fun z => absurd z (by decide)) ?_
      have hni := pu_pt_none hnn (i - j)
      rw [show j + (i - j) = i by omega] at hni
      unfold dq_bh at hQ
      rw [hni] at hQ
      exact hQ
    · refine dq_iff (by rw [pu_le (by omega) (by omega)]; omega) (dq_if (fun z => hf0 () ((dq_eR_lt (hpl2 j)).mp z)) (fun z => ?_))
      cases hp : pu_pt a w h nb (pu_bear a q l) c j with
      | none => rw [hp] at z; exact absurd (show (-1 : Int32) < 0 by decide) z
      | some d =>
        have hd' := hpl j d hp
        refine dq_ck e1 (dq_jn (fun _ => pu_kind a q l = 1 → dq_hit a w h nb q l c (j + 1) = false) (fun _ hh' => ?_) (fun f2 hf2 => ?_))
        · refine dq_ck e1 (dq_ck Is (dq_step I hm hbn hd' hbl (by omega) (hk _ ⟨?_, hh'⟩)))
          have e' : Int32.ofNat j + (1 : Int32) = Int32.ofNat (j + 1) := pu_add _ 1
          rw [e', dq_pt_S, hp]
        · refine dq_if (fun z => hf2 () (fun k1 => absurd k1 (hne1.mp z))) (fun z => ?_)
          have k1 := Classical.not_not.mp (fun y => z (hne1.mpr y))
          obtain ⟨q1, q2, q3, q4, q5⟩ := hgoal k1
          refine dq_ck Is (dq_nn rm (dq_ck e1 (dq_ck ?_ ?_)))
          · rw [q4]; exact dq_A1_ok M1 q2 (by decide)
          · rw [q4, pu_n (by omega), q5]
            refine dq_if (fun y => hf2 () (fun _ => ?_)) (fun y => ?_)
            · rw [dq_hit_S, hh k1, hp, q1, Bool.false_or, decide_eq_false]
              intro e
              cases e
              exact y rfl
            · have hde : d = pu_v a (808 + pu_many a q l) := (pu_eq (by omega) (by omega)).mp (Classical.not_not.mp y)
              have : dq_bh a w h nb q l c i = none := by
                cases hb : dq_bh a w h nb q l c i with
                | none => rfl
                | some x =>
                  exact absurd (show pu_pt a w h nb (pu_bear a q l) c j = pu_goal a q l by rw [hp, q1, hde]) (dq_hit_f.mp ((dq_bh_some.mp hb).2.2.2 k1) j hj)
              rw [this] at hQ
              exact hQ
  · -- at the end
    refine dq_jn (fun _ => True) (fun _ _ => ?_) (fun f hf0 => dq_ift ((pu_le (by omega) (by omega)).mpr (Nat.le_refl _)) (hf0 () trivial))
    cases hp : pu_pt a w h nb (pu_bear a q l) c i with
    | none =>
      refine dq_iff (fun z => absurd z (by decide)) ?_
      unfold dq_bh at hQ
      rw [hp] at hQ
      exact hQ
    | some d =>
      have hd' := hpl i d hp
      have yes : pu_ce a w h nb q l d i = true → Q (Int32.ofNat d) := fun z => by
        rw [dq_bh_some.mpr ⟨hp, z, hi, hh⟩] at hQ
        exact hQ
      have no : ¬ pu_ce a w h nb q l d i = true → Q (-1 : Int32) := fun z => by
        have : dq_bh a w h nb q l c i = none := by
          cases hb : dq_bh a w h nb q l c i with
          | none => rfl
          | some x =>
            obtain ⟨y1, y2, -⟩ := dq_bh_some.mp hb
            rw [hp] at y1
            cases y1
            exact absurd y2 z
        rw [this] at hQ
        exact hQ
      refine dq_ift ((dq_eR_ge (fun x e => by cases e; omega)).mpr (fun e => by cases e)) (dq_ck e1 (dq_if (fun z0 => ?_) (fun z0 => ?_)))
      · have k0 := hne0.mp z0
        refine dq_ck e1 (dq_jn (fun v => (pu_ce a w h nb q l d i = true ∧ v = Int32.ofNat d) ∨ (¬ pu_ce a w h nb q l d i = true ∧ v = -1)) (fun v hv => ?_) (fun f hf1 => dq_if (fun z1 => ?_) (fun z1 => ?_)))
        · rcases hv with ⟨y1, y2⟩ | ⟨y1, y2⟩
          · rw [y2]; exact yes y1
          · rw [y2]; exact no y1
        · have k1 := hne1.mp z1
          refine dq_ck e1 (dq_ck Is (dq_step I hm hbn hd' hbl (by omega) ?_))
          have hsl : ∀ x, pu_step a w h nb d (pu_bear a q l) = some x → x < 2147483648 := fun x e => by have := pu_step_lt hm hd' e; omega
          refine dq_if (fun y => hf1 _ (Or.inr ⟨fun y2 => ?_, rfl⟩)) (fun y => hf1 _ (Or.inl ⟨?_, rfl⟩))
          · exact (dq_eR_ge hsl).mp y ((dq_ce2 k0 k1).mp y2)
          · exact (dq_ce2 k0 k1).mpr (Classical.not_not.mp (fun y2 => y ((dq_eR_ge hsl).mpr y2)))
        · have k1 := Classical.not_not.mp (fun y => z1 (hne1.mpr y))
          obtain ⟨q1, q2, q3, q4, q5⟩ := hgoal k1
          refine dq_ck Is (dq_nn rm (dq_ck e1 (dq_ck ?_ ?_)))
          · rw [q4]; exact dq_A1_ok M1 q2 (by decide)
          · rw [q4, pu_n (by omega), q5]
            refine dq_if (fun y => hf1 _ (Or.inr ⟨fun y2 => y ?_, rfl⟩)) (fun y => hf1 _ (Or.inl ⟨?_, rfl⟩))
            · have := (dq_ce1 k1).mp y2
              rw [q1] at this
              cases this
              rfl
            · rw [dq_ce1 k1, q1, (pu_eq (by omega) (by omega)).mp (Classical.not_not.mp y)]
      · have k0 : pu_kind a q l = 0 := Classical.not_not.mp (fun y => z0 (hne0.mpr y))
        obtain ⟨v1, v2⟩ := w0 k0
        have g1' : dw_i Y (ι (50 + 8 * q + l)) 1 = Int32.ofNat (pu_many a q l) := g1.trans v1.1
        have g2' : dw_i Y (ι (50 + 8 * q + l)) 2 = Int32.ofNat (pu_give a q l) := g2.trans v2.1
        have b1 : pu_many a q l < 31 := v1.2
        have b2 : pu_give a q l < 6 := v2.2
        have hfe : pu_few a q l = pu_many a q l - pu_give a q l := by unfold pu_few; rw [if_pos k0]
        have hmo : pu_most a q l = pu_many a q l + pu_give a q l := by unfold pu_most; rw [if_pos k0]
        have hce : pu_ce a w h nb q l d i = true := (dq_ce0 k0).mpr hf
        rw [g1', g2', dq_abs (by omega) (by omega)]
        refine dq_ck e1 (dq_ck e1 (dq_jn (fun v => v = Int32.ofNat d) (fun v hv => by rw [hv]; exact yes hce) (fun f hf1 => dq_iff ?_ (hf1 _ rfl))))
        rw [pu_ltn (by omega) (by split <;> omega)]
        split <;> omega
end DQB
