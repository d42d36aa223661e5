/-! far and parts: the law's island -/
section DQF
variable {a : Nat → Int32} {w h nb nc s c n : Nat} {g : Nat → Bool} {Y Y0 Y' : dw_S} {th : Nat} {ι : Nat → Nat} {F : Nat → Nat}
def dq_sF (F : Nat → Nat) : Nat → Nat
  | 0 => 0
  | m + 1 => dq_sF F m + F m
theorem dq_sF_le : ∀ m, (∀ c, c < m → F c ≤ 9999) → dq_sF F m ≤ m * 9999
  | 0, _ => Nat.zero_le _
  | m + 1, h9 => by
    have := dq_sF_le m (fun c hc => h9 c (by omega))
    have := h9 m (by omega)
    show dq_sF F m + F m ≤ _
    rw [Nat.succ_mul]
    omega
def dq_uF (F : Nat → Nat) (i x : Nat) : Nat → Nat := fun c => if c = i then x else F c
theorem dq_sF_n {i x : Nat} : ∀ m, m ≤ i → dq_sF (dq_uF F i x) m = dq_sF F m
  | 0, _ => rfl
  | m + 1, hm => by
    show dq_sF (dq_uF F i x) m + dq_uF F i x m = dq_sF F m + F m
    rw [dq_sF_n m (by omega)]
    unfold dq_uF
    rw [if_neg (by omega)]
theorem dq_sF_up {i x : Nat} (hx : x < F i) : ∀ m, i < m → dq_sF (dq_uF F i x) m < dq_sF F m
  | 0, hi => absurd hi (Nat.not_lt_zero _)
  | m + 1, hi => by
    show dq_sF (dq_uF F i x) m + dq_uF F i x m < dq_sF F m + F m
    by_cases e : m = i
    · subst e
      rw [dq_sF_n m (Nat.le_refl _)]
      unfold dq_uF
      rw [if_pos rfl]
      omega
    · have := dq_sF_up hx m (by omega)
      have e2 : dq_uF F i x m = F m := by unfold dq_uF; rw [if_neg e]
      omega
/-- a table of ways -/
def dq_FI (g : Nat → Bool) (w h s : Nat) (F : Nat → Nat) : Prop := F s = 0 ∧ (∀ c, c < w * h → F c ≤ 9999) ∧ ∀ c, c < w * h → F c < 9999 → dq_pth g w h s (F c) c
theorem dq_FI_up {b c' : Nat} (hs : s < w * h) (hc : c < w * h) (I : dq_FI g w h s F) (hb : b < 8) (h9 : F c < 9999) (hn : pu_nbr g w h c b = some c') (hl : F c + 1 < F c') : dq_FI g w h s (dq_uF F c' (F c + 1)) := by
  obtain ⟨I1, I2, I3⟩ := I
  have hsc : s ≠ c' := fun e => by rw [e] at I1; omega
  refine ⟨by unfold dq_uF; rw [if_neg hsc]; exact I1, fun x hx => ?_, fun x hx hx9 => ?_⟩
  · unfold dq_uF
    by_cases e : x = c'
    · rw [if_pos e]; omega
    · rw [if_neg e]; exact I2 x hx
  · unfold dq_uF at hx9 ⊢
    by_cases e : x = c'
    · rw [if_pos e, e]
      exact ⟨c, I3 c hc h9, b, hb, hn⟩
    · rw [if_neg e] at hx9 ⊢
      exact I3 x hx hx9
/-- one pace makes nothing better -/
def dq_ok (g : Nat → Bool) (w h : Nat) (F : Nat → Nat) (c b : Nat) : Prop := F c < 9999 → ∀ c', pu_nbr g w h c b = some c' → F c' ≤ F c + 1
/-- how far it is, as the law's island tells -/
def dq_fv (g : Nat → Bool) (w h s c : Nat) : Nat := if 0 ≤ (pu_far g w h s).1 c then ((pu_far g w h s).1 c).toNat else 9999
theorem dq_far_Fv (hw : w ≤ 20) (hh : h ≤ 20) (hs : s < w * h) (I : dq_FI g w h s F) (hr : ∀ c, c < w * h → F c < 9999 → ∀ b, b < 8 → ∀ c', pu_nbr g w h c b = some c' → F c' ≤ F c + 1) (hc : c < w * h) : F c = dq_fv g w h s c := by
  unfold dq_fv
  exact dq_far_F hw hh hs I.1 I.2.1 I.2.2 hr hc
/-- over: the ground, or all land -/
def dq_over (Y : dw_S) (a : Nat → Int32) (m : Nat) (g : Nat → Bool) (r : Option Nat) : Prop := (r = none ∧ g = pu_land a) ∨ ∃ x, r = some x ∧ dq_A1 Y x 21 m ∧ (∀ c, c < m → dw_i Y x c = pu_b1 (g c)) ∧ ∀ d, g d = true → pu_land a d = true
set_option maxHeartbeats 1000000 in
theorem dq_far (H : pu_WF a w h nb nc) (h30 : w * h ≤ 30) (I : dq_I Y th ι a w h nb nc) (hs : s < w * h) {r : Option Nat} (O : dq_over Y a (w * h) g r) (hn : 700000 < n) {Q : Nat × dw_S → Prop} (hQ : ∀ r, dq_RQ Y th ι 20 (w * h) r.1 (fun c => Int32.ofNat (dq_fv g w h s c)) r.2 → Q r) : dw_P_X13_far n th (Int32.ofNat s) r Y Q := by
  have hm := H.1
  have hw := hm.2.2.2.1
  have hh := hm.2.2.2.2.2
  obtain ⟨Is, ⟨f0, f1, -⟩, -, -, -, -, ⟨N1, -⟩⟩ := id I
  have h4 : 442 ≤ dw_n Y := by have := Is.1; have := Is.2.1; omega
  have hN5 := N1.1.1
  dsimp only [dw_P_X13_far, pw_lt]
  rw [f0, f1, pu_mul, pu_n (by omega)]
  refine dq_ck Is (dq_ck Is (dq_ck ⟨⟨pu_nn (by omega), by omega⟩, by omega, by omega⟩ (fun x hx => ?_)))
  dsimp only []
  have R0 : dq_RQ Y th ι 20 (w * h) x (fun _ => 0) (dw_nw Y x 20 (w * h) (fun _ => 0) fun _ => none) := dq_RQ_new dq_fr_refl h4 hx
  generalize dw_nw Y x 20 (w * h) (fun _ => 0) (fun _ => none) = Y2 at R0
  refine dq_for (w * h) (fun k v => v.1 = Int32.ofNat k ∧ dq_RQ Y th ι 20 (w * h) x (fun c => if c < k then Int32.ofNat (if c = s then 0 else 9999) else 0) v.2) (fun k2 k v hk hv hk2 => ?_) (fun k2 v hv => ?_) (by omega) ⟨rfl, dq_RQ_ext R0 (fun c _ => if_neg (Nat.not_lt_zero c))⟩
  all_goals
    obtain ⟨v1, Yw⟩ := v
    obtain ⟨hv1, Rw⟩ := hv
    dsimp only [] at hv1 Rw
    dsimp only []
    subst hv1
    rw [Rw.2.1.2]
  · rw [pu_n (by omega)]
    refine dq_ck Rw.2.1.1 (dq_iff (by rw [pu_le (by omega) (by omega)]; omega) (dq_jn (fun v => v = Int32.ofNat (if k = s then 0 else 9999)) (fun v hv => dq_ck ⟨Rw.2.1.1, pu_ok (by omega) hk⟩ (hk2 _ ⟨pu_add k 1, dq_RQ_set Rw (fun c _ => ?_)⟩)) (fun j hj => dq_if (fun z => hj _ ?_) (fun z => hj _ ?_))))
    · rw [hv]
      by_cases e1 : c = k
      · rw [if_pos e1, if_pos (by omega), e1]
      · rw [if_neg e1]
        by_cases e2 : c < k
        · rw [if_pos e2, if_pos (by omega)]
        · rw [if_neg e2, if_neg (by omega)]
    · rw [if_neg (fun e => z (by rw [e]))]; rfl
    · rw [if_pos ((pu_eq (by omega) (by omega)).mp (Classical.not_not.mp z))]; rfl
  refine dq_ck Rw.2.1.1 (dq_ift ((pu_le (by omega) (by omega)).mpr (Nat.le_refl _)) ?_)
  have Rw' : dq_RQ Y th ι 20 (w * h) x (fun c => Int32.ofNat (if c = s then 0 else 9999)) Yw := dq_RQ_ext Rw (fun c hc => (if_pos hc).symm)
  -- the rounds
  refine dq_lp (fun v => 2 * dq_sF (fun c => (dw_i v.2 x c).toNatClampNeg) (w * h) + (if v.1 = 0 then 0 else 1)) (fun v => ∃ F, dq_RQ Y th ι 20 (w * h) x (fun c => Int32.ofNat (F c)) v.2 ∧ dq_FI g w h s F ∧ (v.1 = 0 → ∀ c b, c < w * h → b < 8 → dq_ok g w h F c b)) (fun v K hv hK => ?_) n _ ⟨fun c => if c = s then 0 else 9999, Rw', ⟨if_pos rfl, fun c _ => ?_, fun c _ hc9 => ?_⟩, fun z => absurd (show (1 : Int32) = 0 from z) (by decide)⟩ ?_
  rotate_left
  · dsimp only []
    by_cases e : c = s
    · rw [if_pos e]; omega
    · rw [if_neg e]; omega
  · dsimp only [] at hc9 ⊢
    by_cases e : c = s
    · rw [if_pos e, e]; rfl
    · rw [if_neg e] at hc9; omega
  · have := dq_sF_le (F := fun c => (dw_i Yw x c).toNatClampNeg) (w * h) (fun c hc => by
      rw [Rw'.2.2.2 c hc, pu_n (by split <;> omega)]
      split <;> omega)
    have h3 : w * h * 9999 ≤ 30 * 9999 := Nat.mul_le_mul_right _ h30
    dsimp only []
    split <;> omega
  obtain ⟨v1, Yv⟩ := v
  obtain ⟨F, Rv, IF, hok⟩ := hv
  dsimp only [] at Rv hok hK
  dsimp only []
  refine dq_if (fun z => dq_ck ⟨by omega, by omega⟩ (hQ _ (dq_RQ_ext Rv (fun c hc => ?_)))) (fun z => ?_)
  · exact congrArg Int32.ofNat (dq_far_Fv hw hh hs IF (fun c hc h9 b hb c' hn' => hok z c b hc hb h9 c' hn') hc).symm
  rw [if_neg z] at hK
  have hval : ∀ (F : Nat → Nat) (Yu : dw_S), dq_RQ Y th ι 20 (w * h) x (fun c => Int32.ofNat (F c)) Yu → dq_FI g w h s F → ∀ c, c < w * h → (dw_i Yu x c).toNatClampNeg = F c := fun F Yu R I c hc => by
    have := I.2.1 c hc
    rw [R.2.2.2 c hc, pu_n (by omega)]
  have hsum : ∀ (F : Nat → Nat) (Yu : dw_S), dq_RQ Y th ι 20 (w * h) x (fun c => Int32.ofNat (F c)) Yu → dq_FI g w h s F → ∀ m, m ≤ w * h → dq_sF (fun c => (dw_i Yu x c).toNatClampNeg) m = dq_sF F m := by
    intro F Yu R I m
    induction m with
    | zero => exact fun _ => rfl
    | succ m ih =>
      intro hm'
      show dq_sF _ m + (dw_i Yu x m).toNatClampNeg = dq_sF F m + F m
      rw [ih (by omega), hval F Yu R I m (by omega)]
  rw [hsum F Yv Rv IF _ (Nat.le_refl _)] at hK
  -- one round
  refine dq_for (w * h) (fun k v => v.2.1 = Int32.ofNat k ∧ ∃ F', dq_RQ Y th ι 20 (w * h) x (fun c => Int32.ofNat (F' c)) v.2.2 ∧ dq_FI g w h s F' ∧ ((v.1 = 0 ∧ F' = F ∧ ∀ c b, c < k → b < 8 → dq_ok g w h F c b) ∨ (v.1 = 1 ∧ dq_sF F' (w * h) < dq_sF F (w * h)))) (fun k2 k v hk hv hk2 => ?_) (fun k2 v hv => ?_) (by omega) ⟨rfl, F, Rv, IF, Or.inl ⟨rfl, rfl, fun c b hc => absurd hc (Nat.not_lt_zero _)⟩⟩
  all_goals
    obtain ⟨m1, v2, Yu⟩ := v
    obtain ⟨hv2, F1, Ru, IF1, hm1⟩ := hv
    dsimp only [] at hv2 Ru hm1
    dsimp only []
    subst hv2
    rw [Ru.2.1.2]
  · refine dq_ck Ru.2.1.1 (dq_iff (by rw [pu_le (by omega) (by omega)]; omega) ?_)
    refine dq_for 8 (fun b v => v.2.1 = Int32.ofNat k ∧ v.2.2.1 = Int32.ofNat b ∧ ∃ F', dq_RQ Y th ι 20 (w * h) x (fun c => Int32.ofNat (F' c)) v.2.2.2 ∧ dq_FI g w h s F' ∧ ((v.1 = 0 ∧ F' = F ∧ (∀ c b, c < k → b < 8 → dq_ok g w h F c b) ∧ ∀ b', b' < b → dq_ok g w h F k b') ∨ (v.1 = 1 ∧ dq_sF F' (w * h) < dq_sF F (w * h)))) (fun k3 b v hb hv hk3 => ?_) (fun k3 v hv => ?_) (by omega) ⟨rfl, rfl, F1, Ru, IF1, hm1.elim (fun z => Or.inl ⟨z.1, z.2.1, z.2.2, fun b' hb' => absurd hb' (Nat.not_lt_zero _)⟩) Or.inr⟩
    all_goals
      obtain ⟨m2, v2, v3, Yt⟩ := v
      obtain ⟨hv2, hv3, F2, Rt, IF2, hm2⟩ := hv
      dsimp only [] at hv2 hv3 Rt hm2
      dsimp only []
      subst hv2 hv3
      have hout : (∀ b', b' < 8 → dq_ok g w h F2 k b') ∨ m2 = 1 → ∀ v, v = (m2, Int32.ofNat k + (1 : Int32), Yt) → k2 v := fun z v ev => by
        rw [ev]
        refine hk2 _ ⟨pu_add k 1, F2, Rt, IF2, ?_⟩
        rcases hm2 with ⟨y1, y2, y3, -⟩ | y
        · rcases z with z | z
          · refine Or.inl ⟨y1, y2, fun c b hc hb => ?_⟩
            by_cases e : c = k
            · rw [e, ← y2]; exact z b hb
            · exact y3 c b (by omega) hb
          · exact absurd (y1.symm.trans z) (by decide)
        · exact Or.inr y
    · refine dq_jn (fun _ => (∀ b', b' < 8 → dq_ok g w h F2 k b') ∨ m2 = 1) (fun _ z => hout z _ rfl) (fun j hj => ?_)
      have h9 := IF2.2.1 k hk
      have It := dq_I_use Rt.1 I
      rw [Rt.2.1.2, pu_n (by omega), Rt.2.2.2 k hk]
      refine dq_iff (by rw [show (8 : Int32) = Int32.ofNat 8 from rfl, pu_le (by omega) (by omega)]; omega) (dq_ck ⟨Rt.2.1.1, pu_ok (by omega) hk⟩ (dq_if (fun z => hj () (Or.inl (fun b' hb' h9' => ?_))) (fun z => dq_ck ⟨It.1, by omega, by omega⟩ (dq_nbr It hm hk hb ?_))))
      · have := (pu_le (a := 9999) (by omega) (by omega)).mp z
        omega
      have h9' : F2 k < 9999 := by
        refine Nat.lt_of_not_le (fun y => z ?_)
        exact (pu_le (a := 9999) (by omega) (by omega)).mpr y
      -- skip: this pace makes nothing better
      have skip : dq_ok g w h F2 k b → ∀ v, v = (m2, Yt) → k3 (v.1, Int32.ofNat k, Int32.ofNat b + (1 : Int32), v.2) := fun z v ev => by
        rw [ev]
        refine hk3 _ ⟨rfl, pu_add b 1, F2, Rt, IF2, ?_⟩
        rcases hm2 with ⟨y1, y2, y3, y4⟩ | y
        · refine Or.inl ⟨y1, y2, y3, fun b' hb' => ?_⟩
          by_cases e : b' = b
          · rw [e, ← y2]; exact z
          · exact y4 b' (by omega)
        · exact Or.inr y
      have hsub : ∀ d, g d = true → pu_land a d = true := by
        rcases O with ⟨-, e⟩ | ⟨-, -, -, -, e⟩
        · rw [e]; exact fun _ z => z
        · exact e
      have hnb := pu_nbr_sub (g := pu_land a) (g' := g) (w := w) (h := h) (c := k) (b := b) hsub
      cases hl : pu_nbr (pu_land a) w h k b with
      | none =>
        rw [hl] at hnb
        refine dq_jn (fun v => v = (m2, Yt)) (fun v hv => skip (fun _ c' e => ?_) v hv) (fun j2 hj2 => dq_ift (by decide) (hj2 _ rfl))
        rw [hnb] at e
        cases e
      | some d =>
        have hd := pu_nbr_lt hw hh hk hb hl
        have hd9 := IF2.2.1 d hd
        rw [hl] at hnb
        dsimp only [] at hnb
        show tw_jn _ _
        rw [show pu_eR (some d) = Int32.ofNat d from rfl, pu_n (by omega), Rt.2.2.2 d hd]
        refine dq_jn (fun v => k3 (v.1, Int32.ofNat k, Int32.ofNat b + (1 : Int32), v.2)) (fun v hv => hv) (fun j2 hj2 => dq_iff (pu_nn (by omega)) ?_)
        refine dq_jn (fun _ => g d = true) (fun _ hg => ?_) (fun j3 hj3 => ?_)
        · rw [if_pos hg] at hnb
          refine dq_ck ⟨Rt.2.1.1, pu_ok (by omega) hd⟩ (dq_ck ⟨Rt.2.1.1, pu_ok (by omega) hk⟩ ?_)
          rw [show Int32.ofNat (F2 k) + (1 : Int32) = Int32.ofNat (F2 k + 1) from pu_add _ 1]
          refine dq_if (fun y => ?_) (fun y => hj2 _ (skip (fun _ c' e => ?_) _ rfl))
          · rw [pu_ltn (by omega) (by omega)] at y
            refine dq_ck ⟨Rt.2.1.1, pu_ok (by omega) hk⟩ (dq_ck ⟨Rt.2.1.1, pu_ok (by omega) hd⟩ (hj2 _ (hk3 _ ⟨rfl, pu_add b 1, dq_uF F2 d (F2 k + 1), dq_RQ_set Rt (fun c hc => ?_), dq_FI_up hs hk IF2 hb h9' hnb y, Or.inr ⟨rfl, ?_⟩⟩)))
            · unfold dq_uF
              by_cases e : c = d
              · rw [if_pos e, if_pos e]
              · rw [if_neg e, if_neg e]
            · have y1 := dq_sF_up (F := F2) (i := d) (x := F2 k + 1) y (w * h) hd
              rcases hm2 with ⟨-, e, -⟩ | ⟨-, e⟩
              · rw [e] at y1 ⊢; exact y1
              · omega
          · rw [hnb] at e
            cases e
            rw [pu_ltn (by omega) (by omega)] at y
            omega
        · rcases O with ⟨e1, e2⟩ | ⟨y, e1, e2, e3, -⟩
          · refine dq_mt (fun _ => hj3 () ?_) (fun y e => by rw [e1] at e; cases e)
            rw [e2]
            exact (pu_nbr_some hl).2
          · have hyn := e2.1.1
            have hy5 : y ≠ ι 5 := dq_is_ne e2.1 N1.1 (by decide)
            have ey : ∀ j, dw_i Yt y j = dw_i Y y j := fun j => Rt.1.2.2.2.1 y j hyn hy5
            have e2' := dq_A1_fr Rt.1 e2
            refine dq_mt (fun e => by rw [e1] at e; cases e) (fun y2 e => dq_nn e1 (dq_ck ⟨e2'.1, (dq_A1_ok e2' hd (by omega)).2⟩ ?_))
            rw [ey, e3 d hd]
            refine dq_if (fun y3 => hj2 _ (skip (fun _ c' e => ?_) _ rfl)) (fun y3 => hj3 () (pu_bF (fun e => y3 (pu_b1_0.mpr e))))
            rw [hnb, pu_b1_0.mp y3] at e
            cases e
    · refine dq_jn (fun _ => (∀ b', b' < 8 → dq_ok g w h F2 k b') ∨ m2 = 1) (fun _ z => hout z _ rfl) (fun j hj => dq_ift (by decide) (hj () ?_))
      rcases hm2 with ⟨-, y2, -, y4⟩ | y
      · rw [y2]; exact Or.inl y4
      · exact Or.inr y.1
  · refine dq_ck Ru.2.1.1 (dq_ift ((pu_le (by omega) (by omega)).mpr (Nat.le_refl _)) (hK _ ⟨F1, Ru, IF1, fun y c b hc hb => ?_⟩ ?_))
    · rcases hm1 with ⟨-, y2, y3⟩ | ⟨y2, -⟩
      · rw [y2]; exact y3 c b hc hb
      · exact absurd (y.symm.trans y2) (by decide)
    · dsimp only []
      rw [hsum F1 Yu Ru IF1 _ (Nat.le_refl _)]
      rcases hm1 with ⟨y1, y2, -⟩ | ⟨y1, y2⟩
      · rw [y1, y2, if_pos rfl]; omega
      · rw [y1, if_neg (by decide)]; omega
end DQF
