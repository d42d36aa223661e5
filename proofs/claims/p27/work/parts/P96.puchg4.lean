/-! use, hide -/
section CHG4
variable {σ : tw_Sg} {w h nb nc cn len n : Nat} {a a' : Nat → Int32} {hist : Nat → Nat → Int32} {buf : Nat → Nat} {err : Int32}
def pu_X4 (j : Nat) : Prop := 4 ≤ j ∧ j < 8
theorem pu_ag_X4 (hA : pu_ag pu_X4 a a') : pu_ag pu_X a a' := fun j hj => hA j (fun z => hj (Or.inl z))
theorem pu_first_cong {p q : Nat → Bool} {m : Nat} (hpq : ∀ i, i < m → p i = q i) : pu_first p m = pu_first q m := by
  induction m with
  | zero => rfl
  | succ m ih => rw [pu_first_S, pu_first_S, ih (fun i hi => hpq i (by omega)), hpq m (by omega)]
theorem pu_ag_left (hA : pu_ag pu_X4 a a') (H : pu_WF a w h nb nc) {d : Nat} (hd : d < w * h) : pu_left a' w h nb nc d = pu_left a w h nb nc d := by
  have h400 := pu_wfm_le H.1
  have hnc := H.2.2.1.2.1
  have hX := pu_ag_X4 hA
  have hb : ∀ q, q < nc → pu_bad a' w h nb d q = pu_bad a w h nb d q := fun q hq => by
    unfold pu_bad
    refine pu_B_cong ?_
    rw [hA (pu_cl q) (by unfold pu_X4 pu_cl; omega), pu_ag_nl (pu_ag_Y hX) (by omega), pu_ag_Fw hX H hq (pu_nl a q) (Nat.le_refl _) d]
  unfold pu_left pu_cand
  rw [pu_ag_land (pu_ag_Y hX) (by omega), pu_first_cong hb]
  unfold pu_dug
  rw [hA (408 + d) (by unfold pu_X4; omega)]
/-- how many are left -/
noncomputable def pu_nleft (a : Nat → Int32) (w h nb nc : Nat) : Nat := pu_sum (pu_left a w h nb nc) (w * h)
/-! use -/
def pu_aUse (a : Nat → Int32) (k : Nat) (x : Int32) : Nat → Int32 := upd a (pu_cl k) (if x = 0 then 0 else 1)
noncomputable def pu_oUse (a : Nat → Int32) (w h nb nc : Nat) (q x : Int32) : Int32 ⊕ Int32 := match pu_clueOf nc q with
  | none => .inr 1
  | some k => .inl (Int32.ofNat (pu_nleft (pu_aUse a k x) w h nb nc))
theorem pu_use_e {k : Nat} {x : Int32} {j : Nat} (hj : j ≠ pu_cl k) : pu_aUse a k x j = a j := pu_upd_n hj
theorem pu_use_ag {k : Nat} {x : Int32} (hk : k < 4) : pu_ag pu_X a (pu_aUse a k x) := fun j hj => pu_use_e (by unfold pu_X at hj; unfold pu_cl; omega)
theorem pu_01 {x : Int32} : (if x = 0 then 0 else 1 : Int32) = 0 ∨ (if x = 0 then 0 else 1 : Int32) = 1 := by
  by_cases e : x = 0
  · rw [if_pos e]; exact Or.inl rfl
  · rw [if_neg e]; exact Or.inr rfl
theorem pu_use_WF {k : Nat} {x : Int32} (H : pu_WF a w h nb nc) (hk : k < nc) : pu_WF (pu_aUse a k x) w h nb nc := by
  have h400 := pu_wfm_le H.1
  have hnc := H.2.2.1.2.1
  have hnb := H.2.1.2.1
  refine pu_chg_WF H (pu_ag_Y (pu_use_ag (by omega))) (fun q hq => ?_) (fun c hc => ?_) (pu_is_cong (pu_use_e (by unfold pu_cl; omega)) H.2.2.2.1.2.2.2.1) (pu_is_cong (pu_use_e (by unfold pu_cl; omega)) H.2.2.2.1.2.2.2.2) (pu_is_cong (pu_use_e (by unfold pu_cl; omega)) H.2.2.2.2) (fun i hi => ?_)
  · by_cases e : q = k
    · subst e
      have e2 : pu_aUse a q x (pu_cl q) = if x = 0 then 0 else 1 := pu_upd_s
      rw [e2]
      exact pu_01
    · rw [pu_use_e (by unfold pu_cl; omega)]
      exact (H.2.2.1.2.2 q hq).1
  · rw [pu_use_e (by unfold pu_cl; omega)]
    exact H.2.2.2.1.2.1 c hc
  · rw [pu_use_e (by unfold pu_cl; omega)]
    obtain ⟨l, t, r, o, -, -, -, -, -, -, -, -, z⟩ := H.2.1.2.2 i hi
    exact z
theorem pu_IC_left {s : tw_Sg} (J : pu_IC s w h nb nc a cn hist len buf err) (hn : 1000 < n) : pu_wp (tw_P_X8_left n s) (fun r => r.1 = 140 ∧ pu_set r.2 (140 + 1) w (w * h) (pu_left a w h nb nc) ∧ tw_P_X0_count n 140 r.2 = some (Int32.ofNat (pu_nleft a w h nb nc)) ∧ pu_IC r.2 w h nb nc a cn hist len buf err ∧ pu_fr (fun k => k = 141) s r.2) := by
  obtain ⟨H, C, -⟩ := id J
  obtain ⟨-, -, w1, w2, h1, h2⟩ := id H.1
  refine pu_cons (pu_cleft H.1 H.2.1.2.1 H.2.2.1 C.1 C.2.1 (by omega)) (fun r hr => ?_)
  obtain ⟨x1, x2, x3⟩ := hr
  exact ⟨x1, x2, pu_ccount (th := 140) pu_kd140 w2 h2 x2 (by omega), pu_IC_SQ J (pu_fr_mono x3 (fun k hk => by unfold pu_SQ; omega)), x3⟩
theorem pu_cuse {q x : Int32} (I : pu_IC σ w h nb nc a cn hist len buf err) (hn : 1000 < n) : pu_wp (tw_P_L_use n q x σ) (pu_KC σ (pu_oUse a w h nb nc q x) (fun s => match pu_clueOf nc q with | none => pu_IC s w h nb nc a cn hist len buf err | some k => pu_IC s w h nb nc (pu_aUse a k x) (min (cn + 1) 8) (pu_push cn hist a) len buf err)) := by
  obtain ⟨H, C, -⟩ := id I
  obtain ⟨dw, dh, dn⟩ := pu_CCdim H C
  have hnc := H.2.2.1.2.1
  have hcq := pu_checkClue (x := q) dn hnc
  unfold tw_P_L_use
  cases eq : pu_clueOf nc q with
  | none =>
    rw [eq] at hcq
    have ho : pu_oUse a w h nb nc q x = .inr 1 := by unfold pu_oUse; rw [eq]
    refine pu_bcr (s := "java/lang/IndexOutOfBoundsException") (by unfold tw_P_X11_use; rw [hcq]; rfl) ?_
    exact pu_ift rfl (pu_some (pu_kfault ho I))
  | some k =>
    rw [eq] at hcq
    have ho : pu_oUse a w h nb nc q x = .inl (Int32.ofNat (pu_nleft (pu_aUse a k x) w h nb nc)) := by unfold pu_oUse; rw [eq]
    obtain ⟨rfl, hk⟩ := pu_clueOf_some eq
    refine pu_bcw (R := fun r => ∃ s, r = .inl (Int32.ofNat (pu_nleft (pu_aUse a k x) w h nb nc), s) ∧ pu_IC s w h nb nc (pu_aUse a k x) (min (cn + 1) 8) (pu_push cn hist a) len buf err ∧ pu_fr pu_fC σ s) ?_ (fun v hv => ?_) (fun s hs => ?_)
    · unfold tw_P_X11_use
      refine pu_bxl hcq (pu_bd (pu_ickeep I) (fun s hs => ?_))
      obtain ⟨J, s2⟩ := hs
      have hf : pu_fr pu_fC σ s := pu_fr_mono s2 (fun k hk => by unfold pu_F4 at hk; unfold pu_fC; omega)
      refine pu_jn (R := fun v => v = if x = 0 then 0 else 1) (fun v hv => ?_) (fun f hf' => ?_)
      rotate_left
      · refine pu_if (fun c1 => ?_) (fun c1 => ?_)
        · exact hf' _ (if_pos c1).symm
        · exact hf' _ (if_neg c1).symm
      refine pu_bde (pu_put (th := 15) (i := k) (N := 4) (by decide +kernel) (by decide) (by omega)) ?_
      obtain ⟨-, j2, -⟩ := id J
      have J2 : pu_IC (tw_up s (15 + 1) k v) w h nb nc (pu_aUse a k x) (min (cn + 1) 8) (pu_push cn hist a) len buf err := by
        refine pu_icchg J (pu_use_ag (by omega)) (pu_use_WF H hk) (fun i _ _ h16 _ => tw_up_n h16) (fun i _ => by rw [tw_up_n (by decide)]) ?_ ?_ ?_ (fun z => ?_) ?_ (fun q hq => ?_)
        · rw [tw_up_n (by decide), pu_tm_of (c := pu_v a 4) (by have := (pu_team H).2.1; have := pu_wfm_le H.1; omega) ((pu_use_e (by unfold pu_cl; omega)).trans (pu_team H).1)]
          exact pu_cteam H j2.1
        · rw [tw_up_n (by decide), pu_use_e (by unfold pu_cl; omega)]
          exact j2.1.1.2.2.2.1
        · rw [tw_up_n (by decide), pu_use_e (by unfold pu_cl; omega)]
          exact j2.1.1.2.2.2.2.1
        · rw [pu_use_e (by unfold pu_cl; omega)] at z
          rw [tw_up_n (by decide), pu_v_cong (pu_use_e (by unfold pu_cl; omega))]
          exact j2.1.1.2.2.2.2.2.2.2 z
        · refine pu_set_ext (pu_set_cong (σ := s) j2.1.2.2.1 (tw_up_n (by decide))) (fun d hd => ?_)
          unfold pu_dug
          have := pu_wfm_le H.1
          rw [pu_use_e (by unfold pu_cl; omega)]
        · show tw_up s 16 k v 16 q = _
          rw [tw_up_s]
          unfold upd
          by_cases e : q = k
          · subst e
            rw [if_pos rfl, hv]
            exact pu_upd_s.symm
          · rw [if_neg e, pu_use_e (by unfold pu_cl; omega)]
            exact (j2.1.2.2.2.2.2 q hq).1
      refine pu_bd (pu_IC_left J2 hn) (fun r hr => ?_)
      obtain ⟨x1, -, x3, x4, x5⟩ := hr
      refine pu_ck (by rw [x1]; rfl) (pu_bde x3 (pu_some ⟨_, rfl, x4, ?_⟩))
      exact pu_fr_trans hf (pu_fr_trans (pu_fr_up (by unfold pu_fC; omega)) (pu_fr_mono x5 (fun k hk => by unfold pu_fC; omega)))
    · obtain ⟨s, z, hI, hf⟩ := hv
      have z := Sum.inl.inj z
      subst z
      exact pu_ktell ho hI pu_IC_1036 hf
    · obtain ⟨s, z, -⟩ := hs
      cases z
/-! hide -/
noncomputable def pu_aHide (a : Nat → Int32) (w h nb nc i : Nat) : Nat → Int32 := if pu_nleft a w h nb nc = 0 then upd (upd a 6 0) 7 0 else upd (upd a 6 1) 7 (Int32.ofNat (pu_g (pu_left a w h nb nc) (w * h) (i % pu_nleft a w h nb nc)))
def pu_hideOf (x : Int32) : Option Nat := if 0 ≤ x.toInt ∧ x.toInt ≤ 9999 then some x.toNatClampNeg else none
noncomputable def pu_oHide (a : Nat → Int32) (w h nb nc : Nat) (x : Int32) : Int32 ⊕ Int32 := match pu_hideOf x with
  | none => .inr 1
  | some _ => .inl (Int32.ofNat (pu_nleft a w h nb nc))
theorem pu_u67_e {x y : Int32} {j : Nat} (h6 : j ≠ 6) (h7 : j ≠ 7) : upd (upd a 6 x) 7 y j = a j := by rw [pu_upd_n h7, pu_upd_n h6]
theorem pu_u67_ag {x y : Int32} : pu_ag pu_X4 a (upd (upd a 6 x) 7 y) := fun j hj => pu_u67_e (fun e => hj (by rw [e]; unfold pu_X4; omega)) (fun e => hj (by rw [e]; unfold pu_X4; omega))
theorem pu_u67_6 {x y : Int32} : upd (upd a 6 x) 7 y 6 = x := by rw [pu_upd_n (by decide), pu_upd_s]
theorem pu_u67_7 {x y : Int32} : upd (upd a 6 x) 7 y 7 = y := pu_upd_s
theorem pu_u67_WF {x c : Nat} (H : pu_WF a w h nb nc) (hx : x < 3) (hc : c < w * h) : pu_WF (upd (upd a 6 (Int32.ofNat x)) 7 (Int32.ofNat c)) w h nb nc := by
  have h400 := pu_wfm_le H.1
  have hnc := H.2.2.1.2.1
  have hnb := H.2.1.2.1
  refine pu_chg_WF H (pu_ag_Y (pu_ag_X4 pu_u67_ag)) (fun q hq => ?_) (fun d hd => ?_) (pu_is_of pu_u67_6 hx (by decide)) (pu_is_of pu_u67_7 hc (by omega)) (pu_is_cong (pu_u67_e (by decide) (by decide)) H.2.2.2.2) (fun i hi => ?_)
  · rw [pu_u67_e (by unfold pu_cl; omega) (by unfold pu_cl; omega)]
    exact (H.2.2.1.2.2 q hq).1
  · rw [pu_u67_e (by omega) (by omega)]
    exact H.2.2.2.1.2.1 d hd
  · rw [pu_u67_e (by omega) (by omega)]
    obtain ⟨l, t, r, o, -, -, -, -, -, -, -, -, z⟩ := H.2.1.2.2 i hi
    exact z
theorem pu_IC_u67 {s t : tw_Sg} {x c : Nat} (J : pu_IC s w h nb nc a cn hist len buf err) (hx : x < 3) (hc : c < w * h) (g : ∀ k, k ≠ 1 → k < 403 → t k = s k) (g1 : ∀ i, i ≠ 12 → i ≠ 13 → t 1 i = s 1 i) (e12 : t 1 12 = Int32.ofNat x) (e13 : x = 1 → t 1 13 = Int32.ofNat (pu_sp w c)) : pu_IC t w h nb nc (upd (upd a 6 (Int32.ofNat x)) 7 (Int32.ofNat c)) cn hist len buf err := by
  obtain ⟨H, j2, -⟩ := id J
  have h400 := pu_wfm_le H.1
  refine pu_icchg J (pu_ag_X4 pu_u67_ag) (pu_u67_WF H hx hc) (fun k h1 _ _ h4 => g k h1 h4) (fun i hi => g1 i (by omega) (by omega)) ?_ ?_ ?_ (fun z => ?_) ?_ (fun q hq => ?_)
  · rw [g1 10 (by decide) (by decide), pu_tm_of (c := pu_v a 4) (by have := (pu_team H).2.1; omega) ((pu_u67_e (by decide) (by decide)).trans (pu_team H).1)]
    exact pu_cteam H j2.1
  · rw [g1 11 (by decide) (by decide), pu_u67_e (by decide) (by decide)]
    exact j2.1.1.2.2.2.1
  · rw [e12, pu_u67_6]
  · rw [pu_u67_6] at z
    have z := (pu_eq (b := 1) (by omega) (by decide)).mp z
    rw [e13 z, pu_v_of pu_u67_7 (by omega)]
  · refine pu_set_ext (pu_set_cong (σ := s) j2.1.2.2.1 (g 5 (by decide) (by decide))) (fun d hd => ?_)
    unfold pu_dug
    rw [pu_u67_e (by omega) (by omega)]
  · rw [g 16 (by decide) (by decide), pu_u67_e (by unfold pu_cl; omega) (by unfold pu_cl; omega)]
    exact (j2.1.2.2.2.2.2 q hq).1
theorem pu_hide_some {x : Int32} {i : Nat} (e : pu_hideOf x = some i) : x = Int32.ofNat i ∧ i ≤ 9999 := by
  unfold pu_hideOf at e
  by_cases hc : 0 ≤ x.toInt ∧ x.toInt ≤ 9999
  · rw [if_pos hc] at e
    cases e
    obtain ⟨a1, a2, a3⟩ := pu_back hc.1
    exact ⟨a1, by omega⟩
  · rw [if_neg hc] at e
    cases e
theorem pu_chide {x : Int32} (I : pu_IC σ w h nb nc a cn hist len buf err) (hn : 1000 < n) : pu_wp (tw_P_L_hide n x σ) (pu_KC σ (pu_oHide a w h nb nc x) (fun s => match pu_hideOf x with | none => pu_IC s w h nb nc a cn hist len buf err | some i => pu_IC s w h nb nc (pu_aHide a w h nb nc i) (min (cn + 1) 8) (pu_push cn hist a) len buf err)) := by
  obtain ⟨H, C, -⟩ := id I
  obtain ⟨-, -, w1, w2, h1, h2⟩ := id H.1
  have h400 := pu_wfm_le H.1
  have hKle : pu_nleft a w h nb nc ≤ w * h := pu_sum_le _
  have h9999 : (9999 : Int32).toInt = 9999 := by decide
  unfold tw_P_L_hide
  cases e : pu_hideOf x with
  | none =>
    have ho : pu_oHide a w h nb nc x = .inr 1 := by unfold pu_oHide; rw [e]
    have hx : ¬ (0 ≤ x.toInt ∧ x.toInt ≤ 9999) := fun z => by unfold pu_hideOf at e; rw [if_pos z] at e; cases e
    refine pu_bcw (R := fun r => r = .inr "java/lang/IllegalArgumentException") ?_ (fun v hv => by cases hv) (fun s hs => ?_)
    · unfold tw_P_X11_hide
      refine pu_jn0 (pu_if (fun c1 => pu_some rfl) (fun c1 => pu_if (fun c2 => ?_) (fun c2 => pu_some rfl)))
      rw [Int32.lt_iff_toInt_lt, pu_toInt0] at c1
      rw [Int32.le_iff_toInt_le, h9999] at c2
      exact absurd ⟨by omega, c2⟩ hx
    · cases hs
      exact pu_ift rfl (pu_some (pu_kfault ho I))
  | some i =>
    have ho : pu_oHide a w h nb nc x = .inl (Int32.ofNat (pu_nleft a w h nb nc)) := by unfold pu_oHide; rw [e]
    obtain ⟨rfl, hi⟩ := pu_hide_some e
    refine pu_bcw (R := fun r => ∃ s, r = .inl (Int32.ofNat (pu_nleft a w h nb nc), s) ∧ pu_IC s w h nb nc (pu_aHide a w h nb nc i) (min (cn + 1) 8) (pu_push cn hist a) len buf err ∧ pu_fr pu_fC σ s) ?_ (fun v hv => ?_) (fun s hs => ?_)
    · unfold tw_P_X11_hide
      refine pu_jn0 (pu_iff (pu_nn (by omega)) (pu_ift ?_ ?_))
      · exact (pu_le (b := 9999) (by omega) (by decide)).mpr hi
      refine pu_bd (pu_ickeep I) (fun s hs => ?_)
      obtain ⟨J, s2⟩ := hs
      have hf : pu_fr pu_fC σ s := pu_fr_mono s2 (fun k hk => by unfold pu_F4 at hk; unfold pu_fC; omega)
      refine pu_bd (pu_IC_left J hn) (fun r hr => ?_)
      obtain ⟨x1, x2, x3, x4, x5⟩ := hr
      have hf2 : pu_fr pu_fC σ r.2 := pu_fr_trans hf (pu_fr_mono x5 (fun k hk => by unfold pu_fC; omega))
      refine pu_ck (by rw [x1]; rfl) (pu_bde x3 (pu_lt ?_))
      refine pu_jn (R := fun v => v = if pu_nleft a w h nb nc = 0 then 0 else 1) (fun v hv => ?_) (fun f hf' => ?_)
      rotate_left
      · refine pu_if (fun c1 => ?_) (fun c1 => ?_)
        · have c1 := (pu_le (b := 0) (by omega) (by decide)).mp c1
          exact hf' _ (if_pos (by omega)).symm
        · have c1 : ¬ pu_nleft a w h nb nc ≤ 0 := fun z => c1 ((pu_le (b := 0) (by omega) (by decide)).mpr z)
          exact hf' _ (if_neg (by omega)).symm
      have g0 : ∀ k, k ≠ 1 → tw_up r.2 1 12 v k = r.2 k := fun k hk => tw_up_n hk
      have g01 : ∀ j, j ≠ 12 → tw_up r.2 1 12 v 1 j = r.2 1 j := fun j hj => by rw [tw_up_s]; exact if_neg hj
      have g02 : tw_up r.2 1 12 v 1 12 = v := by rw [tw_up_s]; exact if_pos rfl
      refine pu_lt ?_
      have hf3 : pu_fr pu_fC σ (tw_up r.2 1 12 v) := pu_fr_trans hf2 (pu_fr_up (by unfold pu_fC; omega))
      have hS : pu_set (tw_up r.2 1 12 v) (140 + 1) w (w * h) (pu_left a w h nb nc) := pu_set_cong x2 (g0 (140 + 1) (by decide))
      generalize tw_up r.2 1 12 v = t at g0 g01 g02 hf3 hS ⊢
      refine pu_jn (R := fun u => pu_nleft a w h nb nc ≠ 0 → u = Int32.ofNat (pu_sp w (pu_g (pu_left a w h nb nc) (w * h) (i % pu_nleft a w h nb nc)))) (fun u hu => ?_) (fun f hf' => ?_)
      rotate_left
      · refine pu_if (fun c1 => ?_) (fun c1 => ?_)
        · have c1 := (pu_le (b := 0) (by omega) (by decide)).mp c1
          exact hf' _ (fun z => absurd c1 (by omega))
        · have c1 : ¬ pu_nleft a w h nb nc ≤ 0 := fun z => c1 ((pu_le (b := 0) (by omega) (by decide)).mpr z)
          refine pu_ck ?_ ?_
          · rw [decide_eq_false]
            · rfl
            · exact pu_ne0 (by omega) (by omega)
          rw [pu_rem (by omega) (by omega)]
          refine pu_bd (pu_cat (i := i % pu_nleft a w h nb nc) pu_kd140 w2 h2 hS (Nat.mod_lt _ (by omega)) hn) (fun u hu => hf' _ (fun _ => hu))
      refine pu_lt (pu_some ⟨_, rfl, ?_, pu_fr_trans hf3 (pu_fr_up (by unfold pu_fC; omega))⟩)
      have k0 : ∀ k, k ≠ 1 → k < 403 → tw_up t 1 13 u k = r.2 k := fun k hk _ => (tw_up_n hk).trans (g0 k hk)
      have k1 : ∀ j, j ≠ 12 → j ≠ 13 → tw_up t 1 13 u 1 j = r.2 1 j := fun j h1 h2 => by rw [tw_up_s]; exact (if_neg h2).trans (g01 j h1)
      have k12 : tw_up t 1 13 u 1 12 = v := by rw [tw_up_s]; exact (if_neg (by decide)).trans g02
      have k13 : tw_up t 1 13 u 1 13 = u := by rw [tw_up_s]; exact if_pos rfl
      show pu_IC (tw_up t 1 13 u) w h nb nc (pu_aHide a w h nb nc i) (min (cn + 1) 8) (pu_push cn hist a) len buf err
      generalize tw_up t 1 13 u = t2 at k0 k1 k12 k13 ⊢
      unfold pu_aHide
      by_cases hK : pu_nleft a w h nb nc = 0
      · rw [if_pos hK]
        rw [if_pos hK] at hv
        exact pu_IC_u67 (x := 0) (c := 0) x4 (by decide) (Nat.mul_pos w1 h1) k0 k1 (k12.trans hv) (fun z => absurd z (by decide))
      · rw [if_neg hK]
        rw [if_neg hK] at hv
        have hu := hu hK
        exact pu_IC_u67 (x := 1) (c := pu_g (pu_left a w h nb nc) (w * h) (i % pu_nleft a w h nb nc)) x4 (by decide) (pu_g_in (p := pu_left a w h nb nc) (w * h) (Nat.mod_lt i (Nat.pos_of_ne_zero hK))).1 k0 k1 (k12.trans hv) (fun _ => k13.trans hu)
    · obtain ⟨s, z, hI, hf⟩ := hv
      have z := Sum.inl.inj z
      subst z
      exact pu_ktell ho hI pu_IC_1036 hf
    · obtain ⟨s, z, -⟩ := hs
      cases z
end CHG4
