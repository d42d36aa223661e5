/-! checksum -/
section CKS
variable {σ : tw_Sg} {w h nb nc n : Nat} {a : Nat → Int32}
def pu_fold (f : Nat → Int32) (s : Int64) : Nat → Int64
  | 0 => s
  | m + 1 => (31 : Int64) * pu_fold f s m + Int32.toInt64 (f m)
noncomputable def pu_cv (a : Nat → Int32) (w h nb nc c : Nat) : Int32 := if pu_land a c = false then 0 else (if pu_cand a w h nb nc c = false then 1 else 3) + pu_b1 (pu_dug a c)
noncomputable def pu_rv (a : Nat → Int32) (w h nb q l : Nat) : Int32 := Int32.ofNat (pu_sum (fun d => pu_B (pu_Fw a w h nb q l d)) (w * h))
noncomputable def pu_f1 (a : Nat → Int32) (w h nb nc : Nat) : Nat → Int64 := pu_fold (pu_tv a w h nb nc (pu_np a w h nb nc)) 0
noncomputable def pu_f2 (a : Nat → Int32) (w h nb nc : Nat) : Nat → Int64 := pu_fold (pu_cv a w h nb nc) (pu_f1 a w h nb nc 13)
noncomputable def pu_f3 (a : Nat → Int32) (w h nb nc : Nat) : Nat → Int64
  | 0 => pu_f2 a w h nb nc (w * h)
  | q + 1 => pu_fold (pu_rv a w h nb q) ((31 : Int64) * pu_f3 a w h nb nc q + Int32.toInt64 (a (pu_cl q))) (pu_nl a q + 1)
theorem pu_f3_S {q : Nat} : pu_f3 a w h nb nc (q + 1) = pu_fold (pu_rv a w h nb q) ((31 : Int64) * pu_f3 a w h nb nc q + Int32.toInt64 (a (pu_cl q))) (pu_nl a q + 1) := rfl
theorem pu_bnl {α ρ : Type} {e : Option (α ⊕ String)} {k : α → Option ρ} {Q : ρ → Prop} {x : α} (hx : e = some (.inl x)) (q : pu_wp (k x) Q) : pu_wp (tw_bn e k) Q := by subst hx; exact q
theorem pu_unwS {E : Option ((Int32 × tw_Sg) ⊕ String)} {hd : String → Option (Int32 × tw_Sg)} {o : Int32 ⊕ Int32} {v : Int32} (ho : o = .inl v) (hh : ∀ x r, hd x = some r → r.1 ≠ 0) (H : pu_wp (tw_bc E (fun r : Int32 × tw_Sg => tw_ck (tw_ok (0 : Int32) (pw_ln 1036)) (tw_lt (tw_up r.2 1036 (Int32.toNatClampNeg (0 : Int32)) r.1) (fun (s9 : tw_Sg) => some ((0 : Int32), s9)))) hd) (pu_QC σ o)) : ∃ s, E = some (.inl (v, s)) ∧ pu_fr pu_SQ σ s := by
  subst ho
  obtain ⟨r, hr, h1, h2, h3⟩ := H
  cases E with
  | none => cases hr
  | some x =>
    cases x with
    | inl y =>
      rw [pu_l1036] at hr
      have hr : some ((0 : Int32), tw_up y.2 1036 0 y.1) = some r := hr
      have hr := Option.some.inj hr
      subst hr
      have hv := h2 v rfl
      have hv : tw_up y.2 1036 0 y.1 1036 0 = v := hv
      rw [tw_up_s] at hv
      have hv : y.1 = v := hv
      refine ⟨y.2, by rw [← hv], fun k hk => ?_⟩
      have := h3 k hk
      have : tw_up y.2 1036 0 y.1 k = σ k := this
      rwa [tw_up_n (fun e => hk (Or.inl e))] at this
    | inr x => exact absurd h1 (hh x r hr)
theorem pu_unwR {E : Option (Int32 ⊕ String)} {hd : String → Option (Int32 × tw_Sg)} {o : Int32 ⊕ Int32} {v : Int32} (ho : o = .inl v) (hh : ∀ x r, hd x = some r → r.1 ≠ 0) (H : pu_wp (tw_bc E (fun r : Int32 => tw_ck (tw_ok (0 : Int32) (pw_ln 1036)) (tw_lt (tw_up σ 1036 (Int32.toNatClampNeg (0 : Int32)) r) (fun (s9 : tw_Sg) => some ((0 : Int32), s9)))) hd) (pu_QC σ o)) : E = some (.inl v) := by
  subst ho
  obtain ⟨r, hr, h1, h2, h3⟩ := H
  cases E with
  | none => cases hr
  | some x =>
    cases x with
    | inl y =>
      rw [pu_l1036] at hr
      have hr : some ((0 : Int32), tw_up σ 1036 0 y) = some r := hr
      have hr := Option.some.inj hr
      subst hr
      have hv := h2 v rfl
      have hv : tw_up σ 1036 0 y 1036 0 = v := hv
      rw [tw_up_s] at hv
      have hv : y = v := hv
      rw [hv]
    | inr x => exact absurd h1 (hh x r hr)
theorem pu_hd1 {p : String} (x : String) (r : Int32 × tw_Sg) (e : (if x = p then some ((1 : Int32), σ) else none) = some r) : r.1 ≠ 0 := by
  by_cases c : x = p
  · rw [if_pos c] at e
    cases e
    exact pu_10
  · rw [if_neg c] at e
    cases e
theorem pu_hd2 {p p' : String} (x : String) (r : Int32 × tw_Sg) (e : (if x = p then some ((1 : Int32), σ) else if x = p' then some ((2 : Int32), σ) else none) = some r) : r.1 ≠ 0 := by
  by_cases c : x = p
  · rw [if_pos c] at e
    cases e
    exact pu_10
  · rw [if_neg c] at e
    by_cases c2 : x = p'
    · rw [if_pos c2] at e
      cases e
      exact (by decide : ¬ (2 : Int32) = 0)
    · rw [if_neg c2] at e
      cases e
theorem pu_state0 (H : pu_WF a w h nb nc) (C : pu_CC σ a w h nb nc) (hn : 1000 < n) {k : Nat} (hk : k ≤ 12) : ∃ s, tw_P_X11_state n (Int32.ofNat k) σ = some (.inl (pu_tv a w h nb nc (pu_np a w h nb nc) k, s)) ∧ pu_fr pu_SQ σ s := by
  have hq := pu_cstateP (x := Int32.ofNat k) H C hn
  unfold tw_P_L_state at hq
  refine pu_unwS ?_ pu_hd1 hq
  unfold pu_oState
  rw [pu_toInt (show k < 2147483648 by omega), pu_n (show k < 2147483648 by omega)]
  exact if_pos ⟨by omega, by omega⟩
theorem pu_cellOf_of {i j : Nat} (hw : w ≤ 20) (hh : h ≤ 20) (hi : i < w) (hj : j < h) : pu_cellOf w h (Int32.ofNat i) (Int32.ofNat j) = some (j * w + i) := by
  unfold pu_cellOf
  rw [pu_toInt (show i < 2147483648 by omega), pu_toInt (show j < 2147483648 by omega), pu_n (show i < 2147483648 by omega), pu_n (show j < 2147483648 by omega)]
  exact if_pos ⟨by omega, by omega, by omega, by omega⟩
theorem pu_cell0 (H : pu_WF a w h nb nc) (C : pu_CC σ a w h nb nc) (hn : 1000 < n) {i j : Nat} (hi : i < w) (hj : j < h) : ∃ s, tw_P_X11_cell n (Int32.ofNat i) (Int32.ofNat j) σ = some (.inl (pu_cv a w h nb nc (j * w + i), s)) ∧ pu_fr pu_SQ σ s := by
  have hq := pu_ccell (x := Int32.ofNat i) (y := Int32.ofNat j) (n := n) H C (by omega)
  unfold tw_P_L_cell at hq
  refine pu_unwS ?_ pu_hd1 hq
  unfold pu_oCell
  rw [pu_cellOf_of H.1.2.2.2.1 H.1.2.2.2.2.2 hi hj]
  rfl
theorem pu_reach0 (H : pu_WF a w h nb nc) (C : pu_CC σ a w h nb nc) (hn : 1000 < n) {q l : Nat} (hq : q < nc) (hl : l ≤ pu_nl a q) : tw_P_X11_reached n (Int32.ofNat q) (Int32.ofNat l) σ = some (.inl (pu_rv a w h nb q l)) := by
  have hnc := H.2.2.1.2.1
  have hnl : pu_nl a q < 9 := (H.2.2.1.2.2 q hq).2.2.1.2
  have hq' := pu_creached (q := Int32.ofNat q) (l := Int32.ofNat l) (n := n) H C (by omega)
  unfold tw_P_L_reached at hq'
  refine pu_unwR ?_ pu_hd2 hq'
  unfold pu_oReached
  rw [show pu_clueOf nc (Int32.ofNat q) = some q from by
    unfold pu_clueOf
    rw [pu_toInt (show q < 2147483648 by omega), pu_n (show q < 2147483648 by omega)]
    exact if_pos ⟨by omega, by omega⟩]
  dsimp only []
  rw [pu_toInt (show l < 2147483648 by omega), pu_n (show l < 2147483648 by omega)]
  exact if_pos ⟨by omega, by omega⟩
theorem pu_csum (H : pu_WF a w h nb nc) (C : pu_CC σ a w h nb nc) (hn : 1000 < n) : pu_wp (tw_P_X11_checksum n σ) (fun r => r.1 = pu_f3 a w h nb nc nc ∧ pu_fr pu_SQ σ r.2) := by
  obtain ⟨-, -, w1, w2, h1, h2⟩ := id H.1
  have h400 := pu_wfm_le H.1
  have hnc := H.2.2.1.2.1
  have hCC : ∀ s, pu_fr pu_SQ σ s → pu_CC s a w h nb nc := fun s hs => pu_CC_fr H C (fun k hk => hs k (by unfold pu_SQ; omega))
  unfold tw_P_X11_checksum
  refine pu_lt (pu_lt ?_)
  refine pu_lp (J := fun s => ∃ k, k ≤ 13 ∧ s.2.1 = Int32.ofNat k ∧ s.1 = pu_f1 a w h nb nc k ∧ pu_fr pu_SQ σ s.2.2) (m := fun s => 14 - s.2.1.toNatClampNeg) ?_ n _ (by show 14 - _ < n; omega) ⟨0, by omega, rfl, rfl, pu_fr_refl⟩
  rintro k4 ⟨vv, kk, σ1⟩ ⟨k, hk, e1, e2, hF⟩ hk4
  dsimp only [] at e1 e2 hF
  subst e1; subst e2
  dsimp only []
  refine pu_if (fun c1 => ?_) (fun c1 => ?_)
  rotate_left
  · have c1 : k ≤ 12 := Nat.le_of_not_lt (fun z => c1 ((pu_ltn (a := 12) (by decide) (by omega)).mpr z))
    obtain ⟨s, hs, hf⟩ := pu_state0 (n := n) H (hCC _ hF) hn c1
    refine pu_bnl hs (pu_lt (pu_lt ?_))
    have em : Int32.ofNat k + (1 : Int32) = Int32.ofNat (k + 1) := pu_add k 1
    rw [em]
    refine hk4 _ ⟨k + 1, by omega, rfl, rfl, pu_fr_trans hF hf⟩ ?_
    show 14 - (Int32.ofNat (k + 1)).toNatClampNeg < 14 - (Int32.ofNat k).toNatClampNeg
    rw [pu_n (by omega), pu_n (by omega)]
    omega
  have c1 := (pu_ltn (a := 12) (by decide) (by omega)).mp c1
  have : k = 13 := by omega
  subst this
  refine pu_lt ?_
  refine pu_lp (J := fun s => ∃ y, y ≤ h ∧ s.2.1 = Int32.ofNat y ∧ s.1 = pu_f2 a w h nb nc (y * w) ∧ pu_fr pu_SQ σ s.2.2) (m := fun s => 21 - s.2.1.toNatClampNeg) ?_ n _ (by show 21 - _ < n; omega) ⟨0, by omega, rfl, by show pu_f1 a w h nb nc 13 = pu_f2 a w h nb nc (0 * w); rw [Nat.zero_mul]; rfl, hF⟩
  clear hF hk4
  rintro k7 ⟨vv, yy, σ2⟩ ⟨y, hy, e1, e2, hF⟩ hk7
  dsimp only [] at e1 e2 hF
  subst e1; subst e2
  dsimp only []
  obtain ⟨dw, dh, dn⟩ := pu_CCdim H (hCC _ hF)
  refine pu_if (fun c2 => ?_) (fun c2 => ?_) <;> rw [dh, pu_le (by omega) (by omega)] at c2
  rotate_left
  · refine pu_lt ?_
    refine pu_lp (J := fun s => ∃ x, x ≤ w ∧ s.2.2.1 = Int32.ofNat x ∧ s.2.1 = Int32.ofNat y ∧ s.1 = pu_f2 a w h nb nc (y * w + x) ∧ pu_fr pu_SQ σ s.2.2.2) (m := fun s => 21 - s.2.2.1.toNatClampNeg) ?_ n _ (by show 21 - _ < n; omega) ⟨0, by omega, rfl, rfl, rfl, hF⟩
    clear hF
    rintro k25 ⟨vv, yy, xx, σ3⟩ ⟨x, hx, e1, e2, e3, hF⟩ hk25
    dsimp only [] at e1 e2 e3 hF
    subst e1; subst e2; subst e3
    dsimp only []
    obtain ⟨dw, -, -⟩ := pu_CCdim H (hCC _ hF)
    refine pu_if (fun c3 => ?_) (fun c3 => ?_) <;> rw [dw, pu_le (by omega) (by omega)] at c3
    · have : x = w := by omega
      subst this
      refine pu_lt ?_
      have em : Int32.ofNat y + (1 : Int32) = Int32.ofNat (y + 1) := pu_add y 1
      rw [em]
      refine hk7 _ ⟨y + 1, by omega, rfl, by rw [Nat.succ_mul], hF⟩ ?_
      show 21 - (Int32.ofNat (y + 1)).toNatClampNeg < 21 - (Int32.ofNat y).toNatClampNeg
      rw [pu_n (by omega), pu_n (by omega)]
      omega
    · obtain ⟨s, hs, hf⟩ := pu_cell0 (n := n) H (hCC _ hF) hn (i := x) (j := y) (by omega) (by omega)
      refine pu_bnl hs (pu_lt (pu_lt ?_))
      have em : Int32.ofNat x + (1 : Int32) = Int32.ofNat (x + 1) := pu_add x 1
      rw [em]
      refine hk25 _ ⟨x + 1, by omega, rfl, rfl, rfl, pu_fr_trans hF hf⟩ ?_
      show 21 - (Int32.ofNat (x + 1)).toNatClampNeg < 21 - (Int32.ofNat x).toNatClampNeg
      rw [pu_n (by omega), pu_n (by omega)]
      omega
  have : y = h := by omega
  subst this
  refine pu_lt ?_
  refine pu_lp (J := fun s => ∃ q, q ≤ nc ∧ s.2.1 = Int32.ofNat q ∧ s.1 = pu_f3 a w y nb nc q ∧ pu_fr pu_SQ σ s.2.2) (m := fun s => 5 - s.2.1.toNatClampNeg) ?_ n _ (by show 5 - _ < n; omega) ⟨0, by omega, rfl, by show _ = pu_f2 a w y nb nc (w * y); rw [Nat.mul_comm w y], hF⟩
  clear hF hk7 dw dh dn
  rintro k10 ⟨vv, qq, σ3⟩ ⟨q, hq, e1, e2, hF⟩ hk10
  dsimp only [] at e1 e2 hF
  subst e1; subst e2
  dsimp only []
  have C3 := hCC _ hF
  obtain ⟨-, -, dn⟩ := pu_CCdim H C3
  refine pu_if (fun c3 => ?_) (fun c3 => ?_) <;> rw [dn, pu_le (by omega) (by omega)] at c3
  · have : q = nc := by omega
    subst this
    exact pu_some ⟨rfl, hF⟩
  have hq : q < nc := by omega
  obtain ⟨hu, -, ⟨enl, hnl⟩, -⟩ := H.2.2.1.2.2 q hq
  have hnl : pu_nl a q < 9 := hnl
  have enl : a (pu_cl q + 2) = Int32.ofNat (pu_nl a q) := enl
  refine pu_bde (pu_isUsed H.2.2.1 C3.1 hq) ?_
  refine pu_jn (R := fun v => v = a (pu_cl q)) (fun v hv => ?_) (fun f hf => ?_)
  rotate_left
  · rcases hu with z | z
    · rw [z]
      exact pu_ift (by decide) (hf _ z.symm)
    · rw [z]
      exact pu_iff (by decide) (hf _ z.symm)
  subst hv
  refine pu_lt (pu_lt ?_)
  refine pu_lp (J := fun s => ∃ l, l ≤ pu_nl a q + 1 ∧ s.2.2.1 = Int32.ofNat l ∧ s.2.1 = Int32.ofNat q ∧ s.1 = pu_fold (pu_rv a w y nb q) ((31 : Int64) * pu_f3 a w y nb nc q + Int32.toInt64 (a (pu_cl q))) l ∧ pu_fr pu_SQ σ s.2.2.2) (m := fun s => 12 - s.2.2.1.toNatClampNeg) ?_ n _ (by show 12 - _ < n; omega) ⟨0, by omega, rfl, rfl, rfl, hF⟩
  clear hF C3 dn
  rintro k17 ⟨vv, qq, ll, σ4⟩ ⟨l, hl, e1, e2, e3, hF⟩ hk17
  dsimp only [] at e1 e2 e3 hF
  subst e1; subst e2; subst e3
  dsimp only []
  have C4 := hCC _ hF
  refine pu_bde (pu_get (th := 21) (i := q) (N := 4) (by decide +kernel) (by decide) (by omega)) ?_
  have e22 : σ4 (21 + 1) q = Int32.ofNat (pu_nl a q) := ((C4.1.2.2.2.2.2 q hq).2.2.1).trans enl
  rw [e22]
  refine pu_if (fun c4 => ?_) (fun c4 => ?_) <;> rw [pu_ltn (by omega) (by omega)] at c4
  · have : l = pu_nl a q + 1 := by omega
    subst this
    refine pu_lt ?_
    have em : Int32.ofNat q + (1 : Int32) = Int32.ofNat (q + 1) := pu_add q 1
    rw [em]
    refine hk10 _ ⟨q + 1, by omega, rfl, rfl, hF⟩ ?_
    show 5 - (Int32.ofNat (q + 1)).toNatClampNeg < 5 - (Int32.ofNat q).toNatClampNeg
    rw [pu_n (by omega), pu_n (by omega)]
    omega
  · refine pu_bnl (pu_reach0 H C4 hn hq (by omega)) (pu_lt (pu_lt ?_))
    have em : Int32.ofNat l + (1 : Int32) = Int32.ofNat (l + 1) := pu_add l 1
    rw [em]
    refine hk17 _ ⟨l + 1, by omega, rfl, rfl, rfl, hF⟩ ?_
    show 12 - (Int32.ofNat (l + 1)).toNatClampNeg < 12 - (Int32.ofNat l).toNatClampNeg
    rw [pu_n (by omega), pu_n (by omega)]
    omega
/-! the reference -/
theorem pu_up0 {s : tw_Sg} (h0 : s 442 0 = 0) : tw_up s 442 0 0 = s := by
  funext k
  by_cases e : k = 442
  · subst e
    rw [tw_up_s]
    funext i
    by_cases e2 : i = 0
    · subst e2
      rw [pu_upd_s, h0]
    · exact pu_upd_n e2
  · exact tw_up_n e
end CKS
