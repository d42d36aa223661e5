/-! walk of the reference -/
theorem pu_rwalk {σ : tw_Sg} {a : Nat → Int32} {w h nb nc n : Nat} {q x y l : Int32} (H : pu_WF a w h nb nc) (hL : pu_RL σ a w h nb nc) (hn : 1000 < n) : pu_wp (tw_P_X12_walk n q x y l σ) (pu_QR σ a w h nb nc (pu_oWalk a w h nb nc q x y l)) := by
  have hm400 := pu_wfm_le H.1
  have h4 := H.2.2.1.2.1
  unfold tw_P_X12_walk
  refine pu_ropenG hL (fun σ1 h0 hL1 hi1 hf1 => ?_)
  have hm1 : pu_wfm (σ1 444) w h := by rw [hL1.1]; exact H.1
  have e3 : σ1 444 3 = Int32.ofNat nc := by rw [hL1.1]; exact H.2.2.1.1
  cases eq : pu_clueOf nc q with
  | none =>
    refine pu_bde (pu_noClue_n e3 h4 h0 eq) ?_
    have ho : pu_oWalk a w h nb nc q x y l = .inr 1 := by unfold pu_oWalk; rw [eq]
    exact pu_jn0 (pu_ift pu_10 (pu_some (pu_rfault ho hL1 hi1 hf1)))
  | some k =>
    refine pu_bde (pu_noClue_s e3 h4 h0 eq) (pu_jn0 (pu_iff (fun z => z rfl) ?_))
    obtain ⟨rfl, hk⟩ := pu_clueOf_some eq
    cases e : pu_cellOf w h x y with
    | none =>
      refine pu_bde (pu_noCell_n hm1 h0 e) ?_
      have ho : pu_oWalk a w h nb nc (Int32.ofNat k) x y l = .inr 1 := by unfold pu_oWalk; rw [eq]; dsimp only []; rw [e]
      exact pu_ift pu_10 (pu_some (pu_rfault ho hL1 hi1 hf1))
    | some g =>
      have hg := pu_cellOf_lt e
      refine pu_bde (pu_noCell_s hm1 h0 e) (pu_iff (fun z => z rfl) ?_)
      have hnl : pu_nl a k < 9 := (H.2.2.1.2.2 k hk).2.2.1.2
      have hlegs := pu_legs (σ := σ1) (w := w) (h := h) (nc := nc) (q := k) (by rw [hL1.1]; exact H.2.2.1) hk
      rw [hL1.1] at hlegs
      refine pu_bde hlegs (pu_bde pu_in_eq ?_)
      rw [pu_toInt0, pu_pred (show pu_nl a k ≤ 100000 by omega)]
      refine pu_jn (R := fun v => v = if pu_clueOf (pu_nl a k) l = none then 1 else 0) (fun v hv => ?_) (fun f hf => ?_)
      rotate_left
      · refine pu_if (fun c1 => ?_) (fun c1 => ?_)
        · have c1 : 0 ≤ l.toInt ∧ l.toInt ≤ (pu_nl a k : Int) - 1 := Classical.byContradiction fun z => c1 (if_neg z)
          refine hf _ ?_
          rw [if_neg]
          rw [show pu_clueOf (pu_nl a k) l = some l.toNatClampNeg from if_pos ⟨c1.1, by omega⟩]
          exact fun z => by cases z
        · have c1 : ¬ (0 ≤ l.toInt ∧ l.toInt ≤ (pu_nl a k : Int) - 1) := fun z => c1 (by rw [if_pos z]; exact pu_10)
          refine hf _ ?_
          rw [if_pos]
          exact if_neg (fun z => c1 ⟨z.1, by omega⟩)
      cases el : pu_clueOf (pu_nl a k) l with
      | none =>
        rw [el, if_pos rfl] at hv
        subst hv
        have ho : pu_oWalk a w h nb nc (Int32.ofNat k) x y l = .inr 1 := by unfold pu_oWalk; rw [eq]; dsimp only []; rw [e]; dsimp only []; rw [el]
        refine pu_bde (pu_fails1 h0 (by decide)) ?_
        exact pu_iff pu_10 (pu_some (pu_rfault ho hL1 hi1 hf1))
      | some j =>
        rw [el, if_neg (fun z => by cases z)] at hv
        subst hv
        obtain ⟨rfl, hj⟩ := pu_clueOf_some el
        refine pu_bde (pu_fails0 h0) (pu_ift rfl ?_)
        have hQ1 : pu_Q0 σ a w h nb nc σ1 := ⟨h0, hL1, hi1, hf1⟩
        refine pu_bd (pu_RL_lay H hL1 hn) (fun σ2 h2 => ?_)
        obtain ⟨-, hE, hL2, hS2⟩ := h2
        have hQ2 := pu_Q0_RS hQ1 hL2 hS2
        have hm2 : pu_wfm (σ2 444) w h := by rw [hL2.1]; exact H.1
        refine pu_bde (pu_cellAt hm2 e) (pu_bde (pu_inRegion H hL2.1 hE hk hg) ?_)
        have ho : pu_oWalk a w h nb nc (Int32.ofNat k) x y (Int32.ofNat j) = if pu_B (pu_Fw a w h nb k (pu_nl a k) g) = true then .inl (pu_wAns a w h nb k g j) else .inr 2 := by
          unfold pu_oWalk; rw [eq]; dsimp only []; rw [e]; dsimp only []; rw [el]
        clear hE
        by_cases hreg : pu_Fw a w h nb k (pu_nl a k) g
        rotate_left
        · rw [pu_bi_f hreg]
          rw [if_neg (by rw [pu_B_f hreg]; decide)] at ho
          refine pu_jn0 (pu_iff (fun z => z rfl) (pu_bde (pu_fails1 hQ2.1 (by decide)) (pu_iff pu_10 (pu_some (pu_rfault ho hQ2.2.1 hQ2.2.2.1 hQ2.2.2.2)))))
        rw [pu_bi_t hreg]
        rw [if_pos (pu_B_t hreg)] at ho
        refine pu_jn0 (pu_ift pu_10 (pu_bde (pu_fails0 hQ2.1) (pu_ift rfl ?_)))
        refine pu_bde (pu_cellAt hm2 e) (pu_bd (pu_rleads H hL2.1 hk hg hn) (fun σ3 h3 => ?_))
        obtain ⟨hS, hF⟩ := h3
        have hQ3 : pu_Q0 σ a w h nb nc σ3 := pu_Q0_fr H hQ2 hF pu_F16_T
        obtain ⟨-, ⟨-, hns⟩, -⟩ := H.2.2.1.2.2 k hk
        have hns : pu_ns a k < 9 := hns
        obtain ⟨k0, hk1, hk2⟩ := pu_ld_ex (a := a) (w := w) (h := h) (nb := nb) (q := k) (g := g) (pu_nl a k) g (Nat.le_refl _) hreg (pu_Rl_end.mpr rfl)
        obtain ⟨s0, hs0⟩ := pu_first_ex _ k0 hk1 hk2
        have hs0l := pu_first_lt hs0
        have hs0p := pu_B_iff.mp (pu_first_is hs0)
        rw [pu_l498, show Int32.toNatClampNeg (0 : Int32) = 0 from rfl, pu_lR (show 0 < 9 by decide), pu_l455, pu_l456]
        refine pu_lt ?_
        refine pu_lp (J := fun s => ∃ i, i ≤ s0 ∧ s = Int32.ofNat i) (m := fun s => 10 - s.toNatClampNeg) ?_ n _ (by show 10 - _ < n; omega) ⟨0, by omega, rfl⟩
        rintro k21 ii ⟨i, hi, e1⟩ hk21
        subst e1
        obtain ⟨t1, t2, t3⟩ := pu_rlead0 H hQ3.2.1.1 (hS 0 (Nat.zero_le _)) hk (show i < pu_ns a k by omega)
        refine pu_ck (by decide) (pu_bde t1 ?_)
        rw [pu_n (show pu_sc a k i < 2147483648 by omega)]
        refine pu_ck (pu_ok (by omega) (by omega)) ?_
        refine pu_if (fun c1 => ?_) (fun c1 => ?_)
        rotate_left
        · have c1 := Classical.not_not.mp c1
          rw [t3, pu_b1_0] at c1
          have hne : i ≠ s0 := fun z => by
            have := pu_first_is hs0
            rw [← z, c1] at this
            cases this
          refine pu_lt ?_
          have em : Int32.ofNat i + (1 : Int32) = Int32.ofNat (i + 1) := pu_add i 1
          rw [em]
          refine hk21 _ ⟨i + 1, by omega, rfl⟩ ?_
          show 10 - (Int32.ofNat (i + 1)).toNatClampNeg < 10 - (Int32.ofNat i).toNatClampNeg
          rw [pu_n (by omega), pu_n (by omega)]
          omega
        rw [t3, pu_b1_0] at c1
        have c1 := pu_bF c1
        have hi0 : i = s0 := by
          by_cases z : i = s0
          · exact z
          · -- all below the first are none
            have hno : ∀ n, pu_first (pu_ld a w h nb k g) n = some s0 → s0 < n → ∀ i, i < s0 → pu_ld a w h nb k g i = false := by
              intro n
              induction n with
              | zero => intro h1; cases h1
              | succ n ih =>
                intro h1 h2 i hi
                rw [pu_first_S] at h1
                cases en : pu_first (pu_ld a w h nb k g) n with
                | some u =>
                  rw [en] at h1 ih
                  cases h1
                  exact ih rfl (pu_first_lt en) i hi
                | none =>
                  rw [en] at h1
                  dsimp only [] at h1
                  by_cases hp : pu_ld a w h nb k g n = true
                  · rw [if_pos hp] at h1
                    cases h1
                    cases hpi : pu_ld a w h nb k g i with
                    | false => rfl
                    | true =>
                      obtain ⟨u, hu⟩ := pu_first_ex _ i hi hpi
                      rw [en] at hu
                      cases hu
                  · rw [if_neg hp] at h1
                    cases h1
            have := hno _ hs0 hs0l i (by omega)
            rw [c1] at this
            cases this
        subst hi0
        refine pu_bde t1 (pu_lt (pu_lt ?_))
        have hok := pu_wk_ok (g := g) H t2 ⟨i, hs0l, rfl⟩ hs0p
        refine pu_lp (J := fun s => ∃ m, m ≤ j ∧ s.2.1 = Int32.ofNat m ∧ s.1 = Int32.ofNat (pu_wk a w h nb k g (pu_sc a k i) m) ∧ (∀ l, l ≤ pu_nl a k → pu_es s.2.2 (498 + 1 + 1 * l) (w * h) (pu_Rl a w h nb k g l)) ∧ pu_Q0 σ a w h nb nc s.2.2) (m := fun s => 10 - s.2.1.toNatClampNeg) ?_ n _ (by show 10 - _ < n; omega) ⟨0, by omega, rfl, rfl, hS, hQ3⟩
        clear hS hF hQ3 hk21 t1 t3
        rintro k28 ⟨aa, mm, σ4⟩ ⟨m, hm, e1, e2, hS, hQ⟩ hk28
        dsimp only [] at e1 e2 hS hQ
        subst e1; subst e2
        dsimp only []
        obtain ⟨i1, i2, i3⟩ := hok m (by omega)
        obtain ⟨z, hz⟩ := (pu_Rl_fst (show m < pu_nl a k by omega)).mp i3
        have hend := pu_rend H hQ.2.1.1 hk (show m < pu_nl a k by omega) i1 (hS (m + 1) (by omega)) hn
        rw [hz] at hend
        refine pu_if (fun c2 => ?_) (fun c2 => ?_)
        · have c2 := (pu_le (by omega) (by omega)).mp c2
          have : m = j := by omega
          subst this
          refine pu_bd hend (fun r hr => ?_)
          obtain ⟨r1, b, b1, b2, -, b4⟩ := hr
          rw [b2]
          refine pu_ck (pu_ok (by omega) (by omega)) ?_
          rw [pu_n (show b < 2147483648 by omega), b4]
          refine pu_some (pu_Q0_say ?_ (pu_Q0_fr H hQ r1 pu_F9_T))
          rw [ho]
          unfold pu_wAns
          rw [hs0]
          dsimp only []
          rw [hz]
        have c2 : m < j := by rw [pu_le (by omega) (by omega)] at c2; omega
        refine pu_bd hend (fun r hr => ?_)
        obtain ⟨r1, b, b1, b2, b3, -⟩ := hr
        rw [b2]
        refine pu_lt (pu_ck (pu_ok (by omega) (by omega)) ?_)
        rw [pu_n (show b < 2147483648 by omega), b3]
        refine pu_lt (pu_lt ?_)
        have em : Int32.ofNat m + (1 : Int32) = Int32.ofNat (m + 1) := pu_add m 1
        rw [em]
        refine hk28 _ ⟨m + 1, by omega, rfl, ?_, fun l hl d hd => ?_, pu_Q0_fr H hQ r1 pu_F9_T⟩ ?_
        · rw [pu_wk_S, hz]
        · show r.2 _ d = _
          rw [r1 _ (by unfold pu_F9; omega)]
          exact hS l hl d hd
        · show 10 - (Int32.ofNat (m + 1)).toNatClampNeg < 10 - (Int32.ofNat m).toNatClampNeg
          rw [pu_n (by omega), pu_n (by omega)]
          omega
