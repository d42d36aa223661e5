/-! the law's random numbers and rows that grow -/
section DQR
variable {Y Y0 Y' Y'' : dw_S} {r n bf : Nat}
theorem dq_below {Q : Int32 × dw_S → Prop} {b : Nat} (h : dw_is Y r 15) (hb : 0 < b) (hb2 : b < 2147483648) (hQ : ∀ v Y', v < b → dq_fr (fun k _ => k = r) dq_no Y Y' → Q (Int32.ofNat v, Y')) : dw_P_X15_below r (Int32.ofNat b) Y Q := by
  unfold dw_P_X15_below
  have F : ∀ v, dq_fr (fun k _ => k = r) dq_no Y (dw_pi Y r 0 v) := fun v => dq_fr_pi dq_fr_refl (fun _ => rfl)
  refine dq_ck h (dq_ck h (dq_lt (dq_ck (dq_is_fr (F _) h) (dq_ck ?_ ?_))))
  · exact fun z => absurd ((pu_eq (b := 0) hb2 (by omega)).mp z) (by omega)
  · generalize dw_i (dw_pi Y r 0 _) r 0 = s
    have e : (Int32.toUInt32 s >>> (Int32.toUInt32 (16 : Int32) &&& Int32.toUInt32 31)).toInt32 = Int32.ofNat (pu_N s / 65536) := pu_N_ofNat (pu_N_shr (k := 16) (by omega))
    have hs := pu_N_lt (x := s)
    rw [e, pu_rem (by omega) hb2]
    exact hQ _ _ (Nat.mod_lt _ hb) (F _)
theorem dq_with {Q : Nat × dw_S → Prop} {m : Nat} {v : Int32} (A : dq_A1 Y r 20 m) (hm : m ≤ 7) (hn : 1000 < n) (hQ : ∀ q Y', dw_n Y ≤ q → dq_fr dq_no dq_no Y Y' → dq_A1 Y' q 20 (m + 1) → (∀ i, i < m → dw_i Y' q i = dw_i Y r i) → dw_i Y' q m = v → Q (q, Y')) : dw_P_L_with n r v Y Q := by
  have h4 := A.1.2.1
  have hrn := A.1.1
  unfold dw_P_L_with
  have e1 : (Int32.ofNat (dw_l Y r)) + (1 : Int32) = Int32.ofNat (m + 1) := by rw [A.2]; exact pu_add m 1
  rw [e1, pu_n (show m + 1 < 2147483648 by omega)]
  have hneg : ¬ Int32.ofNat (m + 1) < 0 := pu_nn (by omega)
  refine dq_ck A.1 (dq_ck ⟨⟨hneg, by omega⟩, by omega, by omega⟩ (fun q hq => dq_lt (dq_lt ?_)))
  have A0 : dq_A1 (dw_nw Y q 20 (m + 1) (fun _ => 0) (fun _ => none)) q 20 (m + 1) := dq_A1_new (by omega) hq
  have F0 : dq_fr dq_no dq_no Y (dw_nw Y q 20 (m + 1) (fun _ => 0) (fun _ => none)) := dq_fr_nw dq_fr_refl hq
  refine dq_for m (fun i u => u.1 = Int32.ofNat i ∧ dq_fr dq_no dq_no Y u.2 ∧ dq_A1 u.2 q 20 (m + 1) ∧ ∀ k, k < i → dw_i u.2 q k = dw_i Y r k) (fun k i u hi hu hk => ?_) (fun k u hu => ?_) (by omega) ⟨rfl, F0, A0, fun k hk => absurd hk (Nat.not_lt_zero _)⟩
  all_goals
    obtain ⟨v1, Yv⟩ := u
    obtain ⟨hv1, Fv, Av, ev⟩ := hu
    dsimp only [] at hv1 Fv Av ev
    dsimp only []
    subst hv1
    have Ar : dq_A1 Yv r 20 m := dq_A1_fr Fv A
    refine dq_ck Ar.1 ?_
    rw [Ar.2]
  · rw [pu_n (show i < 2147483648 by omega)]
    refine dq_iff (by rw [pu_le (by omega) (by omega)]; omega) (dq_ck (dq_A1_okn Ar hi (by omega)) (dq_ck (dq_A1_ok Av (by omega) (by omega)) (dq_lt (dq_lt (hk _ ⟨pu_add i 1, dq_fr_pi Fv (fun z => by omega), dq_A1_fr (Si := fun _ _ => True) (Sr := fun _ _ => True) (dq_fr_pi dq_fr_refl (fun _ => trivial)) Av, fun k hk2 => ?_⟩)))))
    rw [show (dw_i Yv r i) = dw_i Y r i from Fv.2.2.2.1 r i hrn (fun z => z)]
    by_cases e : k = i
    · subst e
      exact dq_i_pi_s
    · rw [dq_i_pi_j e]
      exact ev k (by omega)
  · refine dq_ift ((pu_le (by omega) (by omega)).mpr (Nat.le_refl _)) (dq_ck Ar.1 (dq_ck (dq_A1_ok Av (by omega) (by omega)) (dq_lt (dq_ck ⟨by omega, by omega⟩ (hQ q _ hq (dq_fr_pi Fv (fun z => by omega)) (dq_A1_fr (Si := fun _ _ => True) (Sr := fun _ _ => True) (dq_fr_pi dq_fr_refl (fun _ => trivial)) Av) (fun i hi => ?_) ?_)))))
    · rw [pu_n (show m < 2147483648 by omega), dq_i_pi_j (by omega)]
      exact ev i hi
    · rw [pu_n (show m < 2147483648 by omega)]
      exact dq_i_pi_s
end DQR
