/-! texts joined: the builder of the JDK -/
section DQJ
variable {Y Y0 Y1 Y' : dw_S} {q bf n w h nb nc cn s : Nat} {a : Nat → Int32} {hist : Nat → Nat → Int32} {err : Int32} {T W : List Nat}
/-- a builder that is new, with W in it -/
def dq_SB (Y0 : dw_S) (q : Nat) (W : List Nat) (Y : dw_S) : Prop := dq_fr dq_no dq_no Y0 Y ∧ dw_n Y0 ≤ q ∧ dw_is Y q 17 ∧ ∃ v, dw_n Y0 ≤ v ∧ dw_r Y q 0 = some v ∧ dq_A1 Y v 22 16 ∧ dw_i Y q 1 = 0 ∧ dw_i Y q 3 = Int32.ofNat W.length ∧ W.length ≤ 16 ∧ (∀ i, W.getD i 0 < 128) ∧ ∀ i, i < W.length → dw_i Y v i = Int32.ofNat (W.getD i 0)
theorem dq_wd7 : ∀ x : Fin 33, (dq_wd x.val).all (fun b => decide (b < 128)) = true := by decide +kernel
theorem dq_wd_lt {x i : Nat} (hx : x < 33) : (dq_wd x).getD i 0 < 128 := by
  by_cases hi : i < (dq_wd x).length
  · have := List.all_eq_true.mp (dq_wd7 ⟨x, hx⟩) ((dq_wd x)[i]) (List.getElem_mem hi)
    rw [List.getD_eq_getElem?_getD, List.getElem?_eq_getElem hi]
    exact of_decide_eq_true this
  · rw [dq_getD_big (by omega)]; omega
theorem dq_getD_app {A B : List Nat} {i : Nat} : (A ++ B).getD i 0 = if i < A.length then A.getD i 0 else B.getD (i - A.length) 0 := by
  rw [List.getD_eq_getElem?_getD, List.getD_eq_getElem?_getD, List.getD_eq_getElem?_getD]
  by_cases h : i < A.length
  · rw [if_pos h, List.getElem?_append_left h]
  · rw [if_neg h, List.getElem?_append_right (by omega)]
theorem dq_sbinit {Q : dw_S → Prop} (F : dq_fr dq_no dq_no Y0 Y) (hq : dw_n Y ≤ q) (h4 : 442 ≤ dw_n Y) (hQ : ∀ Y', dq_SB Y0 q [] Y' → Q Y') : dw_P_J4_init_da8c8 q (dw_nw Y q 17 0 (fun _ => 0) (fun _ => none)) Q := by
  have hq0 : dw_n Y0 ≤ q := Nat.le_trans F.2.1 hq
  have c16 : Int32.toNatClampNeg (16 : Int32) = 16 := rfl
  unfold dw_P_J4_init_da8c8 dw_P_J5_init_d00df
  simp only [c16]
  refine dq_jn (fun v => dq_SB Y0 q [] v.1 ∧ v.2.1 = 1 ∧ v.2.2 = 16) (fun v hv => dq_ck ⟨by omega, by omega⟩ (hQ _ hv.1)) (fun j hj => dq_ck ⟨⟨by decide, by omega⟩, by omega, by omega⟩ (fun v hv => dq_lt ?_))
  have hv' : q + 1 ≤ v := hv
  have i1 : dw_is (dw_nw (dw_nw Y q 17 0 (fun _ => 0) (fun _ => none)) v 22 16 (fun _ => 0) (fun _ => none)) q 17 := dq_is_nw (dq_is_new h4 hq) hv
  refine dq_ck i1 (dq_lt (dq_ck i1 (dq_lt (hj _ ⟨⟨?_, hq0, i1, v, by omega, ?_, ?_, ?_, ?_, by decide, fun i => ?_, fun i hi => absurd hi (Nat.not_lt_zero _)⟩, rfl, rfl⟩))))
  · exact dq_fr_pi (dq_fr_pr (dq_fr_nw (dq_fr_nw F hq) hv) (fun z => absurd z (by omega))) (fun z => absurd z (by omega))
  · rw [dq_r_pi, dq_r_pr_s]
  · exact (dq_A1_new (by show 442 ≤ q + 1; omega) hv : dq_A1 (dw_nw (dw_nw Y q 17 0 (fun _ => 0) (fun _ => none)) v 22 16 (fun _ => 0) (fun _ => none)) v 22 16)
  · dsimp only []
    rw [dq_i_pi_s]
  · dsimp only []
    rw [dq_i_pi_j (by omega), dq_i_pr, dq_i_nw_n (by omega), dq_i_nw_s]
    rfl
  · show (0 : Nat) < 128
    omega
theorem dq_shr0 {x : Int32} : x >>> ((0 : Int32) &&& 31) = x := by
  have e : (0 : Int32) &&& 31 = 0 := by decide
  rw [e]
  apply Int32.toBitVec_inj.1
  show x.toBitVec.sshiftRight' _ = _
  have e2 : ((0 : Int32).toBitVec.smod 32) = 0 := by decide
  show x.toBitVec.sshiftRight (((0 : Int32).toBitVec.smod 32).toNat) = _
  rw [e2]
  exact BitVec.sshiftRight_zero
theorem dq_sbapp {Q : Nat × dw_S → Prop} {x : Nat} (hx : x < 33) (B : dq_SB Y0 q W Y) (hl : W.length + (dq_wd x).length ≤ 16) (hQ : ∀ Y', dq_SB Y0 q (W ++ dq_wd x) Y' → Q (q, Y')) : dw_P_J4_append_15ec4 q x Y Q := by
  obtain ⟨F, hq0, Is, v, hv0, r0, Av, i1, i3, hW, hW7, hWv⟩ := B
  obtain ⟨w1, w2, w3, w4⟩ := dq_wd_ok ⟨x, hx⟩
  dsimp only [] at w1 w2 w3 w4
  have wl : (dq_wd x).length = tw_len.getD x 0 := by unfold dq_wd; rw [List.length_map]; exact w1
  have hqv : q ≠ v := dq_is_ne Is Av.1 (by decide)
  unfold dw_P_J4_append_15ec4 dw_P_J5_append_cf1ce dw_P_J5_ensureCapacityInternal_d00df dw_P_J5_putStringAt_47b60 dw_P_J5_inflateIfNeededFor_a7421 dw_P_J0_getBytes_840e7c
  refine dq_ck Is (dq_lt (dq_ck Is (dq_ck Is (dq_ck Is (dq_nn r0 (dq_ck Av.1 (dq_ck Is (dq_lt ?_))))))))
  have e0 : dw_i (dw_cs Y (dw_s Y)) q 1 = 0 := i1
  have e3 : dw_i (dw_cs Y (dw_s Y)) q 3 = Int32.ofNat W.length := i3
  have el : dw_l (dw_cs Y (dw_s Y)) v = 16 := Av.2
  rw [e0, e3, el, ← wl, pu_add, dq_shr0]
  refine dq_jn (fun Y1 => Y1 = Y) (fun Y1 h1 => ?_) (fun j hj => dq_ift ?_ (hj _ rfl))
  rotate_left
  · rw [dq_subI]
    have : ¬ ((0 : Int32) < Int32.ofInt (((W.length + (dq_wd x).length : Nat) : Int) - ((16 : Nat) : Int))) := by
      rw [Int32.lt_iff_toInt_lt, pu_int (by omega) (by omega), Int32.toInt_zero]
      omega
    exact Int32.not_lt.mp this
  subst h1
  refine dq_ck Is (dq_ck Is (dq_ck Is (dq_jn (fun _ => True) (fun _ _ => ?_) (fun j hj => dq_ck Is (dq_ift i1 (hj () trivial))))))
  refine dq_ck Is (dq_nn r0 (dq_ck Is ?_))
  have sh0 : Int32.ofNat W.length <<< ((0 : Int32) &&& 31) = Int32.ofNat W.length := by
    have key : ∀ m : Fin 17, Int32.ofNat m.val <<< ((0 : Int32) &&& 31) = Int32.ofNat m.val := by decide +kernel
    exact key ⟨W.length, by omega⟩
  have c0 : Int32.toNatClampNeg (0 : Int32) = 0 := rfl
  have n1 : Int32.toNatClampNeg (Int32.ofNat W.length) = W.length := pu_n (by omega)
  have n2 : Int32.toNatClampNeg (Int32.ofNat (dq_wd x).length) = (dq_wd x).length := pu_n (by omega)
  rw [i1, i3, sh0]
  simp only [n1, n2, c0]
  refine dq_jn (fun Z => Z = dw_pA Y1 v (va_cpy (fun i => (tw_byt.getD x []).getD i 0) (dw_i Y1 v) 0 W.length (dq_wd x).length)) (fun Z hZ => ?_) (fun j hj => dq_iff (fun z => z trivial) (dq_ck ⟨Av.1, ⟨by decide, pu_nn (by omega), pu_nn (by omega)⟩, ?_, ?_⟩ (dq_lt (hj _ rfl))))
  rotate_left
  · rw [c0, pu_n (by omega)]; omega
  · rw [pu_n (by omega), pu_n (by omega)]
    show W.length + (dq_wd x).length ≤ dw_l Y1 v
    rw [Av.2]; exact hl
  subst hZ
  have hqZ : dw_i (dw_pA Y1 v (va_cpy (fun i => (tw_byt.getD x []).getD i 0) (dw_i Y1 v) 0 W.length (dq_wd x).length)) q 3 = Int32.ofNat W.length := by
    show tw_upA Y1.2.2.2.1 v _ q 3 = _
    unfold tw_upA
    rw [if_neg hqv]; exact i3
  have hqZ1 : dw_i (dw_pA Y1 v (va_cpy (fun i => (tw_byt.getD x []).getD i 0) (dw_i Y1 v) 0 W.length (dq_wd x).length)) q 1 = 0 := by
    show tw_upA Y1.2.2.2.1 v _ q 1 = _
    unfold tw_upA
    rw [if_neg hqv]; exact i1
  have hvZ : ∀ i, dw_i (dw_pA Y1 v (va_cpy (fun i => (tw_byt.getD x []).getD i 0) (dw_i Y1 v) 0 W.length (dq_wd x).length)) v i = va_cpy (fun i => (tw_byt.getD x []).getD i 0) (dw_i Y1 v) 0 W.length (dq_wd x).length i := fun i => by
    show tw_upA Y1.2.2.2.1 v _ v i = _
    unfold tw_upA
    rw [if_pos rfl]
  refine dq_ck Is (dq_ck Is (dq_lt ?_))
  rw [hqZ, pu_add]
  refine hQ _ ⟨dq_fr_pi (dq_fr_pA F (fun z => absurd z (by omega))) (fun z => absurd z (by omega)), hq0, Is, v, hv0, r0, Av, ?_, ?_, by rw [List.length_append]; exact hl, fun i => ?_, fun i hi => ?_⟩
  · rw [dq_i_pi_j (by omega)]; exact hqZ1
  · rw [dq_i_pi_s, List.length_append]
  · rw [dq_getD_app]
    split
    · exact hW7 i
    · exact dq_wd_lt hx
  · rw [dq_i_pi_k (fun e => hqv e.symm), hvZ, dq_getD_app]
    rw [List.length_append] at hi
    unfold va_cpy
    by_cases e : i < W.length
    · rw [if_neg (by omega), if_pos e]; exact hWv i e
    · rw [if_pos (by omega), if_neg e]
      have := w4 ⟨i - W.length, by omega⟩
      rw [Nat.zero_add]
      exact this
end DQJ
