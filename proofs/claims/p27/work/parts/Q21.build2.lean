/-! the builder: a sign, the text told, the text written -/
section DQJ2
variable {Y Y0 Y1 Y' : dw_S} {q bf n w h nb nc cn s : Nat} {a : Nat → Int32} {hist : Nat → Nat → Int32} {err : Int32} {T W : List Nat}
theorem dq_i8 {c : Nat} (hc : c < 128) : vp_nar .byte ((Int32.toInt8 (Int32.ofNat c)).toInt32) = Int32.ofNat c := by
  have key : ∀ c : Fin 128, vp_nar .byte ((Int32.toInt8 (Int32.ofNat c.val)).toInt32) = Int32.ofNat c.val := by decide +kernel
  exact key ⟨c, hc⟩
theorem dq_sbchr {Q : Nat × dw_S → Prop} {c : Nat} (hc : c < 128) (B : dq_SB Y0 q W Y) (hl : W.length < 16) (hQ : ∀ Y', dq_SB Y0 q (W ++ [c]) Y' → Q (q, Y')) : dw_P_J4_append_cf468 q (Int32.ofNat c) Y Q := by
  obtain ⟨F, hq0, Is, v, hv0, r0, Av, i1, i3, hW, hW7, hWv⟩ := B
  have hqv : q ≠ v := dq_is_ne Is Av.1 (by decide)
  have e1 : (1 : Int32) = Int32.ofNat 1 := rfl
  unfold dw_P_J4_append_cf468 dw_P_J5_append_3fe6f dw_P_J5_ensureCapacityInternal_d00df dw_P_J5_isLatin1_aae02 dw_P_J1_canEncode_fc78d
  refine dq_ck Is (dq_ck Is (dq_ck Is (dq_ck Is (dq_nn r0 (dq_ck Av.1 (dq_ck Is (dq_lt ?_)))))))
  rw [i1, i3, Av.2, e1, pu_add, dq_shr0]
  refine dq_jn (fun Y1 => Y1 = Y) (fun Y1 h1 => ?_) (fun j hj => dq_ift ?_ (hj _ rfl))
  rotate_left
  · rw [dq_subI]
    have : ¬ ((0 : Int32) < Int32.ofInt (((W.length + 1 : Nat) : Int) - ((16 : Nat) : Int))) := by
      rw [Int32.lt_iff_toInt_lt, pu_int (by omega) (by omega), Int32.toInt_zero]
      omega
    exact Int32.not_lt.mp this
  subst h1
  refine dq_ck Is (dq_jn (fun v => v = Int32.ofNat 1) (fun u hu => dq_ck (by rw [hu]; decide) ?_) (fun j hj => dq_jn (fun _ => False) (fun _ z => z.elim) (fun j2 _ => dq_ck Is (dq_iff (fun z => z i1) (hj _ rfl)))))
  subst hu
  refine dq_jn (fun Z => dq_SB Y0 q (W ++ [c]) Z) (fun Z hZ => hQ Z hZ) (fun j hj => dq_jn (fun _ => False) (fun _ z => z.elim) (fun j2 _ => dq_iff (by decide) (dq_jn (fun v => v = Int32.ofNat 1) (fun u hu => dq_ck (by rw [hu]; decide) ?_) (fun j3 hj3 => dq_iff ?_ (hj3 _ rfl)))))
  rotate_left
  · have e255 : (255 : Int32) = Int32.ofNat 255 := rfl
    rw [e255, pu_ltn (by omega) (by omega)]; omega
  subst hu
  refine dq_iff (by decide) (dq_ck Is (dq_nn r0 (dq_ck Is (dq_ck Is (dq_lt ?_)))))
  rw [i3, pu_n (by omega), dq_i8 hc, show Int32.ofNat W.length + (Int32.ofNat 1) = Int32.ofNat (W.length + 1) from pu_add _ 1]
  have Av2 : dw_is (dw_pi Y1 q 3 (Int32.ofNat (W.length + 1))) v 22 ∧ tw_ok (Int32.ofNat W.length) (dw_l (dw_pi Y1 q 3 (Int32.ofNat (W.length + 1))) v) = true := dq_A1_ok Av hl (by decide)
  refine dq_ck Av2 (dq_lt (hj _ ⟨dq_fr_pi (dq_fr_pi F (fun z => absurd z (by omega))) (fun z => absurd z (by omega)), hq0, Is, v, hv0, r0, Av, ?_, ?_, by rw [List.length_append]; exact hl, fun i => ?_, fun i hi => ?_⟩))
  · rw [dq_i_pi_k hqv, dq_i_pi_j (by omega)]; exact i1
  · rw [dq_i_pi_k hqv, dq_i_pi_s, List.length_append]; rfl
  · rw [dq_getD_snoc]
    split
    · exact hc
    · exact hW7 i
  · rw [dq_getD_snoc]
    by_cases e : i = W.length
    · rw [if_pos e, e, dq_i_pi_s]
    · rw [if_neg e, dq_i_pi_j e, dq_i_pi_k (fun e2 => hqv e2.symm)]
      rw [List.length_append] at hi
      have hi : i < W.length + 1 := hi
      exact hWv i (by omega)
/-- a new string with W in it -/
def dq_ST (Y0 : dw_S) (s : Nat) (W : List Nat) (Y : dw_S) : Prop := dq_fr dq_no dq_no Y0 Y ∧ dw_n Y0 ≤ s ∧ dw_is Y s 16 ∧ ∃ v, dw_n Y0 ≤ v ∧ dw_r Y s 0 = some v ∧ dq_A1 Y v 22 W.length ∧ dw_i Y s 1 = 0 ∧ W.length < 16 ∧ (∀ i, W.getD i 0 < 128) ∧ ∀ i, i < W.length → dw_i Y v i = Int32.ofNat (W.getD i 0)
theorem dq_fit8 {c : Nat} (hc : c < 128) : Jvm.fits .byte (.int (Int32.ofNat c)) = true := by
  have key : ∀ c : Fin 128, Jvm.fits .byte (.int (Int32.ofNat c.val)) = true := by decide +kernel
  exact key ⟨c, hc⟩
theorem dq_sbstr {Q : Nat × dw_S → Prop} (B : dq_SB Y0 q W Y) (hl : W.length < 16) (h0 : 0 < W.length) (hQ : ∀ s Y', dq_ST Y0 s W Y' → Q (s, Y')) : dw_P_J4_toString_0e30d q Y Q := by
  obtain ⟨F, hq0, Is, v, hv0, r0, Av, i1, i3, hW, hW7, hWv⟩ := B
  have h4 : 442 ≤ dw_n Y := by have := Is.1; have := Is.2.1; omega
  unfold dw_P_J4_toString_0e30d dw_P_J0_init_81219 dw_P_J0_init_db425 dw_P_J5_getValue_6d5f1 dw_P_J4_length_8abf5 dw_P_J5_length_8abf5 dw_P_J5_isLatin1_aae02 dw_P_J7_copyOfRange_39247 dw_P_J7_copyOfRangeByte_39247 dw_P_J7_checkLength_df160
  refine fun s hs => dq_lt ?_
  have hqs : q ≠ s := by have := Is.1; omega
  have hvs : v ≠ s := by have := Av.1.1; omega
  have Iq : dw_is (dw_nw Y s 16 0 (fun _ => 0) (fun _ => none)) q 17 := dq_is_nw Is hs
  have Is' : dw_is (dw_nw Y s 16 0 (fun _ => 0) (fun _ => none)) s 16 := dq_is_new h4 hs
  have r0' : dw_r (dw_nw Y s 16 0 (fun _ => 0) (fun _ => none)) q 0 = some v := by rw [dq_r_nw_n hqs]; exact r0
  have Av' : dq_A1 (dw_nw Y s 16 0 (fun _ => 0) (fun _ => none)) v 22 16 := dq_A1_fr (Si := dq_no) (Sr := dq_no) (dq_fr_nw dq_fr_refl hs) Av
  have j1 : dw_i (dw_nw Y s 16 0 (fun _ => 0) (fun _ => none)) q 1 = 0 := by rw [dq_i_nw_n hqs]; exact i1
  have j3 : dw_i (dw_nw Y s 16 0 (fun _ => 0) (fun _ => none)) q 3 = Int32.ofNat W.length := by rw [dq_i_nw_n hqs]; exact i3
  have hv' : ∀ i, i < W.length → dw_i (dw_nw Y s 16 0 (fun _ => 0) (fun _ => none)) v i = Int32.ofNat (W.getD i 0) := fun i hi => by rw [dq_i_nw_n hvs]; exact hWv i hi
  have F' : dq_fr dq_no dq_no Y0 (dw_nw Y s 16 0 (fun _ => 0) (fun _ => none)) := dq_fr_nw F hs
  have hs0 : dw_n Y0 ≤ s := Nat.le_trans F.2.1 hs
  have hnz : dw_n (dw_nw Y s 16 0 (fun _ => 0) (fun _ => none)) = s + 1 := rfl
  generalize dw_nw Y s 16 0 (fun _ => 0) (fun _ => none) = Z at *
  refine dq_ck Iq (dq_ck Iq (dq_nn r0' (dq_ck Iq (dq_ck Iq (dq_ck Iq (dq_lt (dq_ck Iq ?_)))))))
  refine dq_jn (fun v => v = Int32.ofNat 1) (fun u hu => dq_ck (by rw [hu]; decide) ?_) (fun j hj => dq_jn (fun _ => False) (fun _ z => z.elim) (fun j2 _ => dq_ck Iq (dq_iff (fun z => z j1) (hj _ rfl))))
  subst hu
  refine dq_jn (fun X => dq_ST Y0 s W X.1 ∧ X.2.1 = 1 ∧ X.2.2 = 32) (fun X hX => dq_ck ⟨by omega, by omega⟩ (hQ s _ hX.1)) (fun j hj => dq_iff (by decide) (dq_ck Is' (dq_lt ?_)))
  rw [j3]
  have Av2 : dq_A1 (dw_pi Z s 1 0) v 22 16 := Av'
  refine dq_jn (fun _ => True) (fun _ _ => ?_) (fun j2 hj2 => dq_iff (fun z => z rfl) (dq_ck Av2.1 ?_))
  rotate_left
  · rw [Av2.2]
    refine dq_iff (fun z => ?_) (hj2 () trivial)
    have := (pu_eq (by omega) (by omega)).mp z
    omega
  have e00 : (0 : Int32) = Int32.ofNat 0 := rfl
  have esub : Int32.ofNat W.length - (0 : Int32) = Int32.ofNat W.length := by rw [e00, pu_sub (Nat.zero_le _), Nat.sub_zero]
  have c0 : Int32.toNatClampNeg (0 : Int32) = 0 := rfl
  have e16 : Int32.ofNat 16 - (0 : Int32) = Int32.ofNat 16 := by rw [e00, pu_sub (Nat.zero_le _)]
  have emin : (if Int32.ofNat W.length < Int32.ofNat 16 then Int32.ofNat W.length else Int32.ofNat 16) = Int32.ofNat W.length := if_pos ((pu_ltn (by omega) (by omega)).mpr hl)
  refine dq_ift ?_ (dq_lt ?_)
  · rw [e00, pu_le (by omega) (by omega)]; omega
  rw [esub, pu_n (by omega)]
  refine dq_ck ⟨⟨pu_nn (by omega), by omega⟩, by omega, by omega⟩ (fun x hx => dq_lt ?_)
  have hx' : s + 1 ≤ x := by rw [← hnz]; exact hx
  have Avx : dq_A1 (dw_nw (dw_pi Z s 1 0) x 22 W.length (fun _ => 0) (fun _ => none)) v 22 16 := dq_A1_fr (Si := dq_no) (Sr := dq_no) (dq_fr_nw dq_fr_refl hx) Av2
  have Ax : dq_A1 (dw_nw (dw_pi Z s 1 0) x 22 W.length (fun _ => 0) (fun _ => none)) x 22 W.length := dq_A1_new (by show 442 ≤ dw_n Z; omega) hx
  have hvx : v ≠ x := by have : v < dw_n Z := Av'.1.1; omega
  have hvi : ∀ i, i < W.length → dw_i (dw_nw (dw_pi Z s 1 0) x 22 W.length (fun _ => 0) (fun _ => none)) v i = Int32.ofNat (W.getD i 0) := fun i hi => by
    rw [dq_i_nw_n hvx, dq_i_pi_k hvs]; exact hv' i hi
  refine dq_ck Avx.1 (dq_ck ⟨by omega, by omega⟩ ?_)
  rw [Avx.2, Ax.2, e16, emin, pu_n (by omega), c0]
  refine dq_ck ⟨⟨Avx.1, Ax.1⟩, ⟨⟨by decide, by decide, pu_nn (by omega)⟩, ?_, ?_⟩, fun i hi => ?_⟩ (dq_lt (dq_ck ⟨by omega, by omega⟩ ?_))
  · rw [c0, pu_n (by omega)]; omega
  · rw [c0, pu_n (by omega)]; omega
  · rw [Nat.zero_add, hvi i hi]
    exact dq_fit8 (hW7 i)
  have Isx : dw_is (dw_pA (dw_nw (dw_pi Z s 1 0) x 22 W.length (fun _ => 0) (fun _ => none)) x (va_cpy (dw_i (dw_nw (dw_pi Z s 1 0) x 22 W.length (fun _ => 0) (fun _ => none)) v) (dw_i (dw_nw (dw_pi Z s 1 0) x 22 W.length (fun _ => 0) (fun _ => none)) x) 0 0 W.length)) s 16 := (dq_is_nw (Y := dw_pi Z s 1 0) Is' hx : dw_is (dw_nw (dw_pi Z s 1 0) x 22 W.length (fun _ => 0) (fun _ => none)) s 16)
  refine dq_ck Isx (dq_lt (hj _ ⟨⟨?_, hs0, Isx, x, by omega, dq_r_pr_s, Ax, ?_, hl, hW7, fun i hi => ?_⟩, rfl, rfl⟩))
  · exact dq_fr_pr (dq_fr_pA (dq_fr_nw (dq_fr_pi F' (fun z => absurd z (by omega))) hx) (fun z => absurd z (by omega))) (fun z => absurd z (by omega))
  · rw [dq_i_pr]
    show tw_upA _ x _ s 1 = 0
    unfold tw_upA
    rw [if_neg (by omega)]
    have : dw_i (dw_nw (dw_pi Z s 1 0) x 22 W.length (fun _ => 0) (fun _ => none)) s 1 = 0 := by rw [dq_i_nw_n (by omega), dq_i_pi_s]
    exact this
  · rw [dq_i_pr]
    show tw_upA _ x _ x i = _
    unfold tw_upA
    rw [if_pos rfl, pu_cpyeq]
    dsimp only []
    rw [if_pos hi]
    exact hvi i hi
theorem dq_TX_fr {Si Sr : Nat → Nat → Prop} (F : dq_fr Si Sr Y Y') (hS : ∀ j, ¬ Si bf j) (X : dq_TX bf w h nb nc a cn hist err T Y) : dq_TX bf w h nb nc a cn hist err T Y' := by
  obtain ⟨A, h0, hT, hb, hw⟩ := X
  have e : ∀ j, dw_i Y' bf j = dw_i Y bf j := fun j => F.2.2.2.1 bf j A.1.1 (hS j)
  refine ⟨dq_A1_fr F A, by rw [e]; exact h0, hT, by rw [F.1]; exact hb, fun m hm j hj => by rw [e]; exact hw m hm j hj⟩
theorem dq_u16 {c : Nat} (hc : c < 128) : ((Int32.toUInt32 (Int32.ofNat c &&& (255 : Int32)) % 65536).toInt32) = Int32.ofNat c ∧ narrow .char (.int (Int32.ofNat c)) = .int (Int32.ofNat c) := by
  have key : ∀ c : Fin 128, ((Int32.toUInt32 (Int32.ofNat c.val &&& (255 : Int32)) % 65536).toInt32) = Int32.ofNat c.val ∧ narrow .char (.int (Int32.ofNat c.val)) = .int (Int32.ofNat c.val) := by decide +kernel
  exact key ⟨c, hc⟩
/-- a string written -/
theorem dq_writed {Q : dw_S → Prop} (B : dq_ST Y0 s W Y) (hbf : bf < dw_n Y0) (X : dq_TX bf w h nb nc a cn hist err T Y) (hL : T.length < 540) (hn : 1000 < n) (hQ : ∀ Y', dq_wr bf Y Y' → dq_TX bf w h nb nc a cn hist err (T ++ W) Y' → Q Y') : dw_P_L_writed n bf s Y Q := by
  obtain ⟨F, hs0, Is, v, hv0, r0, Av, i1, hl, hW7, hWv⟩ := B
  have hsb : s ≠ bf := by omega
  have hvb : v ≠ bf := by omega
  unfold dw_P_L_writed
  refine dq_lt ?_
  refine dq_for W.length (fun i x => x.1 = Int32.ofNat i ∧ dq_wr bf Y x.2 ∧ dq_TX bf w h nb nc a cn hist err (T ++ W.take i) x.2) (fun k i x hi hx hk => ?_) (fun k x hx => ?_) (by omega) ⟨rfl, dq_wr_refl, by rw [List.take_zero, List.append_nil]; exact X⟩
  all_goals
    obtain ⟨x1, Yv⟩ := x
    obtain ⟨hx1, Fv, Xv⟩ := hx
    dsimp only [] at hx1 Fv Xv
    dsimp only []
    subst hx1
    have Is' : dw_is Yv s 16 := (dq_is_fr Fv Is : dw_is (dw_cs Yv (dw_s Y)) s 16)
    have r0' : dw_r Yv s 0 = some v := (Fv.2.2.2.2 s 0 Is.1 (fun z => z)).trans r0
    have Av' : dq_A1 Yv v 22 W.length := (dq_A1_fr Fv Av : dq_A1 (dw_cs Yv (dw_s Y)) v 22 W.length)
    have j1 : dw_i Yv s 1 = 0 := (Fv.2.2.2.1 s 1 Is.1 hsb).trans i1
    have hvi : ∀ i, i < W.length → dw_i Yv v i = Int32.ofNat (W.getD i 0) := fun i hi => (Fv.2.2.2.1 v i Av.1.1 hvb).trans (hWv i hi)
    unfold dw_P_J0_length_8abf5 dw_P_J0_coder_7d493
    refine dq_ck Is' (dq_ck Is' (dq_nn r0' (dq_ck Av'.1 (dq_ck Is' (dq_jn (fun v => v = 0) (fun u hu => dq_ck (by rw [hu]; decide) ?_) (fun j hj => dq_ck Is' (hj _ j1)))))))
    subst hu
    dsimp only []
    rw [dq_shr0, Av'.2]
  · unfold dw_P_J0_charAt_5068e dw_P_J0_isLatin1_aae02 dw_P_J1_charAt_3b067
    have hc := hW7 i
    obtain ⟨u1, u2⟩ := dq_u16 hc
    have hll : (T ++ W.take i).length = T.length + i := by rw [List.length_append, List.length_take]; omega
    refine dq_iff (by rw [pu_le (by omega) (by omega)]; omega) (dq_ck Is' (dq_ck Is' (dq_jn (fun v => v = Int32.ofNat 1) (fun u hu => dq_ck (by rw [hu]; decide) ?_) (fun j hj => dq_jn (fun _ => False) (fun _ z => z.elim) (fun j2 _ => dq_ck Is' (dq_iff (fun z => z j1) (hj _ rfl)))))))
    subst hu
    refine dq_iff (by decide) (dq_ck Is' (dq_nn r0' (dq_ck Av'.1 (dq_bd (if_pos ⟨pu_nn (by omega), by rw [Av'.2, pu_ltn (by omega) (by omega)]; exact hi⟩) (dq_ck ⟨Av'.1, (dq_A1_ok Av' hi (by omega)).2⟩ ?_)))))
    have ev : dw_i (dw_cs Yv (dw_s Yv)) v (Int32.toNatClampNeg (Int32.ofNat i)) = Int32.ofNat (W.getD i 0) := by rw [pu_n (by omega)]; exact hvi i hi
    rw [ev, u1]
    refine dq_ck u2 (dq_ck u2 (dq_put Xv (by omega) (by omega) hn (fun Y2 F2 X2 => dq_lt (hk _ ⟨pu_add i 1, dq_wr_tr Fv F2, ?_⟩))))
    have et : W.take (i + 1) = W.take i ++ [W.getD i 0] := by
      rw [List.take_succ, List.getD_eq_getElem?_getD, List.getElem?_eq_getElem hi]; rfl
    rw [et, ← List.append_assoc]
    exact X2
  · rw [List.take_length] at Xv
    exact dq_ift ((pu_le (by omega) (by omega)).mpr (Nat.le_refl _)) (hQ _ Fv Xv)
theorem dq_writeAlld {Q : dw_S → Prop} {r m : Nat} {D : Nat → Nat} (B : dq_ST Y0 s W Y) (hbf : bf < dw_n Y0) (hr : r ≠ bf) (A : dq_A1 Y r 20 m) (hD : ∀ i, i < m → dw_i Y r i = Int32.ofNat (D i) ∧ D i < 10) (hm : m ≤ 4) (X : dq_TX bf w h nb nc a cn hist err T Y) (hL : T.length < 500) (hn : 1000 < n) (hQ : ∀ Y', dq_wr bf Y Y' → dq_TX bf w h nb nc a cn hist err (T ++ (W ++ dq_nums D m)) Y' → Q Y') : dw_P_L_writeAlld n bf s r Y Q := by
  have hl := B.2.2.2
  obtain ⟨v, -, -, -, -, hl, -⟩ := hl
  unfold dw_P_L_writeAlld
  refine dq_writed B hbf X (by omega) hn (fun Y1 F1 X1 => ?_)
  have A1 : dq_A1 Y1 r 20 m := (dq_A1_fr F1 A : dq_A1 (dw_cs Y1 (dw_s Y)) r 20 m)
  refine dq_ck A1.1 (dq_lt (dq_lt ?_))
  rw [A1.2]
  refine dq_numsL hr A1 (fun i hi => ?_) hm X1 (by rw [List.length_append]; omega) hn (fun Y2 F2 X2 => hQ Y2 (dq_wr_tr F1 F2) (by rw [← List.append_assoc]; exact X2))
  obtain ⟨h1, h2⟩ := hD i hi
  exact ⟨(F1.2.2.2.1 r i A.1.1 hr).trans h1, h2⟩
end DQJ2
