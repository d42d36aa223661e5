/-! randomIsland: the text is loaded; the clues -/
section DQRE
variable {Y Y0 Y' Y'' Ya Yb : dw_S} {th : Nat} {ι : Nat → Nat} {A A' : Nat → Int32} {w h NB nb NC nc n c s bf r q p w0 h0 nb0 nc0 cn0 m cc mk x y x2 y2 t : Nat} {a0 : Nat → Int32} {hist0 : Nat → Nat → Int32} {err0 : Int32} {T T' P : List Nat} {D : Nat → Nat}
set_option maxHeartbeats 1000000 in
theorem dq_loadT {Q : Int32 × dw_S → Prop} (X : dq_TX bf w0 h0 nb0 nc0 a0 cn0 hist0 err0 T Y) (hL : T.length < 570) (hn : 2000 < n) (hP : dq_PR T w h A) (hW : pu_AW A w h) (hQ : ∀ Y' buf, dq_wr bf Y Y' → pu_IC (dw_s Y') w h (pu_v A 2) (pu_v A 3) (pu_aE A w h) (min (cn0 + 1) 8) (pu_push cn0 hist0 a0) 0 buf (-1) → Q (Int32.ofNat (pu_v A 3), Y')) : dw_P_L_loadText n bf Y Q := by
  obtain ⟨A8, z0, hT, ⟨buf, J, hb⟩, hw⟩ := X
  have c0 : Int32.toNatClampNeg (0 : Int32) = 0 := rfl
  have e20 : (20 : Int32) = Int32.ofNat 20 := rfl
  have ok0 : ∀ Z, dq_A1 Z bf 20 8 → dw_is Z bf 20 ∧ tw_ok (0 : Int32) (dw_l Z bf) = true := fun Z B => dq_A1_ok (m := 0) B (by omega) (by omega)
  unfold dw_P_L_loadText
  rw [c0, z0]
  refine dq_ck (ok0 _ A8) (dq_lt ?_)
  refine dq_jn (fun Y1 => dq_wr bf Y Y1 ∧ ∃ len buf, T.length ≤ len ∧ pu_IC (dw_s Y1) w0 h0 nb0 nc0 a0 cn0 hist0 len buf err0 ∧ ∀ i, i < T.length → buf i = T.getD i 0) (fun Y1 g => ?_) (fun j hj => ?_)
  · obtain ⟨F1, len, buf1, l1, J1, b1⟩ := g
    have A1 : dq_A1 Y1 bf 20 8 := dq_A1_wx (r := bf) (dq_wr_wx F1) A8
    refine dq_ck (ok0 _ A1) (dq_lt ?_)
    have F2 : dq_wr bf Y (dw_pi Y1 bf 0 (0 : Int32)) := (dq_fr_pi F1 (fun _ => rfl) : dq_fr (fun k _ => k = bf) dq_no Y (dw_pi (dw_cs Y1 (dw_s Y)) bf 0 0))
    have J2 : pu_IC (dw_s (dw_pi Y1 bf 0 (0 : Int32))) w0 h0 nb0 nc0 a0 cn0 hist0 len buf1 err0 := J1
    generalize dw_pi Y1 bf 0 (0 : Int32) = Y2 at F2 J2 ⊢
    obtain ⟨e1, e2, e3⟩ := dq_PR_end (B := buf1) hP (fun i hi => by rw [b1 i hi]; exact hT i) (fun i hi => by rw [Nat.zero_add]; exact b1 i hi)
    refine dq_qload J2 hn l1 (by rw [e1]) (by rw [e1, e2, e3]; exact hW) (fun s1 hs1 => ?_)
    rw [e1, e2, e3] at hs1
    rw [e1]
    exact hQ _ _ F2 hs1
  · rw [e20, pu_rem (by omega) (by omega)]
    refine dq_if (fun z => hj _ ⟨dq_wr_refl, _, buf, ?_, J, fun i hi => hb i ?_⟩) (fun z => ?_)
    · have := (pu_le (a := T.length % 20) (b := 0) (by omega) (by omega)).mp z
      omega
    · have := (pu_le (a := T.length % 20) (b := 0) (by omega) (by omega)).mp z
      omega
    · refine dq_flush A8 J (by omega) (by omega) (fun Y' F' g0 gm J' => hj _ ⟨F', _, _, ?_, J', fun i hi => ?_⟩)
      · omega
      · by_cases e : i < 20 * (T.length / 20)
        · rw [if_pos e]; exact hb i e
        · rw [if_neg e, hw _ (by omega) _ (by omega)]
          congr 1
          omega
theorem dq_lgsT_len : ∀ ls : List dq_Lg, (∀ l ∈ ls, dq_lgG mk l) → (dq_lgsT ls).length ≤ 16 * ls.length
  | [], _ => Nat.zero_le _
  | l :: ls, hl => by
    have h1 := dq_lgT_len (κ := l.1) (m := l.2.1) (g := l.2.2.1) (hl l List.mem_cons_self).2.1
    have h2 := dq_lgsT_len ls (fun x hx => hl x (List.mem_cons_of_mem _ hx))
    show (dq_lgT l.1 l.2.1 l.2.2.1 l.2.2.2 ++ dq_lgsT ls).length ≤ 16 * (ls.length + 1)
    rw [List.length_append]
    omega
/-- small clues -/
def dq_SQ (A : Nat → Int32) (nc : Nat) : Prop := ∀ q, q < nc → pu_ns A q ≤ 2 ∧ pu_nl A q ≤ 3 ∧ ∀ l, l < pu_nl A q → pu_kind A q l = 0 → pu_give A q l ≤ 2
theorem dq_aT_q {q : Nat} : pu_ns (dq_aT A) q = pu_ns A q ∧ pu_nl (dq_aT A) q = pu_nl A q ∧ ∀ l, pu_kind (dq_aT A) q l = pu_kind A q l ∧ pu_give (dq_aT A) q l = pu_give A q l := by
  have e : ∀ j, 856 ≤ j → dq_aT A j = A j := fun j hj => dq_aT_n (by omega)
  refine ⟨pu_v_cong (e _ ?_), pu_v_cong (e _ ?_), fun l => ⟨pu_v_cong (e _ ?_), pu_v_cong (e _ ?_)⟩⟩
  · unfold pu_cl; omega
  · unfold pu_cl; omega
  · unfold pu_lg; omega
  · unfold pu_lg; omega
theorem dq_SQ_sm (S : dq_SQ A nc) (hw : w * h ≤ 30) (h3 : nc ≤ 3) : dq_sm (dq_aT A) w h nc := by
  refine ⟨hw, h3, fun q hq => ?_⟩
  obtain ⟨s1, s2, s3⟩ := S q hq
  obtain ⟨e1, e2, e3⟩ := dq_aT_q (A := A) (q := q)
  rw [e1, e2]
  exact ⟨s1, s2, fun l hl hk => by rw [(e3 l).1] at hk; rw [(e3 l).2]; exact s3 l hl hk⟩
set_option maxHeartbeats 2000000 in
theorem dq_riE_ok {Q : Option Nat × dw_S → Prop} (C : dq_RC Y0 bf r n) (R : dq_RI Y0 bf r th w0 h0 nb0 nc0 a0 cn0 hist0 err0 T A w h nb nb 0 0 ι Y) (hnb : nb ≤ 2) (h1 : 1 ≤ mk) (h3 : mk ≤ 3) (M : ∀ m, m < mk → A (808 + m) ≠ -1) (hL : T.length < 160) (hc : c + 182 ≤ 300) (hs : s + 1509 ≤ 2600) (hQ : ∀ NC A' κ Y' buf, NC ≤ 3 → dq_wx bf r Y0 Y' → dq_I Y' th κ (dq_aT A') w h nb NC → dq_sm (dq_aT A') w h NC → pu_IC (dw_s Y') w h nb NC (dq_aT A') (min (cn0 + 1) 8) (pu_push cn0 hist0 a0) 0 buf (-1) → dw_n Y0 ≤ th → dq_fsh (dw_n Y0) κ (dq_aT A') nb NC → Q (some th, Y')) : dq_riE n bf r th (Int32.ofNat mk) Y c s Q := by
  have hn := C.2.2.2.2
  have hD := R.2.2.2.2.2.2
  obtain ⟨hwh, hwh2, hwp, hw0⟩ := dq_RD_b hD
  have hr0 := C.1.1
  have hb0 := C.2.1.1
  unfold dq_riE
  refine dq_ck ⟨(dq_RI_n C R).2.1, by omega, by omega⟩ (dq_below (b := 4) (dq_RI_n C R).2.1 (by omega) (by omega) (fun NC Y1 hv F1 => dq_lt ?_))
  have R1 := dq_RI_fr C R F1 (fun k j z => Or.inl z)
  clear F1 R
  obtain ⟨u1, u2, u3⟩ := dq_RI_n C R1
  dsimp only []
  rw [pu_n (show NC < 2147483648 by omega)]
  refine dq_ck ⟨⟨pu_nn (by omega), by omega⟩, by omega, by omega⟩ (fun q hq => dq_lt ?_)
  have F2 : dq_fr dq_no dq_no Y1 (dw_nw Y1 q 24 NC (fun _ => 0) (fun _ => none)) := dq_fr_nw dq_fr_refl hq
  have A2 : dq_A1 (dw_nw Y1 q 24 NC (fun _ => 0) (fun _ => none)) q 24 NC := dq_A1_new u1 hq
  have hq0 : dw_n Y0 ≤ q := Nat.le_trans (dq_wx_n R1.1) hq
  have R2 := dq_RI_fr C R1 F2 (fun k j z => absurd z id)
  generalize dw_nw Y1 q 24 NC (fun _ => 0) (fun _ => none) = Y2 at F2 A2 R2 ⊢
  clear R1 F2
  refine dq_ck R2.2.2.2.1.1 (dq_lt (dq_lt ?_))
  have F3 : dq_fr dq_no (fun k _ => k = th) Y2 (dw_pr Y2 th 6 (some q)) := dq_fr_pr dq_fr_refl (fun _ => rfl)
  obtain ⟨W2, X2, PR, I2, th1, f1, -⟩ := id R2
  obtain ⟨κ, I3, k3, ko⟩ := dq_P_row6 I2 (by omega) A2
  have f1' := dq_fsh0.mp f1
  have R3 : dq_RI Y0 bf r th w0 h0 nb0 nc0 a0 cn0 hist0 err0 T A w h nb nb NC 0 κ (dw_pr Y2 th 6 (some q)) := by
    refine ⟨dq_wx_fr W2 F3 (fun _ _ _ z => absurd z id) (fun k j hk (z : k = th) => by omega), dq_TX_fr F3 (fun _ z => z) X2, PR, I3, th1, dq_fsh0.mpr ⟨fun j hj => ?_, fun k hk => ?_⟩, hD⟩
    · by_cases e : j = 4
      · rw [e, k3]; exact hq0
      · rw [ko j e]; exact f1'.1 j hj
    · rw [ko _ (by omega)]; exact f1'.2 k hk
  generalize dw_pr Y2 th 6 (some q) = Y3 at R3 ⊢
  clear R2 F3 W2 X2 PR I2 f1 f1' I3 k3 ko A2
  refine dq_for NC (fun i u => u.1 = Int32.ofNat i ∧ u.2.2.1 = c + 1 + 60 * i ∧ u.2.2.2 = s + NC + 500 * i ∧ ∃ T' A' κ', dq_RI Y0 bf r th w0 h0 nb0 nc0 a0 cn0 hist0 err0 T' A' w h nb nb NC i κ' u.2.1 ∧ (∀ m, m < mk → A' (808 + m) ≠ -1) ∧ dq_SQ A' i ∧ T'.length ≤ T.length + 60 * i) (fun k i u hi hu hk => ?_) (fun k u hu => ?_) (by omega) ⟨rfl, rfl, rfl, T, A, κ, R3, M, fun q hq => absurd hq (Nat.not_lt_zero _), Nat.le_refl _⟩
  all_goals
    obtain ⟨x1, Yv, cv, sv⟩ := u
    obtain ⟨ex, e1, e2, T', A', κ', R', M', S', hl'⟩ := hu
    dsimp only [] at ex e1 e2 R'
    dsimp only []
    subst ex e1 e2
    obtain ⟨W', X', ⟨P', AW', L', v2, v3⟩, I', th1, f', -⟩ := id R'
  · have r6 := I'.2.2.1.2.2.2.2.1
    have cl1 := I'.2.2.2.2.2.1.1
    have e4 := f'.1 _ (Or.inr (Or.inr (Or.inr (Or.inr (Or.inl rfl)))))
    refine dq_iff (by rw [pu_le (by omega) (by omega)]; omega) (dq_ck I'.1 (dq_nn r6 (dq_ck ⟨by omega, by omega⟩ ?_)))
    have hi3 : i < 3 := by omega
    refine dq_rclue (dq_RI_n C R').2.1 (dq_is_wx W' C.2.1) C.2.2.1 (dq_RI_n C R').1 ⟨h1, h3⟩ X' (by omega) (by omega) (fun qc sc Ac fst ic ls Y4 k1 k2 k3 k4 k5 k6 k7 k8 k9 W4 X4 C4 RA4 A14 Ls4 => ?_)
    have nv := dq_wx_n W'
    have n4 := dq_wx_n W4
    have cl4 : dq_A1 Y4 (κ' 4) 24 NC := dq_A1_wx W4 cl1
    refine dq_ck ⟨cl4.1, (dq_A1_ok cl4 hi (by omega)).2, fun v ev => by cases ev; exact C4.1⟩ (dq_lt (dq_lt (hk _ ?_)))
    rw [pu_n (show i < 2147483648 by omega)]
    have hz : ∀ j, j < 43 → A' (pu_cl i + j) = 0 := fun j hj => AW'.2.2.2.2.2.2.1 i (by omega) (by omega) j hj
    have hns : pu_ns A' i = 0 := by unfold pu_ns pu_v; rw [hz 1 (by omega)]; rfl
    have hnl : pu_nl A' i = 0 := by unfold pu_nl pu_v; rw [hz 2 (by omega)]; rfl
    obtain ⟨g0, g1, g2, g3, g4, g5, g6⟩ := dq_clA_f (A := A') (q := i) (fst := fst) (mk := mk) (i := ic) (ls := ls) k4 k5 hns hnl k8
    rw [dq_clT_eq k4 k5] at X4
    have PR := dq_PR_clue (q := i) P' AW' X4.2.2.1 v3 (by omega) (dq_stOK_of k4 k5 ⟨h1, h3⟩ k6 k7 hns M') (dq_lgOK_of ls _ h3 k9 ?_ ?_) ?_ k8
    rotate_left
    · have := (dq_aZs_f (q := i) ((fst + 0) % mk :: dq_clms fst mk ic) A' (by rw [hns, List.length_cons, (dq_clms_f (fst := fst) (mk := mk) k4 k5).1]; omega)).2.2
      have e : pu_nl (dq_aZs i (dq_clms fst mk ic) (dq_aZ A' i ((fst + 0) % mk))) i = pu_nl A' i := pu_v_cong (this (pu_cl i + 2) (by omega) (by rw [hns, List.length_cons, (dq_clms_f (fst := fst) (mk := mk) k4 k5).1]; omega))
      rw [e, hnl]; omega
    · intro m hm
      have := (dq_aZs_f (q := i) ((fst + 0) % mk :: dq_clms fst mk ic) A' (by rw [hns, List.length_cons, (dq_clms_f (fst := fst) (mk := mk) k4 k5).1]; omega)).2.2
      have e : dq_aZs i (dq_clms fst mk ic) (dq_aZ A' i ((fst + 0) % mk)) (808 + m) = A' (808 + m) := this _ (by unfold pu_cl; omega) (by unfold pu_cl; omega)
      rw [e]; exact M' m hm
    · rw [(dq_clms_f (fst := fst) (mk := mk) k4 k5).1]; omega
    generalize dq_clA i ((fst + 0) % mk) (dq_clms fst mk ic) ls A' = B at g0 g1 g2 g3 g4 g5 g6 PR
    have hcl : pu_cl i = 856 + 43 * i := rfl
    have hout : ∀ j, j ≠ 3 → j < 856 + 43 * i → B j = A' j := fun j j1 j2 => g5 j j1 (by omega)
    have ea : ∀ j, j ≠ 4 → dq_aT B j = B j := fun j hj => dq_aT_n hj
    have hlow : ∀ j, 4 ≤ j → j < 856 + 43 * i → dq_aT B j = dq_aT A' j := fun j j1 j2 => by
      by_cases ej : j = 4
      · rw [ej, dq_aT_4, dq_aT_4, hout 4 (by omega) (by omega)]
      · rw [dq_aT_n ej, dq_aT_n ej, hout j (by omega) j2]
    have hSQ : ∀ q, q < i → pu_ns (dq_aT A') q ≤ 8 ∧ pu_nl (dq_aT A') q ≤ 8 := fun q hq => by
      obtain ⟨e1, e2, -⟩ := dq_aT_q (A := A') (q := q)
      have := S' q hq
      rw [e1, e2]
      omega
    have hnew : ∀ k, dq_has κ' (dq_aT A') nb i k → k ≠ bf ∧ k ≠ r := fun k hk => by have := f'.1 k hk; omega
    obtain ⟨κ2, I2, hs2, ho2⟩ := dq_P_clue (a' := dq_aT B) I' (by omega) hSQ hnb hi (by omega) ⟨by omega, by omega⟩ hnew W4 k1 k2 C4 RA4 A14 Ls4 hlow (by rw [ea _ (by omega)]; exact g0) ((dq_aT_q (A := B) (q := i)).1.trans g1) (fun k hk => by rw [ea _ (by omega)]; exact g2 k hk) ((dq_aT_q (A := B) (q := i)).2.1.trans g3) (by omega) (fun k l hl => by
      have hlg : pu_lg i k = 856 + 43 * i + 11 + 4 * k := rfl
      rw [ea _ (by omega), ea _ (by omega), ea _ (by omega), ea _ (by omega)]
      exact g4 k l hl)
    have F5 : dq_fr dq_no (fun k _ => k = κ' 4) Y4 (dw_pr Y4 (κ' 4) i (some qc)) := dq_fr_pr dq_fr_refl (fun _ => rfl)
    refine ⟨pu_add i 1, by show c + 1 + 60 * i + 60 = _; omega, by show s + NC + 500 * i + 500 = _; omega, _, B, κ2, ⟨dq_wx_fr (dq_wx_tr W' W4) F5 (fun _ _ _ z => absurd z id) (fun k j hk (z : k = κ' 4) => by omega), dq_TX_fr F5 (fun _ z => z) X4, ⟨PR.1, PR.2, ?_, (pu_v_cong (hout 2 (by omega) (by omega))).trans v2, ?_⟩, I2, th1, ⟨fun k hk => ?_, ?_⟩, hD⟩, fun m hm => ?_, fun p hp => ?_, ?_⟩
    · unfold pu_land
      rw [hout _ (by omega) (by omega)]; exact L'
    · unfold pu_v
      rw [g6, pu_n (by omega)]
    · rcases hs2 k hk with z | z | z | z | z
      · exact f'.1 k z
      · omega
      · omega
      · omega
      · omega
    · rw [ho2 5 (by omega)]; exact f'.2
    · rw [hout _ (by omega) (by omega)]; exact M' m hm
    · by_cases ep : p = i
      · subst ep
        refine ⟨by rw [g1]; exact k5, by rw [g3]; exact k8, fun l hl hk0 => ?_⟩
        rw [g3] at hl
        obtain ⟨-, -, q3, -⟩ := g4 l _ (List.getElem?_eq_getElem hl)
        unfold pu_give pu_v
        rw [q3]
        have := (k9 _ (List.getElem_mem hl)).2.2.1
        rw [pu_n (by omega)]
        omega
      · obtain ⟨s1, s2, s3⟩ := S' p (by omega)
        have hclp : pu_cl p = 856 + 43 * p := rfl
        have en : pu_ns B p = pu_ns A' p := pu_v_cong (hout _ (by omega) (by omega))
        have el : pu_nl B p = pu_nl A' p := pu_v_cong (hout _ (by omega) (by omega))
        rw [en, el]
        refine ⟨s1, s2, fun l hl hk0 => ?_⟩
        have hlg : pu_lg p l = 856 + 43 * p + 11 + 4 * l := rfl
        have ek : pu_kind B p l = pu_kind A' p l := pu_v_cong (hout _ (by omega) (by omega))
        have eg : pu_give B p l = pu_give A' p l := pu_v_cong (hout _ (by omega) (by omega))
        rw [ek] at hk0
        rw [eg]
        exact s3 l hl hk0
    · have h22 : (dq_wd 22).length = 5 := by decide +kernel
      have hst := dq_stX_len (fst := fst) (mk := mk) k5
      have hlg := dq_lgsT_len ls k9
      rw [← dq_clT_eq k4 k5, List.length_append, List.length_append, List.length_append, List.length_append, h22]
      show T'.length + (5 + (dq_stX fst mk ic).length + (dq_lgsT ls).length + 1) ≤ _
      omega
  · refine dq_ift ((pu_le (by omega) (by omega)).mpr (Nat.le_refl _)) (dq_ck ⟨by omega, by omega⟩ ?_)
    refine dq_loadT X' (by omega) (by omega) P' AW' (fun Y4 buf V4 J4 => ?_)
    refine dq_jn (fun a => a = some th) (fun a ha => ?_) (fun j hj => ?_)
    · subst ha
      refine dq_ck ⟨by omega, by omega⟩ ?_
      rw [v2, v3, dq_aE_aT L' (by omega)] at J4
      have I4 := dq_P_wx (r := r) (dq_wr_wx V4) I' ⟨by omega, by omega⟩ (fun k hk => by have := f'.1 k hk; omega)
      exact hQ NC A' κ' Y4 buf (by omega) (dq_wx_wr W' V4) (dq_P_I I4) (dq_SQ_sm S' hwh (by omega)) J4 th1 f'
    · rw [v3]
      exact dq_iff (fun z => z rfl) (hj _ rfl)
end DQRE
