/-! the law's clue: a leg is drawn -/
section DQW
variable {Y Y0 Y' Y'' : dw_S} {r n bf mk w h nb nc cn q q42 j m A c s : Nat} {a : Nat → Int32} {hist : Nat → Nat → Int32} {err : Int32} {T : List Nat} {l : dq_Lg}
theorem dq_i14 {th : Nat} {Q : Unit → Prop} (h : Q ()) : dw_P_X14_init th Y Q := h
/-- a leg as the law draws it -/
def dq_lgG (mk : Nat) (l : dq_Lg) : Prop := l.1 < 3 ∧ l.2.2.2 < 8 ∧ l.2.2.1 < 3 ∧ (l.1 ≠ 0 → l.2.2.1 = 0) ∧ (l.1 = 0 → l.2.1 < 5) ∧ (l.1 = 1 → l.2.1 < mk) ∧ (l.1 = 2 → l.2.1 = 0)
theorem dq_lgsT_snoc : ∀ ls : List dq_Lg, dq_lgsT (ls ++ [l]) = dq_lgsT ls ++ dq_lgT l.1 l.2.1 l.2.2.1 l.2.2.2
  | [] => by show dq_lgT _ _ _ _ ++ [] = [] ++ _; rw [List.append_nil]; rfl
  | x :: xs => by
    show dq_lgT _ _ _ _ ++ dq_lgsT (xs ++ [l]) = (dq_lgT _ _ _ _ ++ dq_lgsT xs) ++ _
    rw [dq_lgsT_snoc xs, List.append_assoc]
def dq_lgA (n r1 r2 q21 : Nat) (x3 lI : Int32) (Y : dw_S) (c s : Nat) (K : Int32 × dw_S × Nat × Nat → Prop) : Prop :=
pw_ck ((c + 1) ≤ 60 ∧ (s + 4) ≤ 500) (
pw_al (dw_n Y) (fun (q42 : Nat) => pw_lt (dw_nw Y q42 14 0 (fun _ => 0) (fun _ => none)) (fun (Y43 : dw_S) =>
pw_ck ((c + 1) ≤ 60 ∧ (s + 4) ≤ 500) (
dw_P_X14_init q42 Y43 (fun (r44 : Unit) =>
pw_ck (dw_is Y43 r2 15 ∧ (c + 1) ≤ 60 ∧ (s + 4) ≤ 500) (
dw_P_X15_below r2 (3 : Int32) Y43 (fun (r45 : Int32 × dw_S) =>
tw_jn (fun (a46 : Int32 × dw_S) =>
pw_ck (dw_is a46.2 q42 14) (pw_lt (dw_pi a46.2 q42 0 a46.1) (fun (Y48 : dw_S) =>
pw_ck (dw_is Y48 r2 15 ∧ (c + 1) ≤ 60 ∧ (s + 4) ≤ 500) (
dw_P_X15_below r2 (8 : Int32) Y48 (fun (r49 : Int32 × dw_S) =>
pw_ck (dw_is r49.2 q42 14) (pw_lt (dw_pi r49.2 q42 3 r49.1) (fun (Y50 : dw_S) =>
pw_ck (dw_is Y50 q42 14) (
tw_jn (fun (a51 : Int32 × dw_S) =>
pw_ck (dw_is a51.2 q42 14) (pw_lt (dw_pi a51.2 q42 1 a51.1) (fun (Y53 : dw_S) =>
pw_ck (dw_is Y53 q42 14) (
tw_jn (fun (a54 : Int32 × dw_S) =>
pw_ck (dw_is a54.2 q42 14) (pw_lt (dw_pi a54.2 q42 2 a54.1) (fun (Y56 : dw_S) =>
pw_ck (dw_is Y56 q42 14) (
tw_jn (fun (a57 : dw_S × Nat × Nat) =>
pw_ck (dw_is a57.1 q42 14) (
tw_jn (fun (a59 : dw_S × Nat × Nat) =>
pw_ck (dw_is a59.1 q42 14) (
tw_jn (fun (a61 : dw_S) =>
pw_ck ((a59.2.1 + 1) ≤ 60 ∧ (a59.2.2 + 4) ≤ 500) (
pw_al (dw_n a61) (fun (q63 : Nat) => pw_lt (dw_nw a61 q63 17 0 (fun _ => 0) (fun _ => none)) (fun (Y64 : dw_S) =>
pw_ck (((a59.2.1 + 1) + 1) ≤ 60 ∧ ((a59.2.2 + 4) + 16) ≤ 500) (
dw_P_J4_init_da8c8 q63 Y64 (fun (r65 : dw_S) =>
pw_ck (dw_is r65 q63 17 ∧ ((a59.2.1 + 1) + 1) ≤ 60 ∧ ((a59.2.2 + 4) + 16) ≤ 500) (
dw_P_J4_append_15ec4 q63 21 r65 (fun (r66 : Nat × dw_S) =>
pw_ck (dw_is r66.2 q42 14) (
pw_ck (tw_ok (dw_i r66.2 q42 3) 8 = true) (
pw_ck ((13 + Int32.toNatClampNeg (dw_i r66.2 q42 3)) < 33) (
pw_ck (dw_is r66.2 r66.1 17 ∧ ((a59.2.1 + 1) + 1) ≤ 60 ∧ ((a59.2.2 + 4) + 16) ≤ 500) (
dw_P_J4_append_15ec4 r66.1 (13 + Int32.toNatClampNeg (dw_i r66.2 q42 3)) r66.2 (fun (r68 : Nat × dw_S) =>
pw_ck (dw_is r68.2 r68.1 17 ∧ (((a59.2.1 + 1) + 1) + 2) ≤ 60 ∧ (((a59.2.2 + 4) + 16) + 36) ≤ 500) (
dw_P_J4_toString_0e30d r68.1 r68.2 (fun (r69 : Nat × dw_S) =>
pw_ck ((((a59.2.1 + 1) + 1) + 2) ≤ 60 ∧ (((a59.2.2 + 4) + 16) + 36) ≤ 500) (
dw_P_L_writed n r1 r69.1 r69.2 (fun (r70 : dw_S) =>
pw_ck (dw_is r70 q42 14) (
tw_jn (fun (a71 : dw_S × Nat × Nat) =>
pw_ck (dw_is a71.1 q21 12) (
pw_nn (dw_r a71.1 q21 1) (fun (r73 : Nat) =>
pw_ck (dw_is a71.1 r73 23 ∧ tw_ok lI (dw_l a71.1 r73) = true ∧ ∀ v, (some q42) = some v → dw_is a71.1 v 14) (pw_lt (dw_pr a71.1 r73 (Int32.toNatClampNeg lI) (some q42)) (fun (Y74 : dw_S) =>
pw_lt (lI + (1 : Int32)) (fun (v75 : Int32) =>
K (v75, Y74, a71.2.1, a71.2.2))))))) (fun (j72 : (dw_S × Nat × Nat) → Prop) =>
if (dw_i r70 q42 2) ≤ 0 then (j72 (r70, (((a59.2.1 + 1) + 1) + 2), (((a59.2.2 + 4) + 16) + 36)))
else (pw_ck ((¬ (1 : Int32) < 0 ∧ (Int32.toNatClampNeg (1 : Int32)) ≤ 10000) ∧ ((((a59.2.1 + 1) + 1) + 2) + 1) ≤ 60 ∧ ((((a59.2.2 + 4) + 16) + 36) + (Int32.toNatClampNeg (1 : Int32))) ≤ 500) (
pw_al (dw_n r70) (fun (q76 : Nat) => pw_lt (dw_nw r70 q76 20 (Int32.toNatClampNeg (1 : Int32)) (fun _ => 0) (fun _ => none)) (fun (Y77 : dw_S) =>
pw_ck (dw_is Y77 q42 14) (
pw_ck (dw_is Y77 q76 20 ∧ tw_ok (0 : Int32) (dw_l Y77 q76) = true) (pw_lt (dw_pi Y77 q76 (Int32.toNatClampNeg (0 : Int32)) (dw_i Y77 q42 2)) (fun (Y78 : dw_S) =>
pw_ck (((((a59.2.1 + 1) + 1) + 2) + 1) ≤ 60 ∧ ((((a59.2.2 + 4) + 16) + 36) + (Int32.toNatClampNeg (1 : Int32))) ≤ 500) (
dw_P_L_writeAll n r1 28 q76 Y78 (fun (r79 : dw_S) =>
j72 (r79, ((((a59.2.1 + 1) + 1) + 2) + 1), ((((a59.2.2 + 4) + 16) + 36) + (Int32.toNatClampNeg (1 : Int32)))))))))))))))))))))))))))))))) (fun (j62 : (dw_S) → Prop) =>
if ¬ (dw_i a59.1 q42 0) = (2 : Int32) then (j62 a59.1)
else (pw_ck (a59.2.1 ≤ 60 ∧ a59.2.2 ≤ 500) (
dw_P_L_write n r1 27 a59.1 (fun (r80 : dw_S) =>
j62 r80)))))) (fun (j60 : (dw_S × Nat × Nat) → Prop) =>
if ¬ (dw_i a57.1 q42 0) = (1 : Int32) then (j60 (a57.1, a57.2.1, a57.2.2))
else (pw_ck ((a57.2.1 + 1) ≤ 60 ∧ (a57.2.2 + 4) ≤ 500) (
pw_al (dw_n a57.1) (fun (q81 : Nat) => pw_lt (dw_nw a57.1 q81 17 0 (fun _ => 0) (fun _ => none)) (fun (Y82 : dw_S) =>
pw_ck (((a57.2.1 + 1) + 1) ≤ 60 ∧ ((a57.2.2 + 4) + 16) ≤ 500) (
dw_P_J4_init_da8c8 q81 Y82 (fun (r83 : dw_S) =>
pw_ck (dw_is r83 q81 17 ∧ ((a57.2.1 + 1) + 1) ≤ 60 ∧ ((a57.2.2 + 4) + 16) ≤ 500) (
dw_P_J4_append_15ec4 q81 26 r83 (fun (r84 : Nat × dw_S) =>
pw_ck (dw_is r84.2 q42 14) (
pw_ck (dw_is r84.2 r84.1 17 ∧ ((a57.2.1 + 1) + 1) ≤ 60 ∧ ((a57.2.2 + 4) + 16) ≤ 500) (
dw_P_J4_append_cf468 r84.1 ((Int32.toUInt32 ((97 : Int32) + (dw_i r84.2 q42 1)) % 65536).toInt32) r84.2 (fun (r85 : Nat × dw_S) =>
pw_ck (dw_is r85.2 r85.1 17 ∧ (((a57.2.1 + 1) + 1) + 2) ≤ 60 ∧ (((a57.2.2 + 4) + 16) + 36) ≤ 500) (
dw_P_J4_toString_0e30d r85.1 r85.2 (fun (r86 : Nat × dw_S) =>
pw_ck ((((a57.2.1 + 1) + 1) + 2) ≤ 60 ∧ (((a57.2.2 + 4) + 16) + 36) ≤ 500) (
dw_P_L_writed n r1 r86.1 r86.2 (fun (r87 : dw_S) =>
j60 (r87, (((a57.2.1 + 1) + 1) + 2), (((a57.2.2 + 4) + 16) + 36)))))))))))))))))))) (fun (j58 : (dw_S × Nat × Nat) → Prop) =>
if ¬ (dw_i Y56 q42 0) = 0 then (j58 (Y56, (c + 1), (s + 4)))
else (pw_ck ((¬ (1 : Int32) < 0 ∧ (Int32.toNatClampNeg (1 : Int32)) ≤ 10000) ∧ ((c + 1) + 1) ≤ 60 ∧ ((s + 4) + (Int32.toNatClampNeg (1 : Int32))) ≤ 500) (
pw_al (dw_n Y56) (fun (q88 : Nat) => pw_lt (dw_nw Y56 q88 20 (Int32.toNatClampNeg (1 : Int32)) (fun _ => 0) (fun _ => none)) (fun (Y89 : dw_S) =>
pw_ck (dw_is Y89 q42 14) (
pw_ck (dw_is Y89 q88 20 ∧ tw_ok (0 : Int32) (dw_l Y89 q88) = true) (pw_lt (dw_pi Y89 q88 (Int32.toNatClampNeg (0 : Int32)) (dw_i Y89 q42 1)) (fun (Y90 : dw_S) =>
pw_ck (((c + 1) + 1) ≤ 60 ∧ ((s + 4) + (Int32.toNatClampNeg (1 : Int32))) ≤ 500) (
dw_P_L_writeAll n r1 25 q88 Y90 (fun (r91 : dw_S) =>
j58 (r91, ((c + 1) + 1), ((s + 4) + (Int32.toNatClampNeg (1 : Int32)))))))))))))))))) (fun (j55 : (Int32 × dw_S) → Prop) =>
if ¬ (dw_i Y53 q42 0) = 0 then (j55 ((0 : Int32), Y53))
else (pw_ck (dw_is Y53 r2 15 ∧ (c + 1) ≤ 60 ∧ (s + 4) ≤ 500) (
dw_P_X15_below r2 (3 : Int32) Y53 (fun (r92 : Int32 × dw_S) =>
j55 (r92.1, r92.2))))))))) (fun (j52 : (Int32 × dw_S) → Prop) =>
if ¬ (dw_i Y50 q42 0) = 0 then (pw_ck (dw_is Y50 q42 14) (
if ¬ (dw_i Y50 q42 0) = (1 : Int32) then (j52 ((0 : Int32), Y50))
else (pw_ck (dw_is Y50 r2 15 ∧ (c + 1) ≤ 60 ∧ (s + 4) ≤ 500) (
dw_P_X15_below r2 x3 Y50 (fun (r93 : Int32 × dw_S) =>
j52 (r93.1, r93.2))))))
else (pw_ck (dw_is Y50 r2 15 ∧ (c + 1) ≤ 60 ∧ (s + 4) ≤ 500) (
dw_P_X15_below r2 (5 : Int32) Y50 (fun (r94 : Int32 × dw_S) =>
j52 (r94.1, r94.2))))))))))))) (fun (j47 : (Int32 × dw_S) → Prop) =>
if ¬ r45.1 = 0 then (j47 ((0 : Int32), r45.2))
else (pw_ck (dw_is r45.2 r2 15 ∧ (c + 1) ≤ 60 ∧ (s + 4) ≤ 500) (
dw_P_X15_below r2 (2 : Int32) r45.2 (fun (r95 : Int32 × dw_S) =>
j47 (((1 : Int32) + r95.1), r95.2))))))))))))
theorem dq_clgA {K : Int32 × dw_S × Nat × Nat → Prop} (hr : dw_is Y r 15) (hrb : r ≠ bf) (h4 : 442 ≤ dw_n Y) (hbf : bf < dw_n Y) (hmk : 1 ≤ mk ∧ mk ≤ 3) (X : dq_TX bf w h nb nc a cn hist err T Y) (hL : T.length < 440) (hn : 1000 < n) (hq : dw_is Y q 12) (hA : dw_r Y q 1 = some A) (hA1 : dq_A1 Y A 23 m) (hj : j < m) (hm : m < 10) (hc : c + 10 ≤ 60) (hs : s + 117 ≤ 500) (hK : ∀ Y' q2 l c' s', c' ≤ c + 10 → s' ≤ s + 117 → dw_n Y ≤ q2 → dq_wx bf r Y Y' → dq_TX bf w h nb nc a cn hist err (T ++ dq_lgT l.1 l.2.1 l.2.2.1 l.2.2.2) Y' → dq_lgG mk l → dq_L1 Y' q2 l → K (Int32.ofNat (j + 1), dw_pr Y' A j (some q2), c', s')) : dq_lgA n bf r q (Int32.ofNat mk) (Int32.ofNat j) Y c s K := by
  have hr0 := hr.1
  unfold dq_lgA
  refine dq_ck ⟨by omega, by omega⟩ (fun q2 hq2 => dq_lt (dq_ck ⟨by omega, by omega⟩ (dq_i14 ?_)))
  have F0 : dq_fr dq_no dq_no Y (dw_nw Y q2 14 0 (fun _ => 0) (fun _ => none)) := dq_fr_nw dq_fr_refl hq2
  have I0 : dw_is (dw_nw Y q2 14 0 (fun _ => 0) (fun _ => none)) q2 14 := dq_is_new h4 hq2
  generalize dw_nw Y q2 14 0 (fun _ => 0) (fun _ => none) = Y1 at F0 I0 ⊢
  have n1 := F0.2.1
  have V1 : dq_wx bf r Y Y1 := dq_wx_fr dq_wx_refl F0 (fun _ _ _ z => absurd z id) (fun _ _ _ z => z)
  have X1 := dq_TX_fr F0 (fun _ z => z) X
  -- everything until the text: r and the leg are written
  have key : ∀ Y2, dq_fr (fun k _ => k = r ∨ k = q2) dq_no Y1 Y2 → dw_is Y2 r 15 ∧ dw_is Y2 q2 14 := fun Y2 F => ⟨dq_is_wx (bf := bf) (r := r) dq_wx_refl (dq_is_fr F (dq_is_wx V1 hr)), dq_is_fr F I0⟩
  have ext : ∀ {Y2 Y3}, dq_fr (fun k _ => k = r ∨ k = q2) dq_no Y1 Y2 → dq_fr (fun k _ => k = r) dq_no Y2 Y3 → dq_fr (fun k _ => k = r ∨ k = q2) dq_no Y1 Y3 := fun F G => dq_fr_trans F G (fun _ _ _ z => Or.inl z) (fun _ _ _ z => z)
  have qi : ∀ {Y2 Y3 j}, dw_is Y2 q2 14 → dq_fr (fun k _ => k = r) dq_no Y2 Y3 → dw_i Y3 q2 j = dw_i Y2 q2 j := fun I G => G.2.2.2.1 _ _ I.1 (fun z => by omega)
  have F1 : dq_fr (fun k _ => k = r ∨ k = q2) dq_no Y1 Y1 := dq_fr_refl
  refine dq_ck ⟨(key _ F1).1, by omega, by omega⟩ (dq_below (b := 3) (key _ F1).1 (by omega) (by omega) (fun v Y2 hv F2 => ?_))
  have F2' := ext F1 F2
  refine dq_jn (fun v => ∃ κ, κ < 3 ∧ v.1 = Int32.ofNat κ ∧ dq_fr (fun k _ => k = r ∨ k = q2) dq_no Y1 v.2) (fun v hv => ?_) (fun f hf => ?_)
  · obtain ⟨v1, Y3⟩ := v
    obtain ⟨κ, hκ, ev, F3⟩ := hv
    dsimp only [] at ev F3
    subst ev
    dsimp only []
    refine dq_ck (key _ F3).2 (dq_lt ?_)
    have F4 : dq_fr (fun k _ => k = r ∨ k = q2) dq_no Y1 (dw_pi Y3 q2 0 (Int32.ofNat κ)) := dq_fr_pi F3 (fun _ => Or.inr rfl)
    have e40 : dw_i (dw_pi Y3 q2 0 (Int32.ofNat κ)) q2 0 = Int32.ofNat κ := dq_i_pi_s
    generalize dw_pi Y3 q2 0 (Int32.ofNat κ) = Y4 at F4 e40 ⊢
    refine dq_ck ⟨(key _ F4).1, by omega, by omega⟩ (dq_below (b := 8) (key _ F4).1 (by omega) (by omega) (fun d Y5 hd F5 => ?_))
    have e50 := (qi (key _ F4).2 F5).trans e40
    have F5' := ext F4 F5
    refine dq_ck (key _ F5').2 (dq_lt ?_)
    have F6 : dq_fr (fun k _ => k = r ∨ k = q2) dq_no Y1 (dw_pi Y5 q2 3 (Int32.ofNat d)) := dq_fr_pi F5' (fun _ => Or.inr rfl)
    have e60 : dw_i (dw_pi Y5 q2 3 (Int32.ofNat d)) q2 0 = Int32.ofNat κ := (dq_i_pi_j (by decide)).trans e50
    have e63 : dw_i (dw_pi Y5 q2 3 (Int32.ofNat d)) q2 3 = Int32.ofNat d := dq_i_pi_s
    generalize dw_pi Y5 q2 3 (Int32.ofNat d) = Y6 at F6 e60 e63 ⊢
    refine dq_ck (key _ F6).2 (dq_jn (fun v => ∃ m, v.1 = Int32.ofNat m ∧ (κ = 0 → m < 5) ∧ (κ = 1 → m < mk) ∧ (κ = 2 → m = 0) ∧ dq_fr (fun k _ => k = r) dq_no Y6 v.2) (fun v hv => ?_) (fun f hf => ?_))
    · obtain ⟨v1, Y7⟩ := v
      obtain ⟨mm, ev, m0, m1, m2, G7⟩ := hv
      dsimp only [] at ev G7
      subst ev
      dsimp only []
      have F7 := ext F6 G7
      have e70 := (qi (key _ F6).2 G7).trans e60
      have e73 := (qi (key _ F6).2 G7).trans e63
      refine dq_ck (key _ F7).2 (dq_lt ?_)
      have F8 : dq_fr (fun k _ => k = r ∨ k = q2) dq_no Y1 (dw_pi Y7 q2 1 (Int32.ofNat mm)) := dq_fr_pi F7 (fun _ => Or.inr rfl)
      have e80 : dw_i (dw_pi Y7 q2 1 (Int32.ofNat mm)) q2 0 = Int32.ofNat κ := (dq_i_pi_j (by decide)).trans e70
      have e83 : dw_i (dw_pi Y7 q2 1 (Int32.ofNat mm)) q2 3 = Int32.ofNat d := (dq_i_pi_j (by decide)).trans e73
      have e81 : dw_i (dw_pi Y7 q2 1 (Int32.ofNat mm)) q2 1 = Int32.ofNat mm := dq_i_pi_s
      generalize dw_pi Y7 q2 1 (Int32.ofNat mm) = Y8 at F8 e80 e81 e83 ⊢
      have ek : dw_i Y8 q2 0 = (0 : Int32) ↔ κ = 0 := dq_eqn (k := 0) e80 hκ (by omega)
      refine dq_ck (key _ F8).2 (dq_jn (fun v => ∃ g, v.1 = Int32.ofNat g ∧ g < 3 ∧ (κ ≠ 0 → g = 0) ∧ dq_fr (fun k _ => k = r) dq_no Y8 v.2) (fun v hv => ?_) (fun f hf => ?_))
      · obtain ⟨v1, Y9⟩ := v
        obtain ⟨g, ev, g3, g0, G9⟩ := hv
        dsimp only [] at ev G9
        subst ev
        dsimp only []
        have F9 := ext F8 G9
        have e90 := (qi (key _ F8).2 G9).trans e80
        have e91 := (qi (key _ F8).2 G9).trans e81
        have e93 := (qi (key _ F8).2 G9).trans e83
        refine dq_ck (key _ F9).2 (dq_lt ?_)
        have Fa : dq_fr (fun k _ => k = r ∨ k = q2) dq_no Y1 (dw_pi Y9 q2 2 (Int32.ofNat g)) := dq_fr_pi F9 (fun _ => Or.inr rfl)
        have C : dq_L1 (dw_pi Y9 q2 2 (Int32.ofNat g)) q2 (κ, mm, g, d) := ⟨(key _ Fa).2, (dq_i_pi_j (by decide)).trans e90, (dq_i_pi_j (by decide)).trans e91, dq_i_pi_s, (dq_i_pi_j (by decide)).trans e93⟩
        generalize dw_pi Y9 q2 2 (Int32.ofNat g) = Ya at Fa C ⊢
        have Va : dq_wx bf r Y Ya := dq_wx_fr V1 Fa (fun k t hk z => z.elim Or.inr (fun z => by omega)) (fun _ _ _ z => z)
        have Xa := dq_TX_fr Fa (fun t z => z.elim (fun z => hrb z.symm) (fun z => by omega)) X1
        have na := dq_wx_n Va
        exact dq_clgB (c := c + 1) (s := s + 4) (l := (κ, mm, g, d)) (by omega) (by omega) Xa hL hn C hκ (fun z => by have := m0 z; show mm < 10; omega) (fun z => by have := m1 z; show mm < 8; omega) hd (show g < 10 by omega) (by omega) (dq_is_wx Va hq) ((dq_r_wx Va hq.1).trans hA) (dq_A1_wx Va hA1) hj hm (by omega) (by omega) (fun Y' c' s' k1 k2 W' X' => hK Y' q2 (κ, mm, g, d) c' s' (by omega) (by omega) hq2 (dq_wx_wr Va W') X' ⟨hκ, hd, g3, g0, m0, m1, m2⟩ (dq_L1_wx (r := bf) (dq_wr_wx W') ⟨by omega, by omega⟩ C))
      · refine dq_if (fun z => hf _ ⟨0, rfl, by omega, fun _ => rfl, dq_fr_refl⟩) (fun z => dq_ck ⟨(key _ F8).1, by omega, by omega⟩ (dq_below (b := 3) (key _ F8).1 (by omega) (by omega) (fun g Y9 hg F9 => hf _ ⟨g, rfl, hg, fun y => absurd (ek.mp (Decidable.not_not.mp z)) y, F9⟩)))
    · have ek : dw_i Y6 q2 0 = (0 : Int32) ↔ κ = 0 := dq_eqn (k := 0) e60 hκ (by omega)
      have ek1 : dw_i Y6 q2 0 = (1 : Int32) ↔ κ = 1 := dq_eqn (k := 1) e60 hκ (by omega)
      refine dq_if (fun z => dq_ck (key _ F6).2 (dq_if (fun z1 => hf _ ⟨0, rfl, fun y => by omega, fun y => absurd (ek1.mpr y) z1, fun _ => rfl, dq_fr_refl⟩) (fun z1 => dq_ck ⟨(key _ F6).1, by omega, by omega⟩ (dq_below (key _ F6).1 (by omega) (by omega) (fun g Y9 hg F9 => hf _ ⟨g, rfl, fun y => absurd (ek.mpr y) z, fun _ => hg, fun y => absurd (ek1.mp (Decidable.not_not.mp z1)) (by omega), F9⟩))))) (fun z => dq_ck ⟨(key _ F6).1, by omega, by omega⟩ (dq_below (b := 5) (key _ F6).1 (by omega) (by omega) (fun g Y9 hg F9 => hf _ ⟨g, rfl, fun _ => hg, fun y => absurd (ek.mp (Decidable.not_not.mp z)) (by omega), fun y => absurd (ek.mp (Decidable.not_not.mp z)) (by omega), F9⟩)))
  · refine dq_if (fun z => hf _ ⟨0, by omega, rfl, F2'⟩) (fun z => dq_ck ⟨(key _ F2').1, by omega, by omega⟩ (dq_below (b := 2) (key _ F2').1 (by omega) (by omega) (fun g Y9 hg F9 => hf _ ⟨1 + g, by omega, pu_add 1 g, ext F2' F9⟩)))
end DQW
