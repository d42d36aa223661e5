/-! the law's clue, drawn and written -/
section DQX
variable {Y Y0 Y' Y'' : dw_S} {r n bf mk w h nb nc cn q q42 j m A c s : Nat} {a : Nat → Int32} {hist : Nat → Nat → Int32} {err : Int32} {T : List Nat} {l : dq_Lg}
theorem dq_lgT_len {κ m g d : Nat} (hd : d < 8) : (dq_lgT κ m g d).length ≤ 16 := by
  have e : dq_lgT κ m g d = dq_hXT κ m ++ dq_tlT d g := rfl
  have l28 : (dq_wd 28).length = 5 := by decide +kernel
  have l13 := dq_w13 ⟨d, hd⟩
  dsimp only [] at l13
  have h1 := (dq_hd_len (κ := κ) (m := m)).2.2
  have h2 : (dq_tlT d g).length ≤ 10 := by
    unfold dq_tlT
    rw [List.length_append, List.length_append]
    split
    · rw [List.length_append, l28]
      show 1 + _ + (5 + 2) ≤ 10
      omega
    · show 1 + _ + 0 ≤ 10
      omega
  rw [e, List.length_append]
  omega
/-- a clue's legs -/
def dq_Ls (N0 : Nat) (Y : dw_S) (A : Nat) (ls : List dq_Lg) : Prop := ∀ t l, ls[t]? = some l → ∃ k, N0 ≤ k ∧ dw_r Y A t = some k ∧ dq_L1 Y k l
theorem dq_Ls_wx {ls : List dq_Lg} {N0 : Nat} (F : dq_wx bf r Y Y') (hb : bf < N0 ∧ r < N0) (hA : A < dw_n Y) (H : dq_Ls N0 Y A ls) : dq_Ls N0 Y' A ls := fun t l e => by
  obtain ⟨k, k1, k2, k3⟩ := H t l e
  exact ⟨k, k1, (dq_r_wx F hA).trans k2, dq_L1_wx F ⟨by omega, by omega⟩ k3⟩
theorem dq_rclue {Q : Nat × dw_S → Prop} (hr : dw_is Y r 15) (hbf : dw_is Y bf 20) (hrb : r ≠ bf) (h4 : 442 ≤ dw_n Y) (hmk : 1 ≤ mk ∧ mk ≤ 3) (X : dq_TX bf w h nb nc a cn hist err T Y) (hL : T.length < 370) (hn : 1000 < n) (hQ : ∀ q s A fst i ls Y', dw_n Y ≤ q → dw_n Y ≤ s → dw_n Y ≤ A → 1 ≤ i → i ≤ 2 → i ≤ mk → fst < mk → ls.length ≤ 3 → (∀ l ∈ ls, dq_lgG mk l) → dq_wx bf r Y Y' → dq_TX bf w h nb nc a cn hist err (T ++ ((dq_wd 22 ++ dq_stX fst mk i) ++ dq_lgsT ls ++ [59])) Y' → dq_C1 Y' q s i (fun j => Int32.ofNat ((fst + j) % mk)) → dw_r Y' q 1 = some A → dq_A1 Y' A 23 ls.length → dq_Ls (dw_n Y) Y' A ls → Q (q, Y')) : dw_P_L_randomClue n bf r (Int32.ofNat mk) Y Q := by
  have hb0 := hbf.1
  have hr0 := hr.1
  refine dq_clstarts hr hbf hrb h4 hmk X (by omega) hn (fun Y1 q s fst i c sl hq hs h1 h2 h3 hf W1 X1 C1 hc hsl => ?_)
  have l22 : (dq_wd 22).length = 5 := by decide +kernel
  have hst := dq_stX_len (fst := fst) (mk := mk) h2
  have hl1 : (T ++ (dq_wd 22 ++ dq_stX fst mk i)).length ≤ T.length + 11 := by rw [List.length_append, List.length_append, l22]; omega
  unfold dq_legs
  refine dq_ck ⟨dq_is_wx W1 hr, by omega, by omega⟩ (dq_below (b := 4) (dq_is_wx W1 hr) (by omega) (by omega) (fun m Y2 hm F2 => ?_))
  dsimp only []
  rw [pu_n (show m < 2147483648 by omega)]
  have V12 : dq_wx bf r Y1 Y2 := dq_wx_fr dq_wx_refl F2 (fun k j hk z => Or.inr z) (fun _ _ _ z => z)
  have W2 := dq_wx_tr W1 V12
  have X2 := dq_TX_fr F2 (fun j (z : bf = r) => hrb z.symm) X1
  have C2 := dq_C1_wx V12 ⟨by omega, by omega⟩ ⟨by omega, by omega⟩ C1
  have n2 := dq_wx_n W2
  refine dq_ck ⟨⟨pu_nn (by omega), by omega⟩, by omega, by omega⟩ (fun A hA => dq_lt ?_)
  have F3 : dq_fr dq_no dq_no Y2 (dw_nw Y2 A 23 m (fun _ => 0) (fun _ => none)) := dq_fr_nw dq_fr_refl hA
  have A3 : dq_A1 (dw_nw Y2 A 23 m (fun _ => 0) (fun _ => none)) A 23 m := dq_A1_new (by omega) hA
  have W3 := dq_wx_fr W2 F3 (fun _ _ _ z => absurd z id) (fun _ _ _ z => z)
  have V3 : dq_wx bf r Y2 (dw_nw Y2 A 23 m (fun _ => 0) (fun _ => none)) := dq_wx_fr dq_wx_refl F3 (fun _ _ _ z => absurd z id) (fun _ _ _ z => z)
  have X3 := dq_TX_fr F3 (fun _ z => z) X2
  have C3 := dq_C1_wx V3 ⟨by omega, by omega⟩ ⟨by omega, by omega⟩ C2
  have hqA : q ≠ A := by have := C2.1.1; omega
  generalize dw_nw Y2 A 23 m (fun _ => 0) (fun _ => none) = Y3 at F3 A3 W3 V3 X3 C3 ⊢
  refine dq_ck C3.1 (dq_lt (dq_lt ?_))
  have F4 : dq_fr dq_no (fun k j => k = q ∧ j = 1) Y3 (dw_pr Y3 q 1 (some A)) := dq_fr_pr dq_fr_refl (fun _ => ⟨rfl, rfl⟩)
  have W4 := dq_wx_fr W3 F4 (fun _ _ _ z => absurd z id) (fun k j hk z => by omega)
  have X4 := dq_TX_fr F4 (fun _ z => z) X3
  have A4 := dq_A1_fr F4 A3
  have C4 : dq_C1 (dw_pr Y3 q 1 (some A)) q s i (fun j => Int32.ofNat ((fst + j) % mk)) := by
    obtain ⟨c1, c2, c3, c4, c5⟩ := C3
    exact ⟨dq_is_fr F4 c1, (dq_r_pr_j (by decide)).trans c2, dq_A1_fr F4 c3, c4, c5⟩
  have R4 : dw_r (dw_pr Y3 q 1 (some A)) q 1 = some A := dq_r_pr_s
  generalize dw_pr Y3 q 1 (some A) = Y4 at F4 W4 X4 A4 C4 R4 ⊢
  refine dq_for m (fun j v => v.1 = Int32.ofNat j ∧ v.2.2.1 ≤ 14 + 10 * j ∧ v.2.2.2 ≤ 134 + 117 * j ∧ ∃ ls : List dq_Lg, ls.length = j ∧ (dq_lgsT ls).length ≤ 16 * j ∧ (∀ l ∈ ls, dq_lgG mk l) ∧ dq_wx bf r Y v.2.1 ∧ dq_TX bf w h nb nc a cn hist err ((T ++ (dq_wd 22 ++ dq_stX fst mk i)) ++ dq_lgsT ls) v.2.1 ∧ dq_C1 v.2.1 q s i (fun j => Int32.ofNat ((fst + j) % mk)) ∧ dw_r v.2.1 q 1 = some A ∧ dq_A1 v.2.1 A 23 m ∧ dq_Ls (dw_n Y) v.2.1 A ls) (fun k j v hj hv hk => ?_) (fun k v hv => ?_) (by omega) ⟨rfl, ?_, ?_, [], rfl, Nat.zero_le _, fun l z => absurd z List.not_mem_nil, W4, by rw [show dq_lgsT [] = [] from rfl, List.append_nil]; exact X4, C4, R4, A4, fun t l z => by rw [List.getElem?_nil] at z; cases z⟩
  all_goals try (obtain ⟨v1, Yv, cc, ss⟩ := v; obtain ⟨ev, g1, g2, ls, hll, hlt, hgd, Wv, Xv, Cv, Rv, Av, Lv⟩ := hv; dsimp only [] at ev g1 g2 Wv Xv Cv Rv Av Lv; dsimp only []; subst ev; refine dq_ck Cv.1 (dq_nn Rv (dq_ck Av.1 ?_)); rw [Av.2])
  · refine dq_iff (by rw [pu_le (by omega) (by omega)]; omega) ?_
    have nv := dq_wx_n Wv
    have hAv := Av.1.1
    have hqv := Cv.1.1
    have hL2 : ((T ++ (dq_wd 22 ++ dq_stX fst mk i)) ++ dq_lgsT ls).length < 440 := by rw [List.length_append]; omega
    refine dq_clgA (mk := mk) (j := j) (dq_is_wx Wv hr) hrb (by omega) (by omega) hmk Xv hL2 hn Cv.1 Rv Av hj (by omega) (by omega) (by omega) (fun Y' q2 l c' s' k1 k2 hq2 V' X' G' L' => hk _ ⟨rfl, by show c' ≤ _; omega, by show s' ≤ _; omega, ls ++ [l], ?_, ?_, ?_, ?_, ?_, ?_, ?_, ?_, ?_⟩)
    all_goals
      have Fp : dq_fr dq_no (fun k t => k = A ∧ t = j) Y' (dw_pr Y' A j (some q2)) := dq_fr_pr dq_fr_refl (fun _ => ⟨rfl, rfl⟩)
    · rw [List.length_append, hll]; rfl
    · rw [dq_lgsT_snoc, List.length_append]
      have := dq_lgT_len (κ := l.1) (m := l.2.1) (g := l.2.2.1) G'.2.1
      omega
    · intro x hx
      rcases List.mem_append.mp hx with z | z
      · exact hgd x z
      · rw [List.mem_singleton.mp z]; exact G'
    · exact dq_wx_fr (dq_wx_tr Wv V') Fp (fun _ _ _ z => absurd z id) (fun k t hk z => by omega)
    · rw [dq_lgsT_snoc, ← List.append_assoc]
      exact dq_TX_fr Fp (fun _ z => z) X'
    · obtain ⟨c1, c2, c3, c4, c5⟩ := dq_C1_wx V' ⟨by omega, by omega⟩ ⟨by omega, by omega⟩ Cv
      exact ⟨dq_is_fr Fp c1, (dq_r_pr_k hqA).trans c2, dq_A1_fr Fp c3, c4, c5⟩
    · exact (dq_r_pr_k hqA).trans ((dq_r_wx V' hqv).trans Rv)
    · exact dq_A1_fr Fp (dq_A1_wx V' Av)
    · intro t x hx
      have L2 := dq_Ls_wx V' ⟨hb0, hr0⟩ hAv Lv
      have fl : ∀ {k x}, dq_L1 Y' k x → dq_L1 (dw_pr Y' A j (some q2)) k x := fun z => ⟨dq_is_fr Fp z.1, z.2⟩
      rw [List.getElem?_append] at hx
      by_cases e : t < ls.length
      · rw [if_pos e] at hx
        obtain ⟨k, k1, k2, k3⟩ := L2 t x hx
        exact ⟨k, k1, (dq_r_pr_j (by omega)).trans k2, fl k3⟩
      · rw [if_neg e] at hx
        have e2 : t - ls.length = 0 := by
          cases hh : t - ls.length with
          | zero => rfl
          | succ y => rw [hh] at hx; cases hx
        rw [e2] at hx
        have ex : l = x := by cases hx; rfl
        have et : t = j := by omega
        rw [← ex, et]
        exact ⟨q2, by omega, dq_r_pr_s, fl L'⟩
  · have l29 : dq_wd 29 = [59] := by decide +kernel
    refine dq_ift ((pu_le (by omega) (by omega)).mpr (Nat.le_refl _)) (dq_ck ⟨by omega, by omega⟩ (dq_write (by decide) Xv (by rw [List.length_append]; omega) hn (fun Y5 F5 X5 => dq_ck ⟨by omega, by omega⟩ ?_)))
    rw [l29] at X5
    have V5 : dq_wx bf r Yv Y5 := dq_wr_wx F5
    have nv := dq_wx_n Wv
    refine hQ q s A fst i ls Y5 hq hs (by omega) h1 h2 h3 hf (by omega) hgd (dq_wx_tr Wv V5) ?_ (dq_C1_wx V5 ⟨by omega, by omega⟩ ⟨by omega, by omega⟩ Cv) ((dq_r_wx V5 Cv.1.1).trans Rv) (by rw [hll]; exact dq_A1_wx V5 Av) (dq_Ls_wx V5 ⟨hb0, hr0⟩ Av.1.1 Lv)
    have e : T ++ ((dq_wd 22 ++ dq_stX fst mk i) ++ dq_lgsT ls ++ [59]) = ((T ++ (dq_wd 22 ++ dq_stX fst mk i)) ++ dq_lgsT ls) ++ [59] := by simp only [List.append_assoc]
    rw [e]
    exact X5
  · show c + 1 ≤ _; omega
  · show sl + m ≤ _; omega
end DQX
