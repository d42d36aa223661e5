/-! a clue is put into an island in the making -/
section DQZ
variable {Y Yb Y' : dw_S} {th : Nat} {ι : Nat → Nat} {a a' V : Nat → Int32} {w h NB nb NC nc n c b bf r q s A i N0 : Nat} {ls : List dq_Lg}
theorem dq_P_clue (I : dq_P Yb th ι a w h NB nb NC nc) (hm : w * h ≤ 400) (hc : ∀ q, q < nc → pu_ns a q ≤ 8 ∧ pu_nl a q ≤ 8) (hnb : nb ≤ 2) (hnc : nc < NC) (hNC : NC ≤ 3) (h1 : th ≠ bf ∧ th ≠ r) (h3 : ∀ k, dq_has ι a nb nc k → k ≠ bf ∧ k ≠ r) (W : dq_wx bf r Yb Y) (hq : dw_n Yb ≤ q) (hs : dw_n Yb ≤ s) (C : dq_C1 Y q s i V) (RA : dw_r Y q 1 = some A) (A1 : dq_A1 Y A 23 ls.length) (Ls : dq_Ls N0 Y A ls) (hg : ∀ j, 4 ≤ j → j < 856 + 43 * nc → a' j = a j) (g0 : a' (pu_cl nc) = 1) (g1 : pu_ns a' nc = i) (g2 : ∀ k, k < i → a' (pu_cl nc + 3 + k) = V k) (g3 : pu_nl a' nc = ls.length) (hls : ls.length ≤ 8) (g4 : ∀ k l, ls[k]? = some l → a' (pu_lg nc k) = Int32.ofNat l.1 ∧ a' (pu_lg nc k + 1) = Int32.ofNat l.2.1 ∧ a' (pu_lg nc k + 2) = Int32.ofNat l.2.2.1 ∧ a' (pu_lg nc k + 3) = Int32.ofNat l.2.2.2) : ∃ ι', dq_P (dw_pr Y (ι 4) nc (some q)) th ι' a' w h NB nb NC (nc + 1) ∧ (∀ k, dq_has ι' a' nb (nc + 1) k → dq_has ι a nb nc k ∨ k = q ∨ k = s ∨ k = A ∨ N0 ≤ k) ∧ ∀ j, j < 20 → ι' j = ι j := by
  have Ir := dq_P_row (a' := a') (dq_P_wx W I h1 h3) hm hc (fun j hj z => hg j hj (by omega))
  have hid : dq_In Yb ι nb nc := I.2.2.2.2.2.2
  have I2 := I.2.2.2.2
  -- the legs' ids
  have hK : ∃ K : Nat → Nat, ∀ t l, ls[t]? = some l → N0 ≤ K t ∧ dw_r Y A t = some (K t) ∧ dq_L1 Y (K t) l := by
    refine ⟨fun t => (dw_r Y A t).getD 0, fun t l e => ?_⟩
    obtain ⟨k, k1, k2, k3⟩ := Ls t l e
    have : (dw_r Y A t).getD 0 = k := by rw [k2]; rfl
    show N0 ≤ (dw_r Y A t).getD 0 ∧ dw_r Y A t = some ((dw_r Y A t).getD 0) ∧ dq_L1 Y ((dw_r Y A t).getD 0) l
    rw [this]
    exact ⟨k1, k2, k3⟩
  obtain ⟨K, hK⟩ := hK
  let ι' : Nat → Nat := fun j => if j = 20 + nc then q else if j = 30 + nc then s else if j = 40 + nc then A else if 50 + 8 * nc ≤ j then K (j - (50 + 8 * nc)) else ι j
  have e1 : ι' (20 + nc) = q := if_pos rfl
  have e2 : ι' (30 + nc) = s := by show (if _ then _ else _) = _; rw [if_neg (by omega), if_pos rfl]
  have e3 : ι' (40 + nc) = A := by show (if _ then _ else _) = _; rw [if_neg (by omega), if_neg (by omega), if_pos rfl]
  have e4 : ∀ l, ι' (50 + 8 * nc + l) = K l := fun l => by
    show (if _ then _ else _) = _
    rw [if_neg (by omega), if_neg (by omega), if_neg (by omega), if_pos (by omega)]
    congr 1
    omega
  have e5 : ∀ j, j < 50 + 8 * nc → j ≠ 20 + nc → j ≠ 30 + nc → j ≠ 40 + nc → ι' j = ι j := fun j z0 z1 z2 z3 => by
    show (if _ then _ else _) = _
    rw [if_neg z1, if_neg z2, if_neg z3, if_neg (by omega)]
  have e6 : ∀ j, j < 20 → ι' j = ι j := fun j z => e5 j (by omega) (by omega) (by omega) (by omega)
  generalize ι' = κ at e1 e2 e3 e4 e5 e6
  obtain ⟨Is, If, ⟨r0, r1, r2, r3, r4, r5⟩, ⟨⟨m1, m2⟩, ⟨m3, m4⟩, m5, m6⟩, ⟨b1, b2⟩, ⟨c1, c2⟩, ⟨n1, n2, n3, n4, d1, d2, d3⟩⟩ := Ir
  obtain ⟨k1, k2, k3, k4, k5⟩ := C
  have F : dq_fr dq_no (fun k t => k = ι 4 ∧ t = nc) Y (dw_pr Y (ι 4) nc (some q)) := dq_fr_pr dq_fr_refl (fun _ => ⟨rfl, rfl⟩)
  have x13 : th ≠ ι 4 := dq_is_ne Is c1.1 (by decide)
  have x3 : ι 3 ≠ ι 4 := dq_is_ne b1.1 c1.1 (by decide)
  have xq : q ≠ ι 4 := dq_is_ne k1 c1.1 (by decide)
  have xA : A ≠ ι 4 := dq_is_ne A1.1 c1.1 (by decide)
  have hY := dq_wx_n W
  have lt5 : ι 5 < dw_n Yb := hid.1.1.1
  refine ⟨κ, ⟨dq_is_fr F Is, If, ⟨?_, ?_, ?_, ?_, ?_, ?_⟩, ⟨?_, ?_, ?_⟩, ⟨?_, fun k hk => ?_⟩, ⟨?_, fun p hp => ?_⟩, ?_⟩, ?_, e6⟩
  · rw [dq_r_pr_k x13, e6 0 (by omega)]; exact r0
  · rw [dq_r_pr_k x13, e6 1 (by omega)]; exact r1
  · rw [dq_r_pr_k x13, e6 2 (by omega)]; exact r2
  · rw [dq_r_pr_k x13, e6 3 (by omega)]; exact r3
  · rw [dq_r_pr_k x13, e6 4 (by omega)]; exact r4
  · rw [dq_r_pr_k x13, e6 5 (by omega)]; exact r5
  · rw [e6 0 (by omega)]; exact ⟨dq_A1_fr F m1, m2⟩
  · rw [e6 1 (by omega)]; exact ⟨dq_A1_fr F m3, m4⟩
  · rw [e6 2 (by omega)]; exact ⟨dq_A1_fr F m5, m6⟩
  · rw [e6 3 (by omega)]; exact dq_A1_fr F b1
  · rw [e6 3 (by omega), e6 (10 + k) (by omega), dq_r_pr_k x3]
    obtain ⟨z1, z2, z3⟩ := b2 k hk
    exact ⟨z1, dq_A1_fr F z2, z3⟩
  · rw [e6 4 (by omega)]; exact dq_A1_fr F c1
  · by_cases ep : p = nc
    · subst ep
      refine ⟨⟨?_, ?_, ?_, ?_, ?_⟩, ⟨?_, fun k hk => ?_⟩, ?_, fun l hl => ?_⟩
      · rw [e6 4 (by omega), e1]; exact dq_r_pr_s
      · rw [e1]; exact dq_is_fr F k1
      · rw [e1, g0]; exact k5
      · rw [e1, e2, dq_r_pr_k xq]; exact k2
      · rw [e1, e3, dq_r_pr_k xq]; exact RA
      · rw [e2, g1]; exact dq_A1_fr F k3
      · rw [g1] at hk
        rw [e2, g2 k hk]; exact k4 k hk
      · rw [e3, g3]; exact dq_A1_fr F A1
      · rw [g3] at hl
        have hx : ls[l]? = some ls[l] := List.getElem?_eq_getElem hl
        obtain ⟨y1, y2, y3⟩ := hK l _ hx
        obtain ⟨u0, u1, u2, u3⟩ := g4 l _ hx
        refine ⟨?_, ?_, fun j hj => ?_⟩
        · rw [e3, e4, dq_r_pr_k xA]; exact y2
        · rw [e4]; exact dq_is_fr F y3.1
        · rw [e4]
          have hcj : j = 0 ∨ j = 1 ∨ j = 2 ∨ j = 3 := by omega
          rcases hcj with z | z | z | z <;> subst z
          · exact y3.2.1.trans u0.symm
          · exact y3.2.2.1.trans u1.symm
          · exact y3.2.2.2.1.trans u2.symm
          · exact y3.2.2.2.2.trans u3.symm
    · have hp2 : p < nc := by omega
      obtain ⟨⟨w1, w2, w3, w4, w5⟩, ⟨w6, w7⟩, w8, w9⟩ := c2 p hp2
      have xp : ι (20 + p) ≠ ι 4 := dq_is_ne w2 c1.1 (by decide)
      have xl : ι (40 + p) ≠ ι 4 := dq_is_ne w8.1 c1.1 (by decide)
      have f1 : κ (20 + p) = ι (20 + p) := e5 _ (by omega) (by omega) (by omega) (by omega)
      have f2 : κ (30 + p) = ι (30 + p) := e5 _ (by omega) (by omega) (by omega) (by omega)
      have f3 : κ (40 + p) = ι (40 + p) := e5 _ (by omega) (by omega) (by omega) (by omega)
      have hnl : pu_nl a' p ≤ 8 := by
        have := (hc p hp2).2
        unfold pu_nl pu_v at this ⊢
        rw [hg _ (by unfold pu_cl; omega) (by unfold pu_cl; omega)]; exact this
      refine ⟨⟨?_, ?_, ?_, ?_, ?_⟩, ⟨?_, fun k hk => ?_⟩, ?_, fun l hl => ?_⟩
      · rw [e6 4 (by omega), f1, dq_r_pr_j ep]; exact w1
      · rw [f1]; exact dq_is_fr F w2
      · rw [f1]; exact w3
      · rw [f1, f2, dq_r_pr_k xp]; exact w4
      · rw [f1, f3, dq_r_pr_k xp]; exact w5
      · rw [f2]; exact dq_A1_fr F w6
      · rw [f2]; exact w7 k hk
      · rw [f3]; exact dq_A1_fr F w8
      · have f4 : κ (50 + 8 * p + l) = ι (50 + 8 * p + l) := e5 _ (by omega) (by omega) (by omega) (by omega)
        obtain ⟨v1, v2, v3⟩ := w9 l hl
        refine ⟨?_, ?_, fun j hj => ?_⟩
        · rw [f3, f4, dq_r_pr_k xl]; exact v1
        · rw [f4]; exact dq_is_fr F v2
        · rw [f4]; exact v3 j hj
  · have bl : ∀ k, k < nb → ι (10 + k) < dw_n Yb := fun k hk => (I2.1.2 k hk).2.1.1.1
    have cl : ∀ p, p < nc → ι (20 + p) < dw_n Yb := fun p hp => (I2.2.1.2 p hp).1.2.1.1
    have f1 : ∀ p, p < nc → κ (20 + p) = ι (20 + p) := fun p hp => e5 _ (by omega) (by omega) (by omega) (by omega)
    have f2 : ∀ p, p < nc → κ (30 + p) = ι (30 + p) := fun p hp => e5 _ (by omega) (by omega) (by omega) (by omega)
    refine ⟨?_, ?_, fun k hk => ?_, fun p hp => ?_, ?_, fun k hk => ⟨?_, fun p hp => ?_, fun t ht hne => ?_⟩, fun p hp t ht hne => ?_⟩
    · rw [e6 5 (by omega)]; exact dq_A1_fr F n1
    · rw [e6 5 (by omega), e6 2 (by omega)]; exact n2
    · rw [e6 5 (by omega), e6 (10 + k) (by omega)]; exact n3 k hk
    · rw [e6 5 (by omega)]
      by_cases ep : p = nc
      · subst ep; rw [e2]; omega
      · rw [f2 p (by omega)]; exact n4 p (by omega)
    · rw [e6 0 (by omega), e6 1 (by omega)]; exact d1
    · rw [e6 2 (by omega), e6 (10 + k) (by omega)]; exact (d2 k hk).1
    · rw [e6 (10 + k) (by omega)]
      by_cases ep : p = nc
      · subst ep; rw [e2]; have := bl k hk; omega
      · rw [f2 p (by omega)]; exact (d2 k hk).2.1 p (by omega)
    · rw [e6 (10 + k) (by omega), e6 (10 + t) (by omega)]; exact (d2 k hk).2.2 t ht hne
    · by_cases ep : p = nc
      · subst ep
        rw [e1, f1 t (by omega)]
        have := cl t (by omega)
        omega
      · by_cases et : t = nc
        · subst et
          rw [e1, f1 p (by omega)]
          have := cl p (by omega)
          omega
        · rw [f1 p (by omega), f1 t (by omega)]; exact d3 p (by omega) t (by omega) hne
  · intro k hk
    rcases hk with z | z | z | z | z | ⟨t, ht, z⟩ | ⟨p, hp, z⟩
    · rw [e6 0 (by omega)] at z; exact Or.inl (Or.inl z)
    · rw [e6 1 (by omega)] at z; exact Or.inl (Or.inr (Or.inl z))
    · rw [e6 2 (by omega)] at z; exact Or.inl (Or.inr (Or.inr (Or.inl z)))
    · rw [e6 3 (by omega)] at z; exact Or.inl (Or.inr (Or.inr (Or.inr (Or.inl z))))
    · rw [e6 4 (by omega)] at z; exact Or.inl (Or.inr (Or.inr (Or.inr (Or.inr (Or.inl z)))))
    · rw [e6 (10 + t) (by omega)] at z; exact Or.inl (Or.inr (Or.inr (Or.inr (Or.inr (Or.inr (Or.inl ⟨t, ht, z⟩))))))
    · by_cases ep : p = nc
      · subst ep
        rw [e1, e2, e3] at z
        rcases z with z | z | z | ⟨l, hl, z⟩
        · exact Or.inr (Or.inl z)
        · exact Or.inr (Or.inr (Or.inl z))
        · exact Or.inr (Or.inr (Or.inr (Or.inl z)))
        · rw [g3] at hl
          rw [e4] at z
          rw [z]
          exact Or.inr (Or.inr (Or.inr (Or.inr (hK l _ (List.getElem?_eq_getElem hl)).1)))
      · have hp2 : p < nc := by omega
        have hnl : pu_nl a' p = pu_nl a p := by
          unfold pu_nl pu_v
          rw [hg _ (by unfold pu_cl; omega) (by unfold pu_cl; omega)]
        have f1 : κ (20 + p) = ι (20 + p) := e5 _ (by omega) (by omega) (by omega) (by omega)
        have f2 : κ (30 + p) = ι (30 + p) := e5 _ (by omega) (by omega) (by omega) (by omega)
        have f3 : κ (40 + p) = ι (40 + p) := e5 _ (by omega) (by omega) (by omega) (by omega)
        rw [f1, f2, f3] at z
        refine Or.inl (Or.inr (Or.inr (Or.inr (Or.inr (Or.inr (Or.inr ⟨p, hp2, ?_⟩))))))
        rcases z with z | z | z | ⟨l, hl, z⟩
        · exact Or.inl z
        · exact Or.inr (Or.inl z)
        · exact Or.inr (Or.inr (Or.inl z))
        · rw [hnl] at hl
          have := (hc p hp2).2
          rw [e5 _ (by omega) (by omega) (by omega) (by omega)] at z
          exact Or.inr (Or.inr (Or.inr ⟨l, hl, z⟩))
end DQZ
