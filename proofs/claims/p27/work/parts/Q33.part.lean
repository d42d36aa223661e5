/-! an island of the law in the making: NB bends and NC clues are promised, nb and nc of them are there -/
def dq_P (Y : dw_S) (th : Nat) (ι : Nat → Nat) (a : Nat → Int32) (w h NB nb NC nc : Nat) : Prop := dw_is Y th 13 ∧ dq_If Y th a w h ∧ dq_Ir Y th ι ∧ dq_Im Y ι a (w * h) ∧ (dq_A1 Y (ι 3) 26 NB ∧ ∀ k, k < nb → dw_r Y (ι 3) k = some (ι (10 + k)) ∧ dq_A1 Y (ι (10 + k)) 20 5 ∧ ∀ j, j < 5 → dw_i Y (ι (10 + k)) j = a (816 + 5 * k + j)) ∧ (dq_A1 Y (ι 4) 24 NC ∧ ∀ q, q < nc → dq_Iq Y ι a q) ∧ dq_In Y ι nb nc
theorem dq_P_I {Y : dw_S} {th : Nat} {ι : Nat → Nat} {a : Nat → Int32} {w h nb nc : Nat} (H : dq_P Y th ι a w h nb nb nc nc) : dq_I Y th ι a w h nb nc := H
section DQP
variable {Y Y' : dw_S} {th : Nat} {ι : Nat → Nat} {a a' : Nat → Int32} {w h NB nb NC nc n c b bf r : Nat}
theorem dq_P_fr {Si Sr : Nat → Nat → Prop} (F : dq_fr Si Sr Y Y') (I : dq_P Y th ι a w h NB nb NC nc) (h1 : ∀ j, ¬ Si th j) (h2 : ∀ j, j ≠ 11 → ¬ Sr th j) (h3 : ∀ k j, dq_has ι a nb nc k → ¬ Si k j ∧ ¬ Sr k j) : dq_P Y' th ι a w h NB nb NC nc := by
  obtain ⟨Is, ⟨f0, f1, f2, f3, f4, f5⟩, ⟨r0, r1, r2, r3, r4, r5⟩, ⟨⟨m1, m2⟩, ⟨m3, m4⟩, m5, m6⟩, ⟨b1, b2⟩, ⟨c1, c2⟩, n1, n2⟩ := I
  have F4 := F.2.2.2.1
  have F5 := F.2.2.2.2
  have ei : ∀ j, dw_i Y' th j = dw_i Y th j := fun j => F4 th j Is.1 (h1 j)
  have er : ∀ j, j ≠ 11 → dw_r Y' th j = dw_r Y th j := fun j hj => F5 th j Is.1 (h2 j hj)
  have gi : ∀ k j, dq_has ι a nb nc k → k < dw_n Y → dw_i Y' k j = dw_i Y k j := fun k j z hk => F4 k j hk (h3 k j z).1
  have gr : ∀ k j, dq_has ι a nb nc k → k < dw_n Y → dw_r Y' k j = dw_r Y k j := fun k j z hk => F5 k j hk (h3 k j z).2
  refine ⟨dq_is_fr F Is, ⟨?_, ?_, ?_, ?_, ?_, fun z => ?_⟩, ⟨?_, ?_, ?_, ?_, ?_, ?_⟩, ⟨⟨dq_A1_fr F m1, fun c hc => ?_⟩, ⟨dq_A1_fr F m3, fun c hc => ?_⟩, dq_A1_fr F m5, fun k hk => ?_⟩, ⟨dq_A1_fr F b1, fun k hk => ?_⟩, ⟨dq_A1_fr F c1, fun q hq => ?_⟩, dq_A1_fr F n1, n2⟩
  · rw [ei]; exact f0
  · rw [ei]; exact f1
  · rw [ei]; exact f2
  · rw [ei]; exact f3
  · rw [ei]; exact f4
  · rw [ei]; exact f5 z
  · rw [er _ (by decide)]; exact r0
  · rw [er _ (by decide)]; exact r1
  · rw [er _ (by decide)]; exact r2
  · rw [er _ (by decide)]; exact r3
  · rw [er _ (by decide)]; exact r4
  · rw [er _ (by decide)]; exact r5
  · rw [gi _ _ (Or.inl rfl) m1.1.1]; exact m2 c hc
  · rw [gi _ _ (Or.inr (Or.inl rfl)) m3.1.1]; exact m4 c hc
  · rw [gi _ _ (Or.inr (Or.inr (Or.inl rfl))) m5.1.1]; exact m6 k hk
  · obtain ⟨d1, d2, d3⟩ := b2 k hk
    refine ⟨?_, dq_A1_fr F d2, fun j hj => ?_⟩
    · rw [gr _ _ (Or.inr (Or.inr (Or.inr (Or.inl rfl)))) b1.1.1]; exact d1
    · rw [gi _ _ (Or.inr (Or.inr (Or.inr (Or.inr (Or.inr (Or.inl ⟨k, hk, rfl⟩)))))) d2.1.1]; exact d3 j hj
  · obtain ⟨⟨d1, d2, d3, d4, d5⟩, ⟨d6, d7⟩, d8, d9⟩ := c2 q hq
    have hq' : ∀ k, (k = ι (20 + q) ∨ k = ι (30 + q) ∨ k = ι (40 + q) ∨ ∃ l, l < pu_nl a q ∧ k = ι (50 + 8 * q + l)) → dq_has ι a nb nc k := fun k z => Or.inr (Or.inr (Or.inr (Or.inr (Or.inr (Or.inr ⟨q, hq, z⟩)))))
    refine ⟨⟨?_, dq_is_fr F d2, ?_, ?_, ?_⟩, ⟨dq_A1_fr F d6, fun k hk => ?_⟩, dq_A1_fr F d8, fun l hl => ?_⟩
    · rw [gr _ _ (Or.inr (Or.inr (Or.inr (Or.inr (Or.inl rfl))))) c1.1.1]; exact d1
    · rw [gi _ _ (hq' _ (Or.inl rfl)) d2.1]; exact d3
    · rw [gr _ _ (hq' _ (Or.inl rfl)) d2.1]; exact d4
    · rw [gr _ _ (hq' _ (Or.inl rfl)) d2.1]; exact d5
    · rw [gi _ _ (hq' _ (Or.inr (Or.inl rfl))) d6.1.1]; exact d7 k hk
    · obtain ⟨e1, e2, e3⟩ := d9 l hl
      refine ⟨?_, dq_is_fr F e2, fun j hj => ?_⟩
      · rw [gr _ _ (hq' _ (Or.inr (Or.inr (Or.inl rfl)))) d8.1.1]; exact e1
      · rw [gi _ _ (hq' _ (Or.inr (Or.inr (Or.inr ⟨l, hl, rfl⟩)))) e2.1]; exact e3 j hj
theorem dq_P_wx (F : dq_wx bf r Y Y') (I : dq_P Y th ι a w h NB nb NC nc) (h1 : th ≠ bf ∧ th ≠ r) (h3 : ∀ k, dq_has ι a nb nc k → k ≠ bf ∧ k ≠ r) : dq_P Y' th ι a w h NB nb NC nc := (dq_P_fr F I (fun j z => z.elim h1.1 h1.2) (fun _ _ z => z) (fun k j hk => ⟨fun z => z.elim (h3 k hk).1 (h3 k hk).2, fun z => z⟩) : dq_P (dw_cs Y' (dw_s Y)) th ι a w h NB nb NC nc)
/-- another row that says the same of what is there -/
theorem dq_P_row (I : dq_P Y th ι a w h NB nb NC nc) (hm : w * h ≤ 400) (hc : ∀ q, q < nc → pu_ns a q ≤ 8 ∧ pu_nl a q ≤ 8) (hg : ∀ j, 4 ≤ j → (j < 816 + 5 * nb ∨ (856 ≤ j ∧ j < 856 + 43 * nc)) → a' j = a j) : dq_P Y th ι a' w h NB nb NC nc := by
  obtain ⟨Is, ⟨f0, f1, f2, f3, f4, f5⟩, Ir, ⟨⟨m1, m2⟩, ⟨m3, m4⟩, m5, m6⟩, ⟨b1, b2⟩, ⟨c1, c2⟩, n1⟩ := I
  refine ⟨Is, ⟨f0, f1, ?_, ?_, ?_, fun z => ?_⟩, Ir, ⟨⟨m1, fun c hc => ?_⟩, ⟨m3, fun c hc => ?_⟩, m5, fun k hk => ?_⟩, ⟨b1, fun k hk => ?_⟩, ⟨c1, fun q hq => ?_⟩, n1⟩
  · rw [hg 4 (by omega) (Or.inl (by omega))]; exact f2
  · rw [hg 5 (by omega) (Or.inl (by omega))]; exact f3
  · rw [hg 6 (by omega) (Or.inl (by omega))]; exact f4
  · rw [hg 6 (by omega) (Or.inl (by omega))] at z
    rw [hg 7 (by omega) (Or.inl (by omega))]; exact f5 z
  · rw [hg _ (by omega) (Or.inl (by omega))]; exact m2 c hc
  · rw [hg _ (by omega) (Or.inl (by omega))]; exact m4 c hc
  · rw [hg _ (by omega) (Or.inl (by omega))]; exact m6 k hk
  · obtain ⟨d1, d2, d3⟩ := b2 k hk
    exact ⟨d1, d2, fun j hj => by rw [hg _ (by omega) (Or.inl (by omega))]; exact d3 j hj⟩
  · obtain ⟨⟨d1, d2, d3, d4, d5⟩, ⟨d6, d7⟩, d8, d9⟩ := c2 q hq
    obtain ⟨k1, k2⟩ := hc q hq
    have hcl : pu_cl q = 856 + 43 * q := rfl
    have es : pu_ns a' q = pu_ns a q := by unfold pu_ns pu_v; rw [hg _ (by omega) (Or.inr ⟨by omega, by omega⟩)]
    have el : pu_nl a' q = pu_nl a q := by unfold pu_nl pu_v; rw [hg _ (by omega) (Or.inr ⟨by omega, by omega⟩)]
    refine ⟨⟨d1, d2, ?_, d4, d5⟩, ⟨by rw [es]; exact d6, fun k hk => ?_⟩, by rw [el]; exact d8, fun l hl => ?_⟩
    · rw [hg _ (by omega) (Or.inr ⟨by omega, by omega⟩)]; exact d3
    · rw [es] at hk
      rw [hg _ (by omega) (Or.inr ⟨by omega, by omega⟩)]; exact d7 k hk
    · rw [el] at hl
      obtain ⟨e1, e2, e3⟩ := d9 l hl
      refine ⟨e1, e2, fun j hj => ?_⟩
      have hlg : pu_lg q l = 856 + 43 * q + 11 + 4 * l := rfl
      rw [hg _ (by omega) (Or.inr ⟨by omega, by omega⟩)]; exact e3 j hj
end DQP
