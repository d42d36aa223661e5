/-! neighbours are so both ways -/
theorem pu_exy4 {b : Nat} (hb : b < 8) : pu_ex b + pu_ex ((b + 4) % 8) = 2 ∧ pu_sy b + pu_sy ((b + 4) % 8) = 2 := of_decide_eq_true (tw_rng (n := 8) (p := fun b => decide (pu_ex b + pu_ex ((b + 4) % 8) = 2 ∧ pu_sy b + pu_sy ((b + 4) % 8) = 2)) (by decide +kernel) b hb)
theorem pu_gnb_sym {w h c c' b : Nat} (hc : c < w * h) (hb : b < 8) (hn : pu_gnb w h c b = some c') : pu_gnb w h c' ((b + 4) % 8) = some c := by
  obtain ⟨w0, x1, x2, x3⟩ := pu_cell hc
  obtain ⟨e1, e2⟩ := pu_exy4 hb
  unfold pu_gnb at hn
  by_cases hq : 1 ≤ c % w + pu_ex b ∧ c % w + pu_ex b ≤ w ∧ 1 ≤ c / w + pu_sy b ∧ c / w + pu_sy b ≤ h
  · rw [if_pos hq] at hn
    have hn := Option.some.inj hn
    obtain ⟨d1, d2⟩ := pu_dm (w := w) (q := c / w + pu_sy b - 1) (r := c % w + pu_ex b - 1) (by omega)
    rw [hn] at d1 d2
    unfold pu_gnb
    have A : ∀ X p q m : Nat, X < m → p + q = 2 → 1 ≤ X + p → (1 ≤ X + p - 1 + q ∧ X + p - 1 + q ≤ m) ∧ X + p - 1 + q - 1 = X := fun X p q m z1 z2 z3 => by omega
    obtain ⟨⟨s1, s2⟩, s3⟩ := A _ _ _ h x1 e2 hq.2.2.1
    obtain ⟨⟨t1, t2⟩, t3⟩ := A _ _ _ w x2 e1 hq.1
    rw [d1, d2, if_pos ⟨t1, t2, s1, s2⟩, s3, t3, ← x3]
  · rw [if_neg hq] at hn
    cases hn
theorem pu_nbr_sym {g : Nat → Bool} {w h c c' b : Nat} (hc : c < w * h) (hb : b < 8) (hg : g c = true) (hn : pu_nbr g w h c b = some c') : pu_nbr g w h c' ((b + 4) % 8) = some c := by
  have h1 := pu_gnb_sym hc hb (pu_nbr_some hn).1
  unfold pu_nbr
  rw [h1]
  exact if_pos hg
theorem pu_rch_trans {g : Nat → Bool} {w h x y z : Nat} (h1 : pu_rch g w h x y) (h2 : pu_rch g w h y z) : pu_rch g w h x z := h2 (fun u => pu_rch g w h x u) h1 (fun _ _ _ a b c => pu_rch_step a b c)
theorem pu_rch_sym {g : Nat → Bool} {w h s x : Nat} (hw : w ≤ 20) (hh : h ≤ 20) (hs : s < w * h) (hg : g s = true) (hr : pu_rch g w h s x) : g x = true ∧ x < w * h ∧ pu_rch g w h x s := by
  refine hr (fun y => g y = true ∧ y < w * h ∧ pu_rch g w h y s) ⟨hg, hs, pu_rch_refl⟩ (fun c c' b hP hb hn => ?_)
  obtain ⟨p1, p2, p3⟩ := hP
  exact ⟨(pu_nbr_some hn).2, pu_nbr_lt hw hh p2 hb hn, pu_rch_trans (pu_rch_step pu_rch_refl (Nat.mod_lt _ (by decide)) (pu_nbr_sym p2 hb p1 hn)) p3⟩
