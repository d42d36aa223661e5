/-! fourteen changes, then the undos -/
section DQCC
variable {Y Y' Y'' : dw_S} {fx S0 : Nat → Prop} {w h nb nc m n u i0 th r q38 d c s cn len N : Nat} {t t' : Nat → Nat} {K K' : Nat → Nat → Nat} {R R' : Nat → Nat → Int32} {κ : Nat → Nat} {a a' : Nat → Int32} {hist : Nat → Nat → Int32} {buf : Nat → Nat} {err x2 : Int32}
theorem dq_own_sh {ι : Nat → Nat} (I : dq_I Y th ι a w h nb nc) {k : Nat} (z : dq_own th ι nb nc k) : ¬ dq_sh ι a nc k := by
  obtain ⟨Is, If, Ir, ⟨⟨m1, -⟩, ⟨m3, -⟩, m5, -⟩, ⟨b1, b2⟩, ⟨c1, c2⟩, n1, n2, n3, n4, n5, n6, n7⟩ := I
  have key : ∀ kd, dw_is Y k kd → kd ≠ 21 ∧ kd ≠ 20 ∧ kd ≠ 23 ∧ kd ≠ 14 → ¬ dq_sh ι a nc k := fun kd hk hd y => by
    rcases y with y | y | ⟨q, hq, y | y | ⟨l, hl, y⟩⟩
    · exact dq_is_ne hk m1.1 hd.1 y
    · exact dq_is_ne hk m5.1 hd.2.1 y
    · exact dq_is_ne hk (c2 q hq).2.1.1.1 hd.2.1 y
    · exact dq_is_ne hk (c2 q hq).2.2.1.1 hd.2.2.1 y
    · exact dq_is_ne hk ((c2 q hq).2.2.2 l hl).2.1 hd.2.2.2 y
  have key20 : dw_is Y k 20 → k ≠ ι 2 → (∀ q, q < nc → k ≠ ι (30 + q)) → ¬ dq_sh ι a nc k := fun hk h2 h3 y => by
    rcases y with y | y | ⟨q, hq, y | y | ⟨l, hl, y⟩⟩
    · exact dq_is_ne hk m1.1 (by decide) y
    · exact h2 y
    · exact h3 q hq y
    · exact dq_is_ne hk (c2 q hq).2.2.1.1 (by decide) y
    · exact dq_is_ne hk ((c2 q hq).2.2.2 l hl).2.1 (by decide) y
  rcases z with (z | z | z | ⟨i, hi, z⟩ | ⟨q, hq, z⟩) | z | z
  · subst z; exact key 13 Is ⟨by decide, by decide, by decide, by decide⟩
  · subst z
    intro y
    rcases y with y | y | ⟨q, hq, y | y | ⟨l, hl, y⟩⟩
    · exact n5 y.symm
    · exact dq_is_ne m3.1 m5.1 (by decide) y
    · exact dq_is_ne m3.1 (c2 q hq).2.1.1.1 (by decide) y
    · exact dq_is_ne m3.1 (c2 q hq).2.2.1.1 (by decide) y
    · exact dq_is_ne m3.1 ((c2 q hq).2.2.2 l hl).2.1 (by decide) y
  · subst z; exact key20 n1.1 n2 n4
  · subst z; exact key20 (b2 i hi).2.1.1 (fun e => (n6 i hi).1 e.symm) (fun q hq e => (n6 i hi).2.1 q hq e.symm)
  · subst z; exact key 12 (c2 q hq).1.2.1 ⟨by decide, by decide, by decide, by decide⟩
  · subst z; exact key 26 b1.1 ⟨by decide, by decide, by decide, by decide⟩
  · subst z; exact key 24 c1.1 ⟨by decide, by decide, by decide, by decide⟩
theorem dq_sh_lt {ι : Nat → Nat} (I : dq_I Y th ι a w h nb nc) {k : Nat} (z : dq_sh ι a nc k) : k < dw_n Y ∧ dq_has ι a nb nc k := by
  obtain ⟨Is, If, Ir, ⟨⟨m1, -⟩, ⟨m3, -⟩, m5, -⟩, ⟨b1, b2⟩, ⟨c1, c2⟩, -⟩ := I
  rcases z with z | z | ⟨q, hq, z | z | ⟨l, hl, z⟩⟩
  · exact ⟨by rw [z]; exact m1.1.1, Or.inl z⟩
  · exact ⟨by rw [z]; exact m5.1.1, Or.inr (Or.inr (Or.inl z))⟩
  · exact ⟨by rw [z]; exact (c2 q hq).2.1.1.1.1, Or.inr (Or.inr (Or.inr (Or.inr (Or.inr (Or.inr ⟨q, hq, Or.inr (Or.inl z)⟩)))))⟩
  · exact ⟨by rw [z]; exact (c2 q hq).2.2.1.1.1, Or.inr (Or.inr (Or.inr (Or.inr (Or.inr (Or.inr ⟨q, hq, Or.inr (Or.inr (Or.inl z))⟩)))))⟩
  · exact ⟨by rw [z]; exact ((c2 q hq).2.2.2 l hl).2.1.1, Or.inr (Or.inr (Or.inr (Or.inr (Or.inr (Or.inr ⟨q, hq, Or.inr (Or.inr (Or.inr ⟨l, hl, z⟩))⟩)))))⟩
theorem dq_own_N {ι : Nat → Nat} (f : dq_fsh N ι a nb nc) (ht : N ≤ th) {k : Nat} (z : dq_own th ι nb nc k) : N ≤ k := by
  rcases z with (z | z | z | z | ⟨q, hq, z⟩) | z | z
  · omega
  · exact f.1 k (Or.inr (Or.inl z))
  · rw [z]; exact f.2
  · exact f.1 k (Or.inr (Or.inr (Or.inr (Or.inr (Or.inr (Or.inl z))))))
  · exact f.1 k (Or.inr (Or.inr (Or.inr (Or.inr (Or.inr (Or.inr ⟨q, hq, Or.inl z⟩))))))
  · exact f.1 k (Or.inr (Or.inr (Or.inr (Or.inl z))))
  · exact f.1 k (Or.inr (Or.inr (Or.inr (Or.inr (Or.inl z)))))
/-- the island that was loaded, alone -/
theorem dq_MI0 (hr : dw_is Y r 15) (hD : dq_RD w h) (hnb : nb ≤ 2) (I : dq_I Y th κ a w h nb nc) (S : dq_sm a w h nc) (J : pu_IC (dw_s Y) w h nb nc a (min (0 + 1) 8) hist 0 buf (-1)) (f : dq_fsh N κ a nb nc) (ht : N ≤ th) (hrN : r < N) (h4 : 442 ≤ dw_n Y) (hq : dw_n Y ≤ q38) : dq_MI (fun k => k = r ∨ k = q38) (dq_sh κ a nc) w h nb nc th r q38 0 (dw_nw Y q38 25 9 (fun _ => 0) (fun _ => none)) := by
  have F : dq_fr dq_no dq_no Y (dw_nw Y q38 25 9 (fun _ => 0) (fun _ => none)) := dq_fr_nw dq_fr_refl hq
  have hrl := hr.1
  have hn1 : dw_n (dw_nw Y q38 25 9 (fun _ => 0) (fun _ => none)) = q38 + 1 := rfl
  refine ⟨⟨dq_is_fr F hr, Or.inl rfl, Or.inr rfl, hD, hnb, by rw [hn1]; omega, by omega⟩, fun _ => th, fun _ => κ, fun _ => a, hist, buf, ⟨⟨fun k z => ?_, fun k z => ?_⟩, fun i hi => ⟨dq_I_no F I, S, J.1, fun k z => z, fun k z => ⟨dq_own_sh I z, ?_⟩⟩, fun i j hi hj hij => by omega⟩, rfl, J, fun j hj => absurd hj (by omega), dq_A1_new h4 hq, fun j hj v hv => ?_, fun j hj => absurd hj (by omega)⟩
  · obtain ⟨z1, z2⟩ := dq_sh_lt I z
    have := f.1 k z2
    exact ⟨fun y => by rcases y with y | y <;> omega, by rw [hn1]; omega⟩
  · rw [hn1]
    rcases z with z | z <;> omega
  · have h1 := dq_own_lt I z
    have h2 := dq_own_N f ht z
    exact fun y => by rcases y with y | y <;> omega
  · rw [dq_r_nw_s] at hv
    cases hv
theorem dq_rmi (x' x a i N b rs : Nat) (h1 : x' ≤ x + a * i) (hi : i < N) (h : x + a * N + b ≤ rs) : x' + a ≤ rs := by
  have := dq_rmk x a b i N rs hi h
  omega
theorem dq_rmj (x'' x' x a i : Nat) (h1 : x' ≤ x + a * i) (h2 : x'' ≤ x' + a) : x'' ≤ x + a * (i + 1) := by
  rw [Nat.mul_succ]; omega
theorem dq_rmo (x' x y z z2 rs : Nat) (h1 : x' ≤ x + y) (h : x + y + (z + z2) ≤ rs) : x' + z + z2 ≤ rs := by omega
theorem dq_rmp (x'' x' x y z z2 : Nat) (h1 : x' ≤ x + y) (h : x'' ≤ x' + z + z2) : x'' ≤ x + y + (z + z2) := by omega
set_option maxHeartbeats 1000000 in
theorem dq_lwC_ok {j4 : Int32 × Int32 × dw_S × Nat × Nat → Prop} (hr : dw_is Y r 15) (hD : dq_RD w h) (hnb : nb ≤ 2) (I : dq_I Y th κ a w h nb nc) (S : dq_sm a w h nc) (J : pu_IC (dw_s Y) w h nb nc a (min (0 + 1) 8) hist 0 buf (-1)) (f : dq_fsh N κ a nb nc) (ht : N ≤ th) (hrN : r < N) (h4 : 442 ≤ dw_n Y) (hn : 700000 < n) (hc : c + 1 + 1575 * 14 + (1457 * 8 + 7) ≤ dw_rc) (hs : s + 9 + 125700 * 14 + (117018 * 8 + 42) ≤ dw_rs) (hj : ∀ Y' c' s', c' ≤ c + 1 + 1575 * 14 + (1457 * 8 + 7) → s' ≤ s + 9 + 125700 * 14 + (117018 * 8 + 42) → j4 (1, x2 + (1 : Int32), Y', c', s')) : dq_lwC n r th x2 1 Y c s j4 := by
  have c1 : c + 1 ≤ dw_rc := Nat.le_trans (Nat.le_add_right _ _) (Nat.le_trans (Nat.le_add_right _ _) hc)
  have s1 : s + 9 ≤ dw_rs := Nat.le_trans (Nat.le_add_right _ _) (Nat.le_trans (Nat.le_add_right _ _) hs)
  unfold dq_lwC
  refine dq_lt (dq_ck ⟨⟨by decide, by decide⟩, c1, s1⟩ (fun q38 hq => dq_lt (dq_lt (dq_lt ?_))))
  have M0 := dq_MI0 hr hD hnb I S J f ht hrN h4 hq
  generalize dw_nw Y q38 25 9 (fun _ => 0) (fun _ => none) = Y1 at M0 ⊢
  generalize (fun k => k = r ∨ k = q38 : Nat → Prop) = fx at M0
  generalize dq_sh κ a nc = S0 at M0
  clear I S J f
  refine dq_for 14 (fun i v => v.1 = 1 ∧ (∃ d, v.2.1 = Int32.ofNat d ∧ d ≤ i ∧ dq_MI fx S0 w h nb nc th r q38 d v.2.2.2.1) ∧ v.2.2.1 = Int32.ofNat i ∧ v.2.2.2.2.1 ≤ c + 1 + 1575 * i ∧ v.2.2.2.2.2 ≤ s + 9 + 125700 * i) (fun k i v hi hv hk => ?_) (fun k v hv => ?_) (by omega) ⟨rfl, ⟨0, rfl, Nat.le_refl _, M0⟩, rfl, Nat.le_refl _, Nat.le_refl _⟩
  all_goals
    obtain ⟨v1, v2, v3, Yv, cv, sv⟩ := v
    obtain ⟨g1, ⟨d, g2, g3, Mv⟩, g4, g5, g6⟩ := hv
    dsimp only [] at g1 g2 g4 g5 g6 Mv
    subst g1 g2 g4
    dsimp only []
  · refine dq_jn (fun _ : Unit => False) (fun _ z => z.elim) (fun f _ => ?_)
    refine dq_iff (fun z => by have := (pu_le (a := 14) (b := i) (by omega) (by omega)).mp z; omega) (dq_iff (by decide) ?_)
    exact dq_lwI_ok Mv hn (by omega) (dq_rmi cv (c + 1) 1575 i 14 _ _ g5 hi hc) (dq_rmi sv (s + 9) 125700 i 14 _ _ g6 hi hs) (fun d' Y' c' s' k1 M' k2 k3 => hk _ ⟨rfl, ⟨d', rfl, by omega, M'⟩, pu_add i 1, dq_rmj c' cv (c + 1) 1575 i g5 k2, dq_rmj s' sv (s + 9) 125700 i g6 k3⟩)
  · refine dq_jn (fun _ : Unit => True) (fun _ _ => ?_) (fun f hf => dq_ift (by decide) (hf () trivial))
    exact dq_lwU_ok Mv hn g3 (dq_rmo cv (c + 1) _ _ 7 _ g5 hc) (dq_rmo sv (s + 9) _ _ 42 _ g6 hs) (fun Y' c' s' k1 k2 => hj Y' c' s' (dq_rmp c' cv (c + 1) _ _ 7 g5 k1) (dq_rmp s' sv (s + 9) _ _ 42 g6 k2))
end DQCC
