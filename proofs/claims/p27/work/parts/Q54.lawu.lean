/-! the undos; the last faults -/
section DQUN
variable {Y Y' Y'' : dw_S} {fx S0 : Nat → Prop} {w h nb nc m n u i0 th r q38 d c s cn len : Nat} {t t' : Nat → Nat} {K K' : Nat → Nat → Nat} {R R' : Nat → Nat → Int32} {κ : Nat → Nat} {a a' : Nat → Int32} {hist : Nat → Nat → Int32} {buf : Nat → Nat} {err x2 : Int32}
theorem dq_qloadX {Q : Int32 × dw_S → Prop} (J : pu_IC (dw_s Y) w h nb nc a cn hist 0 buf err) (hQ : Q ((-2000000098 : Int32), Y)) : dw_P_L_load n (1 : Int32) Y Q := by
  have e0 : (dw_s Y) 400 1 = Int32.ofNat 0 := J.2.2.2.2.1.1
  have e : tw_P_X11_load n (1 : Int32) (dw_s Y) = some (.inr "java/lang/IllegalArgumentException") := by
    unfold tw_P_X11_load tw_jn
    dsimp only []
    rw [if_neg (show ¬ (1 : Int32) < 0 by decide), e0, if_neg (show ¬ (1 : Int32) ≤ Int32.ofNat 0 by decide)]
  unfold dw_P_L_load
  rw [e]
  exact hQ
theorem dq_cellX {x y : Int32} (hx : ¬ (0 ≤ x.toInt ∧ x.toInt < w ∧ 0 ≤ y.toInt ∧ y.toInt < h)) : pu_cellOf w h x y = none := by
  unfold pu_cellOf
  rw [if_neg hx]
theorem dq_clueX {x : Int32} (hx : ¬ (0 ≤ x.toInt ∧ x.toInt < nc)) : pu_clueOf nc x = none := by
  unfold pu_clueOf
  rw [if_neg hx]
theorem dq_lwT_ok {ok : Int32} {j4 : Int32 × Int32 × dw_S × Nat × Nat → Prop} (J : pu_IC (dw_s Y) w h nb nc a cn hist 0 buf err) (hn : 1000 < n) (hok : ok = 1) (hc : c + 7 ≤ dw_rc) (hs : s + 42 ≤ dw_rs) (hj : j4 (1, x2 + (1 : Int32), Y, c + 1 + 1 + 1 + 1 + 1 + 1 + 1, s + 6 + 6 + 6 + 6 + 6 + 6 + 6)) : dq_lwT n x2 ok Y c s j4 := by
  subst hok
  unfold dq_lwT
  revert hc hs
  generalize dw_rc = rc
  generalize dw_rs = rs
  intro hc hs
  obtain ⟨-, -, w1, w2, h1, h2⟩ := id J.1.1
  have hnc : nc ≤ 4 := (dq_lens J.1).2.1
  refine dq_jn (fun a => a = ((1 : Int32), Y, c + 1 + 1 + 1 + 1 + 1 + 1 + 1, s + 6 + 6 + 6 + 6 + 6 + 6 + 6)) (fun a ha => ?_) (fun f hf => ?_)
  · subst ha
    exact dq_lt (dq_lt hj)
  refine dq_jn (fun _ => False) (fun _ z => z.elim) (fun g _ => ?_)
  refine dq_iff (by decide) (dq_ck ⟨by omega, by omega⟩ (dq_qloadX J (dq_iff (fun z => z rfl) ?_)))
  refine dq_ck ⟨by omega, by omega⟩ (dq_qpace2 (c := 0 * w + 0) J (pu_cellOf_of (i := 0) (j := 0) w2 h2 w1 h1) (dq_iff (fun z => z rfl) ?_))
  refine dq_ck ⟨by omega, by omega⟩ (dq_qpace1 J (dq_cellX (fun z => absurd z.1 (by decide))) (dq_iff (fun z => z rfl) ?_))
  refine dq_ck ⟨by omega, by omega⟩ (dq_qwalkX J hn (dq_clueX (fun z => by have := z.2; rw [show (4 : Int32).toInt = 4 by decide] at this; omega)) (dq_iff (fun z => z rfl) ?_))
  refine dq_ck ⟨by omega, by omega⟩ (dq_qstartsX J hn (dq_clueX (fun z => absurd z.1 (by decide))) (dq_iff (fun z => z rfl) ?_))
  refine dq_ck ⟨by omega, by omega⟩ (dq_qpartX J hn (dq_cellX (fun z => by have := z.2.2.2; rw [show (20 : Int32).toInt = 20 by decide] at this; omega)) (dq_iff (fun z => z rfl) ?_))
  refine dq_ck ⟨by omega, by omega⟩ (dq_qdistX J hn (dq_cellX (fun z => by have := z.2.1; rw [show (20 : Int32).toInt = 20 by decide] at this; omega)) (dq_iff (fun z => z rfl) (hf _ rfl)))
theorem dq_rmk (s a b j N rs : Nat) (hj : j < N) (h : s + a * N + b ≤ rs) : s + a * j + a ≤ rs := by
  have h1 : a * (j + 1) ≤ a * N := Nat.mul_le_mul_left a hj
  rw [Nat.mul_succ] at h1
  omega
theorem dq_rmq (s a b j N rs : Nat) (hj : j ≤ N) (h : s + a * N + b ≤ rs) : s + a * j + b ≤ rs := by
  have h1 : a * j ≤ a * N := Nat.mul_le_mul_left a hj
  omega
theorem dq_rms (s a j : Nat) : s + a * j + a = s + a * (j + 1) := by rw [Nat.mul_succ]; omega
theorem dq_WF_v (W : pu_WF a w h nb nc) : pu_v a 0 = w ∧ pu_v a 1 = h ∧ pu_v a 2 = nb ∧ pu_v a 3 = nc := by
  obtain ⟨⟨a0, a1, w1, w2, h1, h2⟩, ⟨b0, b1, -⟩, ⟨c0, c1, -⟩, -⟩ := W
  exact ⟨pu_v_of a0 (by omega), pu_v_of a1 (by omega), pu_v_of b0 (by omega), pu_v_of c0 (by omega)⟩
set_option maxHeartbeats 1000000 in
theorem dq_lwU_ok {j4 : Int32 × Int32 × dw_S × Nat × Nat → Prop} (M : dq_MI fx S0 w h nb nc th r q38 d Y) (hn : 700000 < n) (hd : d ≤ 14) (hc : c + 1457 * 8 + 7 ≤ dw_rc) (hs : s + 117018 * 8 + 42 ≤ dw_rs) (hj : ∀ Y' c' s', c' ≤ c + 1457 * 8 + 7 → s' ≤ s + 117018 * 8 + 42 → j4 (1, x2 + (1 : Int32), Y', c', s')) : dq_lwU n q38 x2 1 (Int32.ofNat d) Y c s j4 := by
  obtain ⟨Ms, t, K, R, hist, buf, H, e0, J, hh, B⟩ := M
  unfold dq_lwU
  refine dq_lt ?_
  refine dq_for (min d 8) (fun j v => v.1 = 1 ∧ v.2.1 = Int32.ofNat d ∧ v.2.2.1 = Int32.ofNat j ∧ j ≤ min d 8 ∧ v.2.2.2.2.1 = c + 1457 * j ∧ v.2.2.2.2.2 = s + 117018 * j ∧ dq_MS fx w h nb r q38 v.2.2.2.1 ∧ dq_SEP fx S0 w h nb nc (min d 8) t K R v.2.2.2.1 ∧ dq_BF v.2.2.2.1 q38 (min d 8) t ∧ pu_IC (dw_s v.2.2.2.1) w h nb nc (R j) (min (1 + d) 8 - j) hist 0 buf (-1)) (fun k j v hjm hv hk => ?_) (fun k v hv => ?_) (by omega) ⟨rfl, rfl, rfl, Nat.zero_le _, rfl, rfl, Ms, H, B, J⟩
  all_goals
    obtain ⟨v1, v2, v3, Yv, cv, sv⟩ := v
    obtain ⟨g1, g2, g3, g4, g5, g6, Mv, Hv, Bv, Jv⟩ := hv
    dsimp only [] at g1 g2 g3 g5 g6 Mv Hv Bv Jv
    subst g1 g2 g3 g5 g6
    dsimp only []
  · refine dq_jn (fun _ : Unit => False) (fun _ z => z.elim) (fun f _ => ?_)
    refine dq_iff (fun z => by have := (pu_le (a := 8) (b := j) (by omega) (by omega)).mp z; omega) (dq_iff (fun z => by have := (pu_le (a := d) (b := j) (by omega) (by omega)).mp z; omega) (dq_iff (by decide) ?_))
    have hs2 := dq_rmk s 117018 42 j 8 dw_rs (by omega) hs
    have hc2 := dq_rmk c 1457 7 j 8 dw_rc (by omega) hc
    obtain ⟨x, hx⟩ : ∃ x, min (1 + d) 8 - j = x + 1 := ⟨min (1 + d) 8 - j - 1, by omega⟩
    rw [hx] at Jv
    obtain ⟨⟨rv, s1⟩, er, hr1, Jr, -⟩ := pu_cundo Jv (n := n) (by omega)
    dsimp only [] at hr1 Jr
    subst hr1
    have ehx : hist x = R (j + 1) := by
      have := hh j hjm
      rw [show min (1 + d) 8 - 1 - j = x by omega] at this
      exact this
    rw [ehx] at Jr
    obtain ⟨p0, p1, p2, p3⟩ := dq_WF_v (Hv.2.1 (j + 1) (by omega)).2.2.1
    rw [p0, p1, p2, p3] at Jr
    refine dq_ck ⟨Nat.le_trans (Nat.le_add_right _ _) hc2, Nat.le_trans (Nat.le_add_right _ _) hs2⟩ (dq_bd er ?_)
    refine dq_jn (fun a => a.1 = 1 ∧ a.2.2.1 = c + 1457 * j + 1457 ∧ a.2.2.2 = s + 117018 * j + 117018 ∧ dq_MS fx w h nb r q38 a.2.1 ∧ dq_SEP fx S0 w h nb nc (min d 8) t K R a.2.1 ∧ dq_BF a.2.1 q38 (min d 8) t ∧ pu_IC (dw_s a.2.1) w h nb nc (R (j + 1)) x hist 0 buf (-1)) (fun a ha => ?_) (fun f2 hf2 => ?_)
    · obtain ⟨a1, Ya, ca, sa⟩ := a
      obtain ⟨g1, g2, g3, Ma, Ha, Ba, Ja⟩ := ha
      dsimp only [] at g1 g2 g3 Ma Ha Ba Ja
      subst g1 g2 g3
      refine dq_lt (dq_lt (hk _ ⟨rfl, rfl, pu_add j 1, by omega, dq_rms c 1457 j, dq_rms s 117018 j, Ma, Ha, Ba, ?_⟩))
      rw [show min (1 + d) 8 - (j + 1) = x by omega]
      exact Ja
    · refine dq_jn (fun _ => False) (fun _ z => z.elim) (fun f3 _ => ?_)
      dsimp only []
      refine dq_iff (pu_nn (by omega)) (dq_ck (dq_A1_ok Bv.1 (m := j) (by omega) (by omega)) (dq_nn (x := t (j + 1)) (by rw [pu_n (show j < 2147483648 by omega)]; exact Bv.2.2 j hjm) (dq_ck ⟨hc2, hs2⟩ ?_)))
      refine dq_ag0 (a0 := R (j + 1)) (i0 := j + 1) (Y := dw_cs Yv s1) Hv (by omega) Mv Bv Jr hn (fun Y3 H3 M3 B3 J3 => dq_iff (fun z => absurd (show (1 : Int32) = 0 from z) (by decide)) (hf2 _ ⟨rfl, rfl, rfl, M3, H3, B3, J3⟩))
  · have hend : ∀ {f : Unit → Prop}, f () → (if (8 : Int32) ≤ Int32.ofNat (min d 8) then f () else if Int32.ofNat d ≤ Int32.ofNat (min d 8) then f () else (if (1 : Int32) = 0 then f () else dq_lwUb n q38 1 (Int32.ofNat d) (Int32.ofNat (min d 8)) Yv (c + 1457 * min d 8) (s + 117018 * min d 8) k)) := fun {f} hf => dq_if (fun _ => hf) (fun z => dq_if (fun _ => hf) (fun z2 => by
      have h1 : ¬ 8 ≤ min d 8 := fun y => z ((pu_le (a := 8) (b := min d 8) (by omega) (by omega)).mpr y)
      have h2 : ¬ d ≤ min d 8 := fun y => z2 ((pu_le (a := d) (b := min d 8) (by omega) (by omega)).mpr y)
      omega))
    refine dq_jn (fun _ : Unit => True) (fun _ _ => ?_) (fun f hf => hend (hf () trivial))
    exact dq_lwT_ok Jv (by omega) rfl (dq_rmq c 1457 7 _ 8 _ (by omega) hc) (dq_rmq s 117018 42 _ 8 _ (by omega) hs) (hj _ _ _ (by have := dq_rmq c 1457 7 (min d 8) 8 _ (by omega) (Nat.le_refl _); omega) (Nat.le_trans (Nat.le_of_eq (by omega)) (dq_rmq s 117018 42 (min d 8) 8 _ (by omega) (Nat.le_refl _))))
end DQUN
