/-! many islands of the law's, none of which owns what another one owns -/
section DQSP
variable {Y Y' Y'' : dw_S} {fx S0 : Nat → Prop} {w h nb nc m n u i0 : Nat} {t t' : Nat → Nat} {K K' : Nat → Nat → Nat} {R R' : Nat → Nat → Int32} {κ : Nat → Nat} {a a' : Nat → Int32}
/-- what an island owns -/
def dq_own (th : Nat) (ι : Nat → Nat) (nb nc k : Nat) : Prop := dq_my th ι nb nc k ∨ k = ι 3 ∨ k = ι 4
/-- island 0 is the one that changes, the others are what it was -/
def dq_SEP (fx S0 : Nat → Prop) (w h nb nc m : Nat) (t : Nat → Nat) (K : Nat → Nat → Nat) (R : Nat → Nat → Int32) (Y : dw_S) : Prop := ((∀ k, S0 k → ¬ fx k ∧ k < dw_n Y) ∧ ∀ k, fx k → k < dw_n Y) ∧ (∀ i, i ≤ m → dq_I Y (t i) (K i) (R i) w h nb nc ∧ dq_sm (R i) w h nc ∧ pu_WF (R i) w h nb nc ∧ (∀ k, dq_sh (K i) (R i) nc k → S0 k) ∧ ∀ k, dq_own (t i) (K i) nb nc k → ¬ S0 k ∧ ¬ fx k) ∧ ∀ i j, i ≤ m → j ≤ m → i ≠ j → ∀ k, dq_own (t i) (K i) nb nc k → ¬ dq_own (t j) (K j) nb nc k
theorem dq_own_th {th : Nat} {ι : Nat → Nat} : dq_own th ι nb nc th := Or.inl (Or.inl rfl)
theorem dq_has_os {th k : Nat} {ι : Nat → Nat} (z : dq_has ι a nb nc k) : dq_own th ι nb nc k ∨ dq_sh ι a nc k := by
  rcases z with z | z | z | z | z | z | ⟨q, hq, z | z | z | z⟩
  · exact Or.inr (Or.inl z)
  · exact Or.inl (Or.inl (Or.inr (Or.inl z)))
  · exact Or.inr (Or.inr (Or.inl z))
  · exact Or.inl (Or.inr (Or.inl z))
  · exact Or.inl (Or.inr (Or.inr z))
  · exact Or.inl (Or.inl (Or.inr (Or.inr (Or.inr (Or.inl z)))))
  · exact Or.inl (Or.inl (Or.inr (Or.inr (Or.inr (Or.inr ⟨q, hq, z⟩)))))
  · exact Or.inr (Or.inr (Or.inr ⟨q, hq, Or.inl z⟩))
  · exact Or.inr (Or.inr (Or.inr ⟨q, hq, Or.inr (Or.inl z)⟩))
  · exact Or.inr (Or.inr (Or.inr ⟨q, hq, Or.inr (Or.inr z)⟩))
theorem dq_own_lt {th k : Nat} {ι : Nat → Nat} (I : dq_I Y th ι a w h nb nc) (z : dq_own th ι nb nc k) : k < dw_n Y := by
  obtain ⟨Is, If, Ir, ⟨⟨m1, -⟩, ⟨m3, -⟩, m5, -⟩, ⟨b1, b2⟩, ⟨c1, c2⟩, n1, -⟩ := I
  rcases z with (z | z | z | ⟨i, hi, z⟩ | ⟨q, hq, z⟩) | z | z
  · rw [z]; exact Is.1
  · rw [z]; exact m3.1.1
  · rw [z]; exact n1.1.1
  · rw [z]; exact (b2 i hi).2.1.1.1
  · rw [z]; exact (c2 q hq).1.2.1.1
  · rw [z]; exact b1.1.1
  · rw [z]; exact c1.1.1
theorem dq_sm_ag (hA : pu_ag pu_Y a a') (S : dq_sm a w h nc) (W : pu_WF a w h nb nc) : dq_sm a' w h nc := by
  obtain ⟨s1, s2, s3⟩ := S
  obtain ⟨-, -, -, hl⟩ := dq_lens W
  refine ⟨s1, s2, fun q hq => ?_⟩
  obtain ⟨g1, g2, g3⟩ := s3 q hq
  rw [pu_ag_ns hA (by omega), pu_ag_nl hA (by omega)]
  refine ⟨g1, g2, fun l hl hk => ?_⟩
  rw [pu_ag_kind hA (by omega) (by omega)] at hk
  rw [pu_ag_give hA (by omega) (by omega)]
  exact g3 l hl hk
/-- what is fixed or new is written -/
theorem dq_SEP_fr {Si Sr : Nat → Nat → Prop} (H : dq_SEP fx S0 w h nb nc m t K R Y) (F : dq_fr Si Sr Y Y') (hi : ∀ k j, Si k j → fx k) (hr : ∀ k j, Sr k j → fx k) : dq_SEP fx S0 w h nb nc m t K R Y' := by
  obtain ⟨⟨H1, H2⟩, H3, H4⟩ := H
  have hn := F.2.1
  refine ⟨⟨fun k z => ⟨(H1 k z).1, by have := (H1 k z).2; omega⟩, fun k z => by have := H2 k z; omega⟩, fun i hi' => ?_, H4⟩
  obtain ⟨I, S, W, s0, o0⟩ := H3 i hi'
  refine ⟨dq_I_fr F I (fun j z => (o0 _ dq_own_th).2 (hi _ _ z)) (fun j _ z => (o0 _ dq_own_th).2 (hr _ _ z)) (fun k j hk => ?_), S, W, s0, o0⟩
  have : ¬ fx k := by
    rcases dq_has_os (th := t i) hk with z | z
    · exact (o0 k z).2
    · exact (H1 k (s0 k z)).1
  exact ⟨fun z => this (hi _ _ z), fun z => this (hr _ _ z)⟩
theorem dq_SEP_cs {s : tw_Sg} (H : dq_SEP fx S0 w h nb nc m t K R Y) : dq_SEP fx S0 w h nb nc m t K R (dw_cs Y s) := H
/-- one island is changed -/
theorem dq_SEP_stp (H : dq_SEP fx S0 w h nb nc m t K R Y) (h0 : i0 ≤ m) (F : dq_stpI (t i0) (K i0) nb nc Y Y') (hR : ∀ i, i ≤ m → i ≠ i0 → R' i = R i) (I' : dq_I Y' (t i0) (K i0) (R' i0) w h nb nc) (hA : pu_ag pu_Y (R i0) (R' i0)) (W' : pu_WF (R' i0) w h nb nc) : dq_SEP fx S0 w h nb nc m t K R' Y' := by
  obtain ⟨⟨H1, H2⟩, H3, H4⟩ := H
  have hn := F.2.1
  obtain ⟨I0, S00, W0, s00, o00⟩ := H3 i0 h0
  refine ⟨⟨fun k z => ⟨(H1 k z).1, by have := (H1 k z).2; omega⟩, fun k z => by have := H2 k z; omega⟩, fun i hi => ?_, H4⟩
  by_cases e : i = i0
  · subst e
    refine ⟨I', dq_sm_ag hA S00 W0, W', fun k z => s00 k ?_, o00⟩
    rcases z with z | z | ⟨q, hq, z⟩
    · exact Or.inl z
    · exact Or.inr (Or.inl z)
    · have hq4 : q < 4 := by have := (dq_lens W0).2.1; omega
      rw [pu_ag_nl hA hq4] at z
      exact Or.inr (Or.inr ⟨q, hq, z⟩)
  · obtain ⟨I, S, W, s0, o0⟩ := H3 i hi
    rw [hR i hi e]
    have hd := H4 i i0 hi h0 e
    have key : ∀ k, dq_own (t i) (K i) nb nc k ∨ S0 k → ¬ dq_my (t i0) (K i0) nb nc k ∧ k ≠ t i0 := fun k z => by
      rcases z with z | z
      · exact ⟨fun y => hd k z (Or.inl y), fun y => hd k z (by rw [y]; exact dq_own_th)⟩
      · exact ⟨fun y => (o00 k (Or.inl y)).1 z, fun y => (o00 k (by rw [y]; exact dq_own_th)).1 z⟩
    refine ⟨dq_I_fr F I (fun j => (key _ (Or.inl dq_own_th)).1) (fun j _ => (key _ (Or.inl dq_own_th)).2) (fun k j hk => ?_), S, W, s0, o0⟩
    rcases dq_has_os (th := t i) hk with z | z
    · exact key k (Or.inl z)
    · exact key k (Or.inr (s0 k z))
/-- an island is asked, and the walk -/
theorem dq_SEP_useC (H : dq_SEP fx S0 w h nb nc m t K R Y) (h0 : i0 ≤ m) (F : dq_useC (t i0) (K i0) Y Y') : dq_SEP fx S0 w h nb nc m t K R Y' := by
  obtain ⟨I0, -, W0, -⟩ := H.2.1 i0 h0
  have H' : dq_SEP fx S0 w h nb nc m t K R (dw_cs Y' (dw_s Y)) := dq_SEP_stp H h0 (dq_use_stp F) (fun i _ _ => rfl) (dq_I_use F I0) (fun _ _ => rfl) W0
  exact H'
theorem dq_SEP_use (H : dq_SEP fx S0 w h nb nc m t K R Y) (h0 : i0 ≤ m) (F : dq_use (t i0) (K i0) Y Y') : dq_SEP fx S0 w h nb nc m t K R Y' := by
  obtain ⟨I0, -, W0, -⟩ := H.2.1 i0 h0
  exact dq_SEP_stp H h0 (dq_use_stp F) (fun i _ _ => rfl) (dq_I_use F I0) (fun _ _ => rfl) W0
/-- in another order -/
theorem dq_SEP_re {m' : Nat} (H : dq_SEP fx S0 w h nb nc m t K R Y) (f : Nat → Nat) (hf : ∀ i, i ≤ m' → f i ≤ m) (hj : ∀ i j, i ≤ m' → j ≤ m' → i ≠ j → f i ≠ f j) : dq_SEP fx S0 w h nb nc m' (fun i => t (f i)) (fun i => K (f i)) (fun i => R (f i)) Y :=
  ⟨H.1, fun i hi => H.2.1 (f i) (hf i hi), fun i j hi hj' hij => H.2.2 (f i) (f j) (hf i hi) (hf j hj') (hj i j hi hj' hij)⟩
/-- a copy of island 0 comes behind it -/
def dq_ins {α : Type} (t : Nat → α) (u : α) (i : Nat) : α := if i = 0 then t 0 else if i = 1 then u else t (i - 1)
theorem dq_ins0 {α : Type} {t : Nat → α} {u : α} : dq_ins t u 0 = t 0 := rfl
theorem dq_ins1 {α : Type} {t : Nat → α} {u : α} : dq_ins t u 1 = u := rfl
theorem dq_insS {α : Type} {t : Nat → α} {u : α} {i : Nat} (hi : 1 ≤ i) : dq_ins t u (i + 1) = t i := by
  unfold dq_ins
  rw [if_neg (by omega), if_neg (by omega), Nat.add_sub_cancel]
theorem dq_SEP_copy (H : dq_SEP fx S0 w h nb nc m t K R Y) (F : dq_fr dq_no dq_no Y Y') (I' : dq_I Y' u κ (R 0) w h nb nc) (hnew : ∀ k, dq_own u κ nb nc k → dw_n Y ≤ k) (hsh : ∀ k, dq_sh κ (R 0) nc k → dq_sh (K 0) (R 0) nc k) : dq_SEP fx S0 w h nb nc (m + 1) (dq_ins t u) (dq_ins K κ) (dq_ins R (R 0)) Y' := by
  have G := dq_SEP_fr H F (fun _ _ z => absurd z id) (fun _ _ z => absurd z id)
  have hlt : ∀ i, i ≤ m → ∀ k, dq_own (t i) (K i) nb nc k → k < dw_n Y := fun i hi k z => dq_own_lt (H.2.1 i hi).1 z
  have hc : ∀ i, i ≤ m + 1 → (i = 1 ∧ dq_ins t u i = u ∧ dq_ins K κ i = κ ∧ dq_ins R (R 0) i = R 0) ∨ ∃ j, j ≤ m ∧ (i = 0 ∧ j = 0 ∨ i = j + 1 ∧ 1 ≤ j) ∧ dq_ins t u i = t j ∧ dq_ins K κ i = K j ∧ dq_ins R (R 0) i = R j := fun i hi => by
    by_cases e0 : i = 0
    · subst e0
      exact Or.inr ⟨0, by omega, Or.inl ⟨rfl, rfl⟩, rfl, rfl, rfl⟩
    · by_cases e1 : i = 1
      · subst e1
        exact Or.inl ⟨rfl, rfl, rfl, rfl⟩
      · obtain ⟨j, ej⟩ : ∃ j, i = j + 1 := ⟨i - 1, by omega⟩
        subst ej
        exact Or.inr ⟨j, by omega, Or.inr ⟨rfl, by omega⟩, dq_insS (by omega), dq_insS (by omega), dq_insS (by omega)⟩
  refine ⟨G.1, fun i hi => ?_, fun i j hi hj hij k z => ?_⟩
  · rcases hc i hi with ⟨-, e1, e2, e3⟩ | ⟨j, hj, -, e1, e2, e3⟩
    · rw [e1, e2, e3]
      obtain ⟨-, S, W, s0, o0⟩ := H.2.1 0 (by omega)
      refine ⟨I', S, W, fun k z => s0 k (hsh k z), fun k z => ?_⟩
      have hk := hnew k z
      exact ⟨fun y => by have := (H.1.1 k y).2; omega, fun y => by have := H.1.2 k y; omega⟩
    · rw [e1, e2, e3]
      exact G.2.1 j hj
  · rcases hc i hi with ⟨ei, e1, e2, -⟩ | ⟨i', hi', ei, e1, e2, -⟩ <;> rcases hc j hj with ⟨ej, g1, g2, -⟩ | ⟨j', hj', ej, g1, g2, -⟩
    · omega
    · rw [e1, e2] at z
      rw [g1, g2]
      intro y
      have h1 := hnew k z
      have h2 := hlt j' hj' k y
      omega
    · rw [e1, e2] at z
      rw [g1, g2]
      intro y
      have h1 := hnew k y
      have h2 := hlt i' hi' k z
      omega
    · rw [e1, e2] at z
      rw [g1, g2]
      exact H.2.2 i' j' hi' hj' (by omega) k z
end DQSP
