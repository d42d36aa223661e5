/-! load, both sides -/
section LOAD
variable {σ : tw_Sg} {w h nb nc cn len n L : Nat} {a : Nat → Int32} {hist : Nat → Nat → Int32} {buf : Nat → Nat} {err : Int32}
noncomputable def pu_oLd (B : Nat → Nat) (L : Nat) : Int32 ⊕ Int32 := match (pu_Xf B L).1 with | none => .inl (Int32.ofNat (pu_v (pu_Xf B L).2.2 3)) | some e => .inl e.1
def pu_LdC (B : Nat → Nat) (L w h nb nc cn : Nat) (a : Nat → Int32) (hist : Nat → Nat → Int32) (buf : Nat → Nat) (I : Nat → Nat → Nat → Nat → (Nat → Int32) → Nat → (Nat → Nat → Int32) → Nat → (Nat → Nat) → Int32 → Prop) : Prop := match (pu_Xf B L).1 with | none => I (pu_wN B L) (pu_hN B L) (pu_v (pu_Xf B L).2.2 2) (pu_v (pu_Xf B L).2.2 3) (pu_aE (pu_Xf B L).2.2 (pu_wN B L) (pu_hN B L)) (min (cn + 1) 8) (pu_push cn hist a) 0 buf (-1) | some e => I w h nb nc a cn hist 0 buf (Int32.ofNat e.2)
theorem pu_push_wf (W : pu_WF a w h nb nc) (hW : ∀ i, i < cn → pu_wf (hist i)) (h8 : cn ≤ 8) : ∀ i, i < min (cn + 1) 8 → pu_wf (pu_push cn hist a i) := fun i hi => by
  have m400 := pu_wfm_le W.1
  obtain ⟨m1, m2, m3, m4, m5, m6⟩ := W.1
  have hw : pu_wf a := by
    unfold pu_wf
    rw [show pu_v a 0 = w from pu_v_of m1 (by omega), show pu_v a 1 = h from pu_v_of m2 (by omega), show pu_v a 2 = nb from pu_v_of W.2.1.1 (by have := W.2.1.2.1; omega), show pu_v a 3 = nc from pu_v_of W.2.2.1.1 (by have := W.2.2.1.2.1; omega)]
    exact W
  unfold pu_push
  by_cases h8' : cn < 8
  · rw [if_pos h8']
    by_cases e : i = cn
    · rw [if_pos e]; exact hw
    · rw [if_neg e]; exact hW i (by omega)
  · rw [if_neg h8']
    by_cases e : i = 7
    · rw [if_pos e]; exact hw
    · rw [if_neg e]; exact hW (i + 1) (by omega)
theorem pu_cload (I : pu_IC σ w h nb nc a cn hist len buf err) (hL : L ≤ len) (hW : (pu_Xf buf L).1 = none → pu_AW (pu_Xf buf L).2.2 (pu_wN buf L) (pu_hN buf L)) (hne : ∀ e, (pu_Xf buf L).1 = some e → e.1 ≠ 0) (hn : 2000 < n) : pu_wp (tw_P_L_load n (Int32.ofNat L) σ) (pu_KC σ (pu_oLd buf L) (fun s => pu_LdC buf L w h nb nc cn a hist buf (fun w h nb nc a cn hist len buf err => pu_IC s w h nb nc a cn hist len buf err))) := by
  obtain ⟨i1, i2, i3, i4, ⟨i5, i6, i7⟩, i8⟩ := id I
  unfold tw_P_L_load
  refine pu_bcw (R := fun r => ∃ v s, r = .inl (v, s) ∧ pu_oLd buf L = .inl v ∧ pu_LdC buf L w h nb nc cn a hist buf (fun w h nb nc a cn hist len buf err => pu_IC s w h nb nc a cn hist len buf err) ∧ pu_fr pu_fC σ s) ?_ (fun v hv => ?_) (fun s hs => ?_)
  rotate_left
  · obtain ⟨v', s, e, ho, hI, hf⟩ := hv
    cases e
    refine pu_ktell ho hI (fun s s' hs => ?_) hf
    unfold pu_LdC
    cases (pu_Xf buf L).1 with
    | none => exact pu_IC_1036 s s' hs
    | some e => exact pu_IC_1036 s s' hs
  · obtain ⟨v', s', e, -⟩ := hs
    cases e
  unfold tw_P_X11_load
  refine pu_jn0 (pu_iff (pu_nn (by omega)) (pu_ift (by rw [i5, pu_le (by omega) (by omega)]; exact hL) (pu_bd (pu_cread (by omega) (fun i hi => i7 i (by omega)) hn) (fun r hr => pu_lt ?_))))
  obtain ⟨r1, r2, r3, r4, r5⟩ := hr
  have g : ∀ k, k < 403 → k ≠ 0 → k ≠ 400 → tw_up r.2 0 6 (r.2 400 8) k = σ k := fun k k1 k2 k3 => (tw_up_n k2).trans (r5 k k3 (by omega))
  refine pu_ltG (P := fun s => (∀ k, k ≠ 0 → k ≠ 400 → ¬ (403 ≤ k ∧ k < 435) → s k = σ k) ∧ s 0 6 = pu_eJ (pu_Xf buf L).1 ∧ s 400 1 = 0 ∧ ((pu_Xf buf L).1 = none → pu_CD (pu_bk s 403) (pu_aE (pu_Xf buf L).2.2 (pu_wN buf L) (pu_hN buf L)) (pu_wN buf L) (pu_hN buf L) (pu_v (pu_Xf buf L).2.2 2) (pu_v (pu_Xf buf L).2.2 3))) ⟨fun k k1 k2 k3 => (tw_up_n k1).trans (r5 k k2 k3), ?_, ?_, fun z => ?_⟩ (fun s hs => ?_)
  · rw [tw_up_s, pu_upd_s]; exact r2
  · rw [tw_up_n (by decide)]; exact r4
  · have : pu_bk (tw_up r.2 0 6 (r.2 400 8)) 403 = pu_bk r.2 403 := by
      funext j
      unfold pu_bk
      rw [tw_up_n (by omega)]
    rw [this]
    exact r3 z
  clear g r2 r3 r4 r5
  obtain ⟨s1, s2, s3, s4⟩ := hs
  have J : pu_IC s w h nb nc a cn hist 0 buf (pu_eJ (pu_Xf buf L).1) := by
    obtain ⟨C1, C2, C3⟩ := i2
    refine ⟨i1, ⟨?_, ?_, ?_⟩, pu_hC_fr i3 i4 (fun k z1 z2 => s1 k (by omega) (by omega) (by omega)), i4, ⟨s3, by omega, fun i hi => absurd hi (Nat.not_lt_zero _)⟩, s2⟩
    · obtain ⟨l1, l2, l3, l4, l5, l6⟩ := pu_CD_lens i1
      refine pu_CD_live l1 l2 l3 l4 l5 l6 C1 (fun j i hl => ?_)
      have := pu_lv_lt hl
      show s (1 + j) i = σ (1 + j) i
      rw [s1 (1 + j) (by omega) (by omega) (by omega)]
    · intro q hq l hl
      have hnc := i1.2.2.1.2.1
      have h9 : pu_nl a q < 9 := (i1.2.2.1.2.2 q hq).2.2.1.2
      exact pu_set_cong (C2 q hq l hl) (s1 _ (by unfold pu_La; omega) (by unfold pu_La; omega) (by unfold pu_La; omega))
    · intro d hd
      rw [s1 35 (by decide) (by decide) (by decide)]
      exact C3 d hd
  have hfC : pu_fr pu_fC σ s := fun k hk => s1 k (by unfold pu_fC at hk; omega) (by unfold pu_fC at hk; omega) (by unfold pu_fC at hk; omega)
  rw [r1]
  unfold pu_oLd pu_LdC
  cases hE : (pu_Xf buf L).1 with
  | some e =>
    rw [hE] at J
    exact pu_iff (hne e hE) (pu_some ⟨_, s, rfl, rfl, J, hfC⟩)
  | none =>
    rw [hE] at J
    have W := hW hE
    have CD4 := s4 hE
    obtain ⟨WF, -⟩ := pu_aE_WF W
    refine pu_ift rfl (pu_bd (pu_ickeep J) (fun t ht => pu_bd (pu_dcopy (σ := t) (th := 1) (r0 := 403) (by decide +kernel) (by decide +kernel) (by omega)) (fun u hu => ?_)))
    obtain ⟨J1, ft⟩ := ht
    obtain ⟨f1, f2⟩ := hu
    obtain ⟨j1, j2, j3, j4, j5, j6⟩ := J1
    have hu2 : ∀ k, ¬ (1 ≤ k ∧ k < 33) → u k = t k := fun k hk => f1 k (by omega)
    have CDu : pu_CD (pu_bk u 1) (pu_aE (pu_Xf buf L).2.2 (pu_wN buf L) (pu_hN buf L)) (pu_wN buf L) (pu_hN buf L) (pu_v (pu_Xf buf L).2.2 2) (pu_v (pu_Xf buf L).2.2 3) := by
      obtain ⟨l1, l2, l3, l4, l5, l6⟩ := pu_CD_lens WF
      refine pu_CD_live l1 l2 l3 l4 l5 l6 CD4 (fun j i hl => ?_)
      have := pu_lv_lt hl
      show u (1 + j) i = s (403 + j) i
      rw [f2 j i hl, ft (403 + j) (by unfold pu_F4; omega)]
    refine pu_bd (pu_icrenew WF CDu (pu_hC_fr j3 j4 (fun k z1 z2 => hu2 k (by omega))) j4 (by rw [hu2 400 (by omega), hu2 402 (by omega)]; exact j5) (show u 0 6 = -1 from (congrFun (hu2 0 (by omega)) 6).trans j6) (by omega)) (fun y hy => ?_)
    obtain ⟨J2, fy⟩ := hy
    have e14 : y 14 0 = Int32.ofNat (pu_v (pu_Xf buf L).2.2 3) := (show y 14 0 = _ from J2.2.1.1.1.2.2.2.2.2.1).trans WF.2.2.1.1
    refine pu_some ⟨_, y, rfl, ?_, J2, fun k hk => ?_⟩
    · rw [e14]
    · unfold pu_fC at hk
      rw [fy k (by unfold pu_F8 pu_F7; omega), hu2 k (by omega), ft k (by unfold pu_F4; omega)]
      exact s1 k (by omega) (by omega) (by omega)
end LOAD
