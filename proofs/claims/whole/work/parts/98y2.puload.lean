/-! load, both sides -/
section LOAD
variable {σ : tw_Sg} {w h nb nc cn len n L : Nat} {a : Nat → Int32} {hist : Nat → Nat → Int32} {buf : Nat → Nat} {err : Int32}
noncomputable def pu_oLd (B : Nat → Nat) (L : Nat) : Int32 ⊕ Int32 := match (pu_Xf B L).1 with | none => .inl (Int32.ofNat (pu_v (pu_Xf B L).2.2 3)) | some e => .inl e.1
def pu_LdC (B : Nat → Nat) (L w h nb nc cn : Nat) (a : Nat → Int32) (hist : Nat → Nat → Int32) (buf : Nat → Nat) (I : Nat → Nat → Nat → Nat → (Nat → Int32) → Nat → (Nat → Nat → Int32) → Nat → (Nat → Nat) → Int32 → Prop) : Prop := match (pu_Xf B L).1 with | none => I (pu_wN B L) (pu_hN B L) (pu_v (pu_Xf B L).2.2 2) (pu_v (pu_Xf B L).2.2 3) (pu_aE (pu_Xf B L).2.2 (pu_wN B L) (pu_hN B L)) (min (cn + 1) 8) (pu_push cn hist a) 0 buf (-1) | some e => I w h nb nc a cn hist 0 buf (Int32.ofNat e.2)
theorem pu_push_wf (W : pu_WF a w h nb nc) (hW : ∀ i, i < cn → pu_wf (hist i)) (h8 : cn ≤ 8) : ∀ i, i < min (cn + 1) 8 → pu_wf (pu_push cn hist a i) := fun i hi => by
  have m400 := pu_wfm_le W.1
  obtain ⟨m1, m2, m3, m4, m5, m6⟩ := W.1
  have hw : pu_wf a := by
    unfold pu_wf
    rw [show pu_v a 0 = w from pu_v_of m1 (by omega), show pu_v a 1 = h from pu_v_of m2 (by omega), show pu_v a 2 = nb from pu_v_of W.2.1.1 (by have := W.2.1.2.1; omega), show pu_v a 3 = nc from pu_v_of W.2.2.1.1 (by have := W.2.2.1.2.1; omega)]
    exact W
  unfold pu_push
  by_cases h8' : cn < 8
  · rw [if_pos h8']
    by_cases e : i = cn
    · rw [if_pos e]; exact hw
    · rw [if_neg e]; exact hW i (by omega)
  · rw [if_neg h8']
    by_cases e : i = 7
    · rw [if_pos e]; exact hw
    · rw [if_neg e]; exact hW (i + 1) (by omega)
theorem pu_cload (I : pu_IC σ w h nb nc a cn hist len buf err) (hL : L ≤ len) (hW : (pu_Xf buf L).1 = none → pu_AW (pu_Xf buf L).2.2 (pu_wN buf L) (pu_hN buf L)) (hne : ∀ e, (pu_Xf buf L).1 = some e → e.1 ≠ 0) (hn : 2000 < n) : pu_wp (tw_P_L_load n (Int32.ofNat L) σ) (pu_KC σ (pu_oLd buf L) (fun s => pu_LdC buf L w h nb nc cn a hist buf (fun w h nb nc a cn hist len buf err => pu_IC s w h nb nc a cn hist len buf err))) := by
  obtain ⟨i1, i2, i3, i4, ⟨i5, i6, i7⟩, i8⟩ := id I
  unfold tw_P_L_load
  refine pu_bcw (R := fun r => ∃ v s, r = .inl (v, s) ∧ pu_oLd buf L = .inl v ∧ pu_LdC buf L w h nb nc cn a hist buf (fun w h nb nc a cn hist len buf err => pu_IC s w h nb nc a cn hist len buf err) ∧ pu_fr pu_fC σ s) ?_ (fun v hv => ?_) (fun s hs => ?_)
  rotate_left
  · obtain ⟨v', s, e, ho, hI, hf⟩ := hv
    cases e
    refine pu_ktell ho hI (fun s s' hs => ?_) hf
    unfold pu_LdC
    cases (pu_Xf buf L).1 with
    | none => exact pu_IC_1036 s s' hs
    | some e => exact pu_IC_1036 s s' hs
  · obtain ⟨v', s', e, -⟩ := hs
    cases e
  unfold tw_P_X11_load
  refine pu_jn0 (pu_iff (pu_nn (by omega)) (pu_ift (by rw [i5, pu_le (by omega) (by omega)]; exact hL) (pu_bd (pu_cread (by omega) (fun i hi => i7 i (by omega)) hn) (fun r hr => pu_lt ?_))))
  obtain ⟨r1, r2, r3, r4, r5⟩ := hr
  have g : ∀ k, k < 403 → k ≠ 0 → k ≠ 400 → tw_up r.2 0 6 (r.2 400 8) k = σ k := fun k k1 k2 k3 => (tw_up_n k2).trans (r5 k k3 (by omega))
  refine pu_ltG (P := fun s => (∀ k, k ≠ 0 → k ≠ 400 → ¬ (403 ≤ k ∧ k < 435) → s k = σ k) ∧ s 0 6 = pu_eJ (pu_Xf buf L).1 ∧ s 400 1 = 0 ∧ ((pu_Xf buf L).1 = none → pu_CD (pu_bk s 403) (pu_aE (pu_Xf buf L).2.2 (pu_wN buf L) (pu_hN buf L)) (pu_wN buf L) (pu_hN buf L) (pu_v (pu_Xf buf L).2.2 2) (pu_v (pu_Xf buf L).2.2 3))) ⟨fun k k1 k2 k3 => (tw_up_n k1).trans (r5 k k2 k3), ?_, ?_, fun z => ?_⟩ (fun s hs => ?_)
  · rw [tw_up_s, pu_upd_s]; exact r2
  · rw [tw_up_n (by decide)]; exact r4
  · have : pu_bk (tw_up r.2 0 6 (r.2 400 8)) 403 = pu_bk r.2 403 := by
      funext j
      unfold pu_bk
      rw [tw_up_n (by omega)]
    rw [this]
    exact r3 z
  clear g r2 r3 r4 r5
  obtain ⟨s1, s2, s3, s4⟩ := hs
  have J : pu_IC s w h nb nc a cn hist 0 buf (pu_eJ (pu_Xf buf L).1) := by
    obtain ⟨C1, C2, C3⟩ := i2
    refine ⟨i1, ⟨?_, ?_, ?_⟩, pu_hC_fr i3 i4 (fun k z1 z2 => s1 k (by omega) (by omega) (by omega)), i4, ⟨s3, by omega, fun i hi => absurd hi (Nat.not_lt_zero _)⟩, s2⟩
    · obtain ⟨l1, l2, l3, l4, l5, l6⟩ := pu_CD_lens i1
      refine pu_CD_live l1 l2 l3 l4 l5 l6 C1 (fun j i hl => ?_)
      have := pu_lv_lt hl
      show s (1 + j) i = σ (1 + j) i
      rw [s1 (1 + j) (by omega) (by omega) (by omega)]
    · intro q hq l hl
      have hnc := i1.2.2.1.2.1
      have h9 : pu_nl a q < 9 := (i1.2.2.1.2.2 q hq).2.2.1.2
      exact pu_set_cong (C2 q hq l hl) (s1 _ (by unfold pu_La; omega) (by unfold pu_La; omega) (by unfold pu_La; omega))
    · intro d hd
      rw [s1 35 (by decide) (by decide) (by decide)]
      exact C3 d hd
  have hfC : pu_fr pu_fC σ s := fun k hk => s1 k (by unfold pu_fC at hk; omega) (by unfold pu_fC at hk; omega) (by unfold pu_fC at hk; omega)
  rw [r1]
  unfold pu_oLd pu_LdC
  cases hE : (pu_Xf buf L).1 with
  | some e =>
    rw [hE] at J
    exact pu_iff (hne e hE) (pu_some ⟨_, s, rfl, rfl, J, hfC⟩)
  | none =>
    rw [hE] at J
    have W := hW hE
    have CD4 := s4 hE
    obtain ⟨WF, -⟩ := pu_aE_WF W
    refine pu_ift rfl (pu_bd (pu_ickeep J) (fun t ht => pu_bd (pu_dcopy (σ := t) (th := 1) (r0 := 403) (by decide +kernel) (by decide +kernel) (by omega)) (fun u hu => ?_)))
    obtain ⟨J1, ft⟩ := ht
    obtain ⟨f1, f2⟩ := hu
    obtain ⟨j1, j2, j3, j4, j5, j6⟩ := J1
    have hu2 : ∀ k, ¬ (1 ≤ k ∧ k < 33) → u k = t k := fun k hk => f1 k (by omega)
    have CDu : pu_CD (pu_bk u 1) (pu_aE (pu_Xf buf L).2.2 (pu_wN buf L) (pu_hN buf L)) (pu_wN buf L) (pu_hN buf L) (pu_v (pu_Xf buf L).2.2 2) (pu_v (pu_Xf buf L).2.2 3) := by
      obtain ⟨l1, l2, l3, l4, l5, l6⟩ := pu_CD_lens WF
      refine pu_CD_live l1 l2 l3 l4 l5 l6 CD4 (fun j i hl => ?_)
      have := pu_lv_lt hl
      show u (1 + j) i = s (403 + j) i
      rw [f2 j i hl, ft (403 + j) (by unfold pu_F4; omega)]
    refine pu_bd (pu_icrenew WF CDu (pu_hC_fr j3 j4 (fun k z1 z2 => hu2 k (by omega))) j4 (by rw [hu2 400 (by omega), hu2 402 (by omega)]; exact j5) (show u 0 6 = -1 from (congrFun (hu2 0 (by omega)) 6).trans j6) (by omega)) (fun y hy => ?_)
    obtain ⟨J2, fy⟩ := hy
    have e14 : y 14 0 = Int32.ofNat (pu_v (pu_Xf buf L).2.2 3) := (show y 14 0 = _ from J2.2.1.1.1.2.2.2.2.2.1).trans WF.2.2.1.1
    refine pu_some ⟨_, y, rfl, ?_, J2, fun k hk => ?_⟩
    · rw [e14]
    · unfold pu_fC at hk
      rw [fy k (by unfold pu_F8 pu_F7; omega), hu2 k (by omega), ft k (by unfold pu_F4; omega)]
      exact s1 k (by omega) (by omega) (by omega)
theorem pu_rload (H : pu_WF a w h nb nc) (I : pu_IR σ w h nb nc a cn hist len buf err) (hL : L ≤ len) (hlen : len ≤ 600) (hbuf : ∀ i, i < len → buf i < 256) (hn : 2000 < n) : pu_wp (tw_P_X12_load n (Int32.ofNat L) σ) (fun r => pu_KR σ (pu_oLd buf L) (fun s => pu_LdC buf L w h nb nc cn a hist buf (fun w h nb nc a cn hist len buf err => pu_IR s w h nb nc a cn hist len buf err)) r ∧ ((pu_Xf buf L).1 = none → pu_AW (pu_Xf buf L).2.2 (pu_wN buf L) (pu_hN buf L)) ∧ ∀ e, (pu_Xf buf L).1 = some e → e.1 ≠ 0) := by
  unfold tw_P_X12_load
  refine pu_iropen H I (fun s s0 J fs => ?_)
  obtain ⟨⟨x1, x2⟩, ⟨x3, x4, x5, x6⟩, ⟨x7, x8⟩, x9⟩ := id J
  refine pu_bde pu_in_eq (pu_jn (R := fun v => v = 0) (fun v hv => ?_) (fun f hf => ?_))
  rotate_left
  · refine pu_ift ?_ (hf _ rfl)
    rw [x7, pu_toInt0, pu_toInt (by omega), pu_toInt (by omega), if_pos ⟨by omega, by omega⟩]
    exact pu_10
  have hv : v = 0 := hv
  subst hv
  refine pu_bde (pu_fails0 s0) (pu_ift rfl (pu_lt (pu_lt (pu_lt (pu_lt (pu_lt ?_))))))
  refine pu_ltG (P := fun t => (∀ k, k ≠ 442 → t k = s k) ∧ (∀ i, i ≠ 2 → i ≠ 3 → i ≠ 4 → i ≠ 5 → i ≠ 6 → i ≠ 13 → t 442 i = s 442 i) ∧ t 442 2 = 0 ∧ t 442 3 = Int32.ofNat L ∧ t 442 4 = 0 ∧ t 442 5 = 0 ∧ t 442 6 = -1 ∧ t 442 13 = -1) ⟨fun k hk => ?_, fun i a2 a3 a4 a5 a6 a13 => ?_, ?_, ?_, ?_, ?_, ?_, pu_u442s⟩ (fun t ht => ?_)
  · rw [tw_up_n hk, tw_up_n hk, tw_up_n hk, tw_up_n hk, tw_up_n hk, tw_up_n hk]
  · rw [pu_u442 a13, pu_u442 a6, pu_u442 a5, pu_u442 a4, pu_u442 a3, pu_u442 a2]
  · rw [pu_u442 (by decide), pu_u442 (by decide), pu_u442 (by decide), pu_u442 (by decide), pu_u442 (by decide), pu_u442s]
  · rw [pu_u442 (by decide), pu_u442 (by decide), pu_u442 (by decide), pu_u442 (by decide), pu_u442s]
  · rw [pu_u442 (by decide), pu_u442 (by decide), pu_u442 (by decide), pu_u442s]
  · rw [pu_u442 (by decide), pu_u442 (by decide), pu_u442s]
  · rw [pu_u442 (by decide), pu_u442s]
  obtain ⟨t0, t1, t2, t3, t4, t5, t6, t13⟩ := ht
  have htx : ∀ i, i < L → t 443 i = Int32.ofNat (buf i) ∧ buf i < 256 := fun i hi => ⟨by rw [t0 443 (by decide)]; exact x8 i (by omega), hbuf i (by omega)⟩
  refine pu_rreadAll (B := buf) (L := L) (by omega) t3 htx t4 t5 t6 t13 (fun j hj => by rw [t0 445 (by decide)]; exact x6 445 (Or.inr (Or.inl rfl)) j hj) hn (K := _) (fun y hy hW => ?_)
  have hne : ∀ e, (pu_Xf buf L).1 = some e → e.1 ≠ 0 := fun e he => by
    have := (pu_SR_c hy he.symm).1.2.1.2.1
    exact this
  have hfy := hy.2.2.2
  refine pu_ltG (P := fun z => (∀ k, k ≠ 442 → z k = y k) ∧ (∀ i, i ≠ 7 → z 442 i = y 442 i) ∧ z 442 7 = y 442 6) ⟨fun k hk => tw_up_n hk, fun i hi => pu_u442 hi, pu_u442s⟩ (fun z hz => ?_)
  obtain ⟨z0, z1, z7⟩ := hz
  have e6 : y 442 5 = pu_eI (pu_Xf buf L).1 ∧ y 442 6 = pu_eJ (pu_Xf buf L).1 := by
    cases hE : (pu_Xf buf L).1 with
    | none => exact (pu_SR_c hy hE.symm).1.2.1
    | some e => exact ⟨(pu_SR_c hy hE.symm).1.2.1.1, (pu_SR_c hy hE.symm).1.2.1.2.2⟩
  have zk : ∀ k, k ≠ 442 → k ≠ 445 → z k = s k := fun k k1 k2 => (z0 k k1).trans ((hfy.1 k k1 k2).trans (t0 k k1))
  have z445 : z 445 = y 445 := z0 445 (by decide)
  have z442 : ∀ i, i = 0 ∨ i = 11 ∨ i = 22 → z 442 i = s 442 i := fun i hi => (z1 i (by omega)).trans ((hfy.2 i (by omega) (by omega)).trans (t1 i (by omega) (by omega) (by omega) (by omega) (by omega) (by omega)))
  have J1 : pu_IR z w h nb nc a cn hist 0 buf (pu_eJ (pu_Xf buf L).1) := by
    refine ⟨⟨(zk 444 (by decide) (by decide)).trans x1, ?_⟩, ⟨(z442 11 (by decide)).trans x3, x4, fun i hi => (zk _ (by omega) (by omega)).trans (x5 i hi), fun r hr j hj => ?_⟩, ⟨?_, fun i hi => absurd hi (Nat.not_lt_zero _)⟩, z7.trans e6.2⟩
    · rw [z442 22 (by decide)]
      refine x2.imp id (fun q => ⟨q.1, fun q' hq' l hl d hd => ?_⟩)
      rw [zk _ (by unfold pu_En; omega) (by unfold pu_En; omega)]
      exact q.2 q' hq' l hl d hd
    · by_cases e : r = 445
      · subst e
        rw [z445]
        exact hy.2.1 j hj
      · rw [zk r (by rcases hr with q | q | q <;> omega) e]
        exact x6 r hr j hj
    · rw [z1 2 (by decide), hfy.2 2 (by decide) (by decide)]
      exact t2
  have fz : pu_fr pu_fR σ z := fun k hk => (zk k (by unfold pu_fR at hk; omega) (by unfold pu_fR at hk; omega)).trans (fs k hk)
  have z00 : z 442 0 = 0 := (z442 0 (by decide)).trans s0
  have zSR : pu_SR buf L t (pu_Xf buf L).2.2 (pu_Xf buf L).1 (pu_Xf buf L).2.1 y := hy
  have zg : tw_P_X12_isGood z = tw_P_X12_isGood y := by
    unfold tw_P_X12_isGood
    rw [z1 5 (by decide)]
  unfold pu_oLd pu_LdC
  cases hE : (pu_Xf buf L).1 with
  | some e =>
    refine pu_bde (zg.trans (pu_SR_g0 (pu_SR_c hy hE.symm))) (pu_iff (fun q => q rfl) (pu_some ⟨⟨z00, fun v hv => ?_, ?_, fz⟩, fun q => (by cases q), fun e' he' => hne e' (hE.trans he')⟩))
    · have hv := Sum.inl.inj hv
      subst hv
      rw [z1 5 (by decide), e6.1, hE]
      rfl
    · rw [hE] at J1
      exact J1
  | none =>
    have W := hW hE
    rw [hE] at J1
    obtain ⟨w1, w2, h1, h2⟩ := pu_AW_b W
    have hwh := pu_wh w2 h2
    have hy' := pu_SR_c hy hE.symm
    obtain ⟨yr, y13⟩ := hy'.2.2.1 rfl
    obtain ⟨WF, az⟩ := pu_aE_WF W
    refine pu_bde (zg.trans (pu_SR_g1 hy')) (pu_ift pu_10 (pu_jn (R := fun v => upd (y 445) 4 v = pu_aE (pu_Xf buf L).2.2 (pu_wN buf L) (pu_hN buf L)) (fun v hv => ?_) (fun g hg => ?_)))
    rotate_left
    · have e13 : z 442 13 = (pu_Xf buf L).2.2 4 := (z1 13 (by decide)).trans y13
      refine pu_if (fun c => ?_) (fun c => ?_)
      · rw [e13] at c
        refine hg _ ?_
        rw [e13, yr]
        unfold pu_aE
        rw [if_neg c]
        funext j
        by_cases e : j = 4
        · subst e; rw [pu_upd_s]
        · rw [pu_upd_n e, pu_upd_n e]
      · rw [e13] at c
        have c := Classical.not_not.mp c
        have zr : ∀ j, j ≠ 4 → z 445 j = (pu_Xf buf L).2.2 j := fun j hj => by rw [z445, yr, pu_upd_n hj]
        refine pu_bd (pu_rFirst (A := (pu_Xf buf L).2.2) w2 h2 ((zr 0 (by decide)).trans W.1.1) ((zr 1 (by decide)).trans W.1.2.1) (fun c hc => zr _ (by omega)) W.2.2.2.1.1 hn) (fun r hr => hg r ?_)
        rw [(hr.1 W.2.2.2.2.2.2.2).1, yr]
        unfold pu_aE
        rw [if_pos c]
        funext j
        by_cases e : j = 4
        · subst e; rw [pu_upd_s, pu_upd_s]
        · rw [pu_upd_n e, pu_upd_n e, pu_upd_n e]
    have hv : upd (y 445) 4 v = pu_aE (pu_Xf buf L).2.2 (pu_wN buf L) (pu_hN buf L) := hv
    rw [pu_l445]
    refine pu_ck (by decide) (pu_ltG (P := fun u => (∀ k, k ≠ 445 → u k = z k) ∧ u 445 = pu_aE (pu_Xf buf L).2.2 (pu_wN buf L) (pu_hN buf L)) ⟨fun k hk => tw_up_n hk, ?_⟩ (fun u hu => ?_))
    · rw [tw_up_s, z445]
      exact hv
    obtain ⟨u0, u1⟩ := hu
    have J2 : pu_IR u w h nb nc a cn hist 0 buf (-1) := by
      obtain ⟨⟨q1, q2⟩, ⟨q3, q4, q5, q6⟩, ⟨q7, -⟩, q9⟩ := J1
      have u442 : u 442 = z 442 := u0 442 (by decide)
      refine ⟨⟨(u0 444 (by decide)).trans q1, ?_⟩, ⟨by rw [u442]; exact q3, q4, fun i hi => by rw [u0 _ (by omega)]; exact q5 i hi, fun r hr j hj => ?_⟩, ⟨by rw [u442]; exact q7, fun i hi => absurd hi (Nat.not_lt_zero _)⟩, by rw [u442]; exact q9⟩
      · rw [u442]
        refine q2.imp id (fun q => ⟨q.1, fun q' hq' l hl d hd => ?_⟩)
        rw [u0 _ (by unfold pu_En; omega)]
        exact q.2 q' hq' l hl d hd
      · by_cases e : r = 445
        · subst e
          rw [u1]
          exact az j hj
        · rw [u0 r e]
          exact q6 r hr j hj
    refine pu_bd (pu_irrem H J2 hn) (fun x hx => ?_)
    obtain ⟨m1, m2, m3, m4, m5, m6⟩ := hx
    refine pu_bde (pu_rcopyA (r0 := 445) (r1 := 444) (Or.inr (Or.inl rfl)) (Or.inl rfl) (by decide) m1.2.2.2 hn) ?_
    have x445 : x 445 = pu_aE (pu_Xf buf L).2.2 (pu_wN buf L) (pu_hN buf L) := (m6 445 (by unfold pu_F6; omega)).trans u1
    have e444 : tw_upA x 444 (x 445) 444 = pu_aE (pu_Xf buf L).2.2 (pu_wN buf L) (pu_hN buf L) := tw_upA_s.trans x445
    have J3 := pu_irset J2 m1 m2 m3 m5 e444 az (fun k hk => tw_upA_n hk)
    obtain ⟨⟨o1, -⟩, o2, o3, o4⟩ := J3
    rw [pu_l444]
    have ev : tw_upA x 444 (x 445) 444 (Int32.toNatClampNeg (3 : Int32)) = Int32.ofNat (pu_v (pu_Xf buf L).2.2 3) := by
      rw [e444]
      exact WF.2.2.1.1
    have h442 : tw_upA x 444 (x 445) 442 = x 442 := tw_upA_n (by decide)
    refine pu_ck (by decide) (pu_some ⟨⟨?_, fun v' hv' => ?_, ⟨⟨e444, Or.inl ?_⟩, o2, o3, o4⟩, fun k hk => ?_⟩, fun _ => W, fun e he => (by cases he)⟩)
    · show tw_upA x 444 (x 445) 442 0 = 0
      rw [h442, m3 0 (by decide) (by decide), u0 442 (by decide)]
      exact z00
    · have hv' := Sum.inl.inj hv'
      subst hv'
      exact ev
    · exact (congrFun h442 22).trans m2
    · unfold pu_fR at hk
      show tw_upA x 444 (x 445) k = σ k
      rw [tw_upA_n (show k ≠ 444 by omega), m6 k (by unfold pu_F6; omega), u0 k (by omega)]
      exact fz k (by unfold pu_fR; omega)
theorem pu_XfOK (hL : L ≤ 600) (hbuf : ∀ i, i < L → buf i < 256) : ((pu_Xf buf L).1 = none → pu_AW (pu_Xf buf L).2.2 (pu_wN buf L) (pu_hN buf L)) ∧ ∀ e, (pu_Xf buf L).1 = some e → e.1 ≠ 0 := by
  have W := (pu_A0_AW (w := 1) (h := 1) (by decide) (by decide) (by decide) (by decide)).1
  obtain ⟨WF, az⟩ := pu_aE_WF W
  have I : pu_IR (fun k i => if k = 444 then pu_aE (pu_A0 1 1) 1 1 i else if k = 443 then Int32.ofNat (buf i) else if k = 442 ∧ i = 2 then Int32.ofNat L else 0) 1 1 (pu_v (pu_A0 1 1) 2) (pu_v (pu_A0 1 1) 3) (pu_aE (pu_A0 1 1) 1 1) 0 (fun _ _ => 0) L buf 0 := by
    refine ⟨⟨funext fun i => if_pos rfl, Or.inl rfl⟩, ⟨rfl, by decide, fun i hi => absurd hi (Nat.not_lt_zero _), fun r hr j hj => ?_⟩, ⟨rfl, fun i hi => rfl⟩, rfl⟩
    dsimp only []
    by_cases e : r = 444
    · rw [if_pos e]; exact az j hj
    · rw [if_neg e, if_neg (by rcases hr with q | q | q <;> omega), if_neg (by rcases hr with q | q | q <;> omega)]
  obtain ⟨r, -, -, h1, h2⟩ := pu_rload (n := 5000) WF I (Nat.le_refl _) hL hbuf (by decide)
  exact ⟨h1, h2⟩
theorem pu_load : pu_loadOK 5000 := by
  intro w h nb nc cn len a hist buf err x H hW h8 hlen hbuf
  by_cases hx : 0 ≤ x.toInt ∧ x.toInt ≤ len
  · have ex : x = Int32.ofNat x.toInt.toNat := by
      rw [← Int32.toInt_inj, pu_toInt (by omega)]
      omega
    have hL : x.toInt.toNat ≤ len := by omega
    generalize x.toInt.toNat = L at ex hL
    subst ex
    obtain ⟨o1, o2⟩ := pu_XfOK (buf := buf) (L := L) (by omega) (fun i hi => hbuf i (by omega))
    have hc := fun σ (I : pu_IC σ w h nb nc a cn hist len buf err) => pu_cload (n := 5000) I hL o1 o2 (by decide)
    have hr := fun σ (I : pu_IR σ w h nb nc a cn hist len buf err) => pu_cons (pu_rload (n := 5000) H I hL hlen hbuf (by decide)) (fun r hr => hr.1)
    unfold pu_oLd pu_LdC at hc hr
    cases hE : (pu_Xf buf L).1 with
    | none =>
      rw [hE] at hc hr
      exact ⟨_, _, _, _, _, _, _, _, _, _, _, fun k hk => (by cases hk), hc, hr⟩
    | some e =>
      rw [hE] at hc hr
      exact ⟨_, _, _, _, _, _, _, _, _, _, _, fun k hk => (by cases hk), hc, hr⟩
  · refine ⟨.inr 1, w, h, nb, nc, cn, len, a, hist, buf, err, pu_n1, fun σ I => ?_, fun σ I => ?_⟩
    · obtain ⟨-, -, -, -, ⟨i5, i6, -⟩, -⟩ := id I
      unfold tw_P_L_load
      refine pu_bcw (R := fun r => r = .inr "java/lang/IllegalArgumentException") ?_ (fun v hv => (by cases hv)) (fun s hs => ?_)
      · unfold tw_P_X11_load
        refine pu_jn0 (pu_if (fun _ => pu_some rfl) (fun c1 => pu_if (fun c2 => ?_) (fun _ => pu_some rfl)))
        rw [Int32.lt_iff_toInt_lt, pu_toInt0] at c1
        rw [i5, Int32.le_iff_toInt_le, pu_toInt (by omega)] at c2
        exact absurd ⟨by omega, c2⟩ hx
      · cases hs
        exact pu_ift rfl (pu_some (pu_kfault rfl I))
    · unfold tw_P_X12_load
      refine pu_iropen H I (fun s s0 J fs => ?_)
      refine pu_bde pu_in_eq (pu_jn (R := fun v => v = 1) (fun v hv => ?_) (fun f hf => ?_))
      rotate_left
      · refine pu_iff (fun c => c ?_) (hf _ rfl)
        rw [J.2.2.1.1, pu_toInt0, pu_toInt (by omega), if_neg hx]
      have hv : v = 1 := hv
      subst hv
      exact pu_bde (pu_fails1 s0 (by decide)) (pu_iff pu_10 (pu_some (pu_krfault rfl (pu_IR_thr H J) fs)))
end LOAD
