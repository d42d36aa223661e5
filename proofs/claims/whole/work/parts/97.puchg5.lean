/-! hide of the reference -/
section CHG5
variable {σ : tw_Sg} {w h nb nc cn len n : Nat} {a a' : Nat → Int32} {hist : Nat → Nat → Int32} {buf : Nat → Nat} {err : Int32}
theorem pu_rhide {x : Int32} (H : pu_WF a w h nb nc) (I : pu_IR σ w h nb nc a cn hist len buf err) (hn : 2000 < n) : pu_wp (tw_P_X12_hide n x σ) (pu_KR σ (pu_oHide a w h nb nc x) (fun s => match pu_hideOf x with | none => pu_IR s w h nb nc a cn hist len buf err | some i => pu_IR s w h nb nc (pu_aHide a w h nb nc i) (min (cn + 1) 8) (pu_push cn hist a) len buf err)) := by
  obtain ⟨-, -, w1, w2, h1, h2⟩ := id H.1
  have h400 := pu_wfm_le H.1
  have hKle : pu_nleft a w h nb nc ≤ w * h := pu_sum_le _
  have h9999 : (9999 : Int32).toInt = 9999 := by decide
  unfold tw_P_X12_hide
  refine pu_iropen H I (fun s h0 J hf => ?_)
  refine pu_bde pu_in_eq ?_
  rw [pu_toInt0, h9999]
  refine pu_jn (R := fun v => v = if pu_hideOf x = none then 1 else 0) (fun v hv => ?_) (fun f hf' => ?_)
  rotate_left
  · refine pu_if (fun c1 => ?_) (fun c1 => ?_)
    · have c1 : 0 ≤ x.toInt ∧ x.toInt ≤ 9999 := Classical.byContradiction fun z => c1 (if_neg z)
      refine hf' _ ?_
      rw [if_neg]
      rw [show pu_hideOf x = some x.toNatClampNeg from if_pos c1]
      exact fun z => by cases z
    · have c1 : ¬ (0 ≤ x.toInt ∧ x.toInt ≤ 9999) := fun z => c1 (by rw [if_pos z]; exact pu_10)
      refine hf' _ ?_
      rw [if_pos]
      exact if_neg c1
  cases e : pu_hideOf x with
  | none =>
    rw [e, if_pos rfl] at hv
    subst hv
    have ho : pu_oHide a w h nb nc x = .inr 1 := by unfold pu_oHide; rw [e]
    refine pu_bde (pu_fails1 h0 (by decide)) (pu_iff pu_10 (pu_some (pu_krfault ho (pu_IR_thr H J) hf)))
  | some i =>
    rw [e, if_neg (fun z => by cases z)] at hv
    subst hv
    have ho : pu_oHide a w h nb nc x = .inl (Int32.ofNat (pu_nleft a w h nb nc)) := by unfold pu_oHide; rw [e]
    obtain ⟨rfl, hi⟩ := pu_hide_some e
    rw [ho]
    refine pu_bde (pu_fails0 h0) (pu_ift rfl ?_)
    refine pu_bd (pu_irrem H J hn) (fun s3 hs3 => ?_)
    obtain ⟨r1, r2, r3, r4, r5, r6⟩ := hs3
    have hf3 : pu_fr pu_fR σ s3 := pu_fr_trans hf (pu_fr_mono r6 (fun k hk => by unfold pu_F6 at hk; unfold pu_fR; omega))
    have h03 : s3 442 0 = 0 := by rw [r3 0 (by decide) (by decide)]; exact h0
    have J3 : pu_IR s3 w h nb nc a (min (cn + 1) 8) (pu_push cn hist a) len buf err := pu_irset J r1 r2 r3 r5 r4 (pu_azero J) (fun _ _ => rfl)
    refine pu_bd (pu_IR_count H J3 (by omega)) (fun r hr => ?_)
    obtain ⟨x1, J4, x3, x4⟩ := hr
    have hf4 := pu_fr_trans hf3 x4
    have h04 : r.2 442 0 = 0 := x3.trans h03
    rw [x1, pu_l444]
    clear x1 x3 x4 r1 r2 r3 r4 r5 r6 h03 hf3 J3
    generalize r.2 = s4 at *
    refine pu_lt ?_
    refine pu_jn (R := fun v => v = Int32.ofNat (i % pu_nleft a w h nb nc) ∨ pu_nleft a w h nb nc = 0) (fun v hv => ?_) (fun f hf' => ?_)
    rotate_left
    · refine pu_if (fun c1 => ?_) (fun c1 => ?_)
      · have c2 : pu_nleft a w h nb nc ≠ 0 := fun z => c1 (by rw [z]; rfl)
        refine pu_ck ?_ ?_
        · rw [decide_eq_false c1]
          rfl
        rw [pu_rem (by omega) (by omega)]
        exact hf' _ (Or.inl rfl)
      · have c1 := (pu_eq (b := 0) (by omega) (by decide)).mp (Classical.not_not.mp c1)
        exact hf' _ (Or.inr c1)
    refine pu_lt ?_
    refine pu_jn (R := fun u => u = Int32.ofNat (if pu_nleft a w h nb nc = 0 then 0 else 1)) (fun u hu => ?_) (fun f hf' => ?_)
    rotate_left
    · refine pu_if (fun c1 => ?_) (fun c1 => ?_)
      · have c2 : pu_nleft a w h nb nc ≠ 0 := fun z => c1 (by rw [z]; rfl)
        exact hf' _ (by rw [if_neg c2]; rfl)
      · have c1 := (pu_eq (b := 0) (by omega) (by decide)).mp (Classical.not_not.mp c1)
        exact hf' _ (by rw [if_pos c1]; rfl)
    subst hu
    generalize hX : (if pu_nleft a w h nb nc = 0 then 0 else 1 : Nat) = X
    have hX3 : X < 3 := by rw [← hX]; split <;> omega
    have hmk : ∀ (t : tw_Sg) (c : Nat), t 444 = upd (upd a 6 (Int32.ofNat X)) 7 (Int32.ofNat c) → (∀ k, k ≠ 444 → t k = s4 k) → pu_IR t w h nb nc (upd (upd a 6 (Int32.ofNat X)) 7 (Int32.ofNat c)) (min (cn + 1) 8) (pu_push cn hist a) len buf err := fun t c z1 z2 => by
      obtain ⟨⟨k1, k2⟩, ⟨k3, k4, k5, k6⟩, ⟨k7, k8⟩, k9⟩ := J4
      have e42 : t 442 = s4 442 := z2 442 (by decide)
      refine ⟨⟨z1, ?_⟩, ⟨by rw [e42]; exact k3, k4, fun i hi => by rw [z2 _ (by omega)]; exact k5 i hi, fun r hr j hj => ?_⟩, ⟨by rw [e42]; exact k7, fun i hi => by rw [z2 443 (by decide)]; exact k8 i hi⟩, by rw [e42]; exact k9⟩
      · rw [e42]
        rcases k2 with z | ⟨y1, y2⟩
        · exact Or.inl z
        · have hnc := H.2.2.1.2.1
          refine Or.inr ⟨y1, fun q hq l hl => ?_⟩
          have hA : pu_ag pu_X a (upd (upd a 6 (Int32.ofNat X)) 7 (Int32.ofNat c)) := pu_ag_X4 pu_u67_ag
          rw [pu_ag_nl (pu_ag_Y hA) (by omega)] at hl
          refine pu_es_ext (pu_es_cong (y2 q hq l hl) (z2 _ (by unfold pu_En; omega))) (fun d _ => (pu_ag_Fw hA H hq l hl d).symm)
      · by_cases er : r = 444
        · subst er
          rw [z1, pu_u67_e (by omega) (by omega), ← k1]
          exact k6 444 hr j hj
        · rw [z2 r er]
          exact k6 r hr j hj
    refine pu_ck (by decide) (pu_lt (pu_ck (by decide) ?_))
    refine pu_ltG (P := fun t => pu_IR t w h nb nc (upd (upd a 6 (Int32.ofNat X)) 7 (Int32.ofNat 0)) (min (cn + 1) 8) (pu_push cn hist a) len buf err ∧ t 442 0 = 0 ∧ pu_fr pu_fR σ t) ⟨hmk _ 0 ?_ (fun k hk => (tw_up_n hk).trans (tw_up_n hk)), ?_, pu_fr_trans hf4 (pu_fr_trans (pu_fr_up (by unfold pu_fR; omega)) (pu_fr_up (by unfold pu_fR; omega)))⟩ (fun t ht => ?_)
    · rw [tw_up_s, tw_up_s, J4.1.1]
      rfl
    · rw [tw_up_n (by decide), tw_up_n (by decide)]
      exact h04
    obtain ⟨t1, t2, t3⟩ := ht
    have hsum : ∀ k, k ≤ w * h → pu_sum (pu_left a w h nb nc) k ≤ pu_nleft a w h nb nc := fun k hk => pu_sum_mono _ hk
    -- where the chest's cell stands when the cells below k have been looked at
    refine pu_lt ?_
    refine pu_lp (J := fun z => ∃ k c, k ≤ w * h ∧ c < w * h ∧ z.2.1 = Int32.ofNat k ∧ (pu_nleft a w h nb nc ≠ 0 → z.1 = Int32.ofInt (((i % pu_nleft a w h nb nc : Nat) : Int) - (pu_sum (pu_left a w h nb nc) k : Nat)) ∧ (pu_sum (pu_left a w h nb nc) k ≤ i % pu_nleft a w h nb nc ∧ c = 0 ∨ c = pu_g (pu_left a w h nb nc) (w * h) (i % pu_nleft a w h nb nc))) ∧ (pu_nleft a w h nb nc = 0 → c = 0) ∧ pu_IR z.2.2 w h nb nc (upd (upd a 6 (Int32.ofNat X)) 7 (Int32.ofNat c)) (min (cn + 1) 8) (pu_push cn hist a) len buf err ∧ z.2.2 442 0 = 0 ∧ pu_fr pu_fR σ z.2.2) (m := fun z => w * h - z.2.1.toNatClampNeg) ?_ n _ (by show w * h - _ < n; omega) ⟨0, 0, by omega, Nat.mul_pos w1 h1, rfl, fun hK => ⟨?_, Or.inl ⟨Nat.zero_le _, rfl⟩⟩, fun _ => rfl, t1, t2, t3⟩
    rotate_left
    · rcases hv with z | z
      · show v = _
        rw [z, ← pu_ofInt (by have := Nat.mod_lt i (Nat.pos_of_ne_zero hK); omega)]
        congr 1
      · exact absurd z hK
    clear t1 t2 t3 hmk
    rintro k18 ⟨ll, kk, s5⟩ ⟨k, c, hk, hc, e1, hl, hz, I5, h05, hf5⟩ hk18
    dsimp only [] at e1 hl I5 h05 hf5
    subst e1
    dsimp only []
    have W5 : pu_WF (upd (upd a 6 (Int32.ofNat X)) 7 (Int32.ofNat c)) w h nb nc := pu_u67_WF H hX3 hc
    have hA5 : pu_ag pu_X4 a (upd (upd a 6 (Int32.ofNat X)) 7 (Int32.ofNat c)) := pu_u67_ag
    refine pu_bde (pu_rcells (σ := s5) (w := w) (h := h) (by rw [I5.1.1]; exact W5.1)) ?_
    have hend : (pu_nleft a w h nb nc = 0 ∨ k = w * h) → upd (upd a 6 (Int32.ofNat X)) 7 (Int32.ofNat c) = pu_aHide a w h nb nc i := fun z => by
      unfold pu_aHide
      by_cases hK : pu_nleft a w h nb nc = 0
      · rw [if_pos hK] at hX ⊢
        rw [hz hK, ← hX]
        rfl
      · rw [if_neg hK] at hX ⊢
        have hkm : k = w * h := z.resolve_left hK
        obtain ⟨-, z2⟩ := hl hK
        have hmod := Nat.mod_lt i (Nat.pos_of_ne_zero hK)
        have hck : c = pu_g (pu_left a w h nb nc) (w * h) (i % pu_nleft a w h nb nc) := by
          rcases z2 with ⟨y, -⟩ | y
          · rw [hkm] at y
            have y : pu_nleft a w h nb nc ≤ _ := y
            omega
          · exact y
        rw [← hck, ← hX]
        rfl
    refine pu_jn (R := fun _ => pu_nleft a w h nb nc = 0 ∨ k = w * h) (fun u hu => ?_) (fun f hf' => ?_)
    · have I6 := I5
      rw [hend hu] at I6
      exact pu_some ⟨h05, fun v hv => Sum.inl.inj hv, I6, hf5⟩
    refine pu_if (fun c1 => ?_) (fun c1 => ?_)
    · have c1 := (pu_le (by omega) (by omega)).mp c1
      exact hf' () (Or.inr (by omega))
    have c1 : k < w * h := by rw [pu_le (by omega) (by omega)] at c1; omega
    refine pu_if (fun c2 => ?_) (fun c2 => ?_)
    · have c2 := (pu_le (b := 0) (by omega) (by decide)).mp c2
      exact hf' () (Or.inl (by omega))
    have hK : pu_nleft a w h nb nc ≠ 0 := fun z => c2 ((pu_le (b := 0) (by omega) (by decide)).mpr (by omega))
    obtain ⟨l1, l2⟩ := hl hK
    subst l1
    have hmod := Nat.mod_lt i (Nat.pos_of_ne_zero hK)
    refine pu_bd (pu_rleft W5 I5.1 c1 (by omega)) (fun r hr => ?_)
    obtain ⟨x1, x2, x3⟩ := hr
    obtain ⟨q1, q2, q3⟩ := pu_RS_FQ x3
    have I6 : pu_IR r.2 w h nb nc (upd (upd a 6 (Int32.ofNat X)) 7 (Int32.ofNat c)) (min (cn + 1) 8) (pu_push cn hist a) len buf err := pu_IR_Q I5 x2 q1 q3
    have hf6 : pu_fr pu_fR σ r.2 := pu_fr_trans hf5 (pu_fr_mono q3 (fun k hk => by unfold pu_FQ at hk; unfold pu_fR; omega))
    have h06 : r.2 442 0 = 0 := q2.trans h05
    rw [pu_ag_left hA5 H c1] at x1
    have hsk := hsum k hk
    have hsk1 := hsum (k + 1) c1
    refine pu_jn (R := fun v => ∃ c', c' < w * h ∧ v.1 = Int32.ofInt (((i % pu_nleft a w h nb nc : Nat) : Int) - (pu_sum (pu_left a w h nb nc) (k + 1) : Nat)) ∧ (pu_sum (pu_left a w h nb nc) (k + 1) ≤ i % pu_nleft a w h nb nc ∧ c' = 0 ∨ c' = pu_g (pu_left a w h nb nc) (w * h) (i % pu_nleft a w h nb nc)) ∧ pu_IR v.2 w h nb nc (upd (upd a 6 (Int32.ofNat X)) 7 (Int32.ofNat c')) (min (cn + 1) 8) (pu_push cn hist a) len buf err ∧ v.2 442 0 = 0 ∧ pu_fr pu_fR σ v.2) (fun v hv => ?_) (fun f2 hf2 => ?_)
    · obtain ⟨c', y1, y2, y3, y4, y5, y6⟩ := hv
      refine pu_lt ?_
      have em : Int32.ofNat k + (1 : Int32) = Int32.ofNat (k + 1) := pu_add k 1
      rw [em]
      refine hk18 _ ⟨k + 1, c', by omega, y1, rfl, fun _ => ⟨y2, y3⟩, fun z => absurd z hK, y4, y5, y6⟩ ?_
      show w * h - (Int32.ofNat (k + 1)).toNatClampNeg < w * h - (Int32.ofNat k).toNatClampNeg
      rw [pu_n (by omega), pu_n (by omega)]
      omega
    refine pu_if (fun c3 => ?_) (fun c3 => ?_)
    rotate_left
    · have c3 := Classical.not_not.mp c3
      rw [x1, pu_b1_0] at c3
      have es : pu_sum (pu_left a w h nb nc) (k + 1) = pu_sum (pu_left a w h nb nc) k := by rw [pu_sum_S, c3]; rfl
      refine hf2 _ ⟨c, hc, ?_, ?_, I6, h06, hf6⟩
      · rw [es]
      · rw [es]; exact l2
    rw [x1, pu_b1_0] at c3
    have hlf := pu_bF c3
    have es : pu_sum (pu_left a w h nb nc) (k + 1) = pu_sum (pu_left a w h nb nc) k + 1 := by rw [pu_sum_S, hlf]; rfl
    have ed : Int32.ofInt (((i % pu_nleft a w h nb nc : Nat) : Int) - (pu_sum (pu_left a w h nb nc) k : Nat)) + (-1 : Int32) = Int32.ofInt (((i % pu_nleft a w h nb nc : Nat) : Int) - (pu_sum (pu_left a w h nb nc) (k + 1) : Nat)) := by
      rw [es, show (-1 : Int32) = Int32.ofInt (-1) from rfl, pu_addII]
      congr 1
      omega
    refine pu_jn (R := fun t => ∃ c', c' < w * h ∧ (pu_sum (pu_left a w h nb nc) (k + 1) ≤ i % pu_nleft a w h nb nc ∧ c' = 0 ∨ c' = pu_g (pu_left a w h nb nc) (w * h) (i % pu_nleft a w h nb nc)) ∧ pu_IR t w h nb nc (upd (upd a 6 (Int32.ofNat X)) 7 (Int32.ofNat c')) (min (cn + 1) 8) (pu_push cn hist a) len buf err ∧ t 442 0 = 0 ∧ pu_fr pu_fR σ t) (fun t ht => ?_) (fun f3 hf3 => ?_)
    · obtain ⟨c', y1, y3, y4, y5, y6⟩ := ht
      rw [ed]
      exact pu_lt (hf2 _ ⟨c', y1, rfl, y3, y4, y5, y6⟩)
    refine pu_if (fun c4 => ?_) (fun c4 => ?_)
    · have c4 : ((i % pu_nleft a w h nb nc : Nat) : Int) - (pu_sum (pu_left a w h nb nc) k : Nat) ≠ 0 := fun z => c4 (by rw [z]; rfl)
      refine hf3 _ ⟨c, hc, ?_, I6, h06, hf6⟩
      rcases l2 with ⟨y1, y2⟩ | y
      · exact Or.inl ⟨by omega, y2⟩
      · exact Or.inr y
    · have c4 := Classical.not_not.mp c4
      have c4 : ((i % pu_nleft a w h nb nc : Nat) : Int) - (pu_sum (pu_left a w h nb nc) k : Nat) = 0 := by
        have := congrArg Int32.toInt c4
        rw [pu_int (by omega) (by omega), pu_toInt0] at this
        exact this
      have hgk : pu_g (pu_left a w h nb nc) (w * h) (i % pu_nleft a w h nb nc) = k := by
        rw [show i % pu_nleft a w h nb nc = pu_sum (pu_left a w h nb nc) k from by omega]
        exact pu_g_of hlf (w * h) c1
      refine pu_ck (by decide) (pu_lt (hf3 _ ⟨k, c1, Or.inr hgk.symm, ?_, ?_, pu_fr_trans hf6 (pu_fr_up (by unfold pu_fR; omega))⟩))
      · have hA7 : pu_ag pu_X4 (upd (upd a 6 (Int32.ofNat X)) 7 (Int32.ofNat c)) (upd (upd a 6 (Int32.ofNat X)) 7 (Int32.ofNat k)) := fun j hj => by
          have h6 : j ≠ 6 := fun e => hj (by rw [e]; unfold pu_X4; omega)
          have h7 : j ≠ 7 := fun e => hj (by rw [e]; unfold pu_X4; omega)
          rw [pu_u67_e h6 h7, pu_u67_e h6 h7]
        obtain ⟨⟨k1, k2⟩, ⟨k3, k4, k5, k6⟩, ⟨k7, k8⟩, k9⟩ := I6
        have e42 : ∀ y, tw_up r.2 444 (Int32.toNatClampNeg (7 : Int32)) y 442 = r.2 442 := fun y => tw_up_n (by decide)
        have en : ∀ y k, k ≠ 444 → tw_up r.2 444 (Int32.toNatClampNeg (7 : Int32)) y k = r.2 k := fun y k hk => tw_up_n hk
        refine ⟨⟨?_, ?_⟩, ⟨by rw [e42]; exact k3, k4, fun i hi => by rw [en _ _ (by omega)]; exact k5 i hi, fun r' hr j hj => ?_⟩, ⟨by rw [e42]; exact k7, fun i hi => by rw [en _ _ (by decide)]; exact k8 i hi⟩, by rw [e42]; exact k9⟩
        · rw [tw_up_s, k1]
          show upd (upd (upd a 6 (Int32.ofNat X)) 7 (Int32.ofNat c)) 7 (Int32.ofNat k) = _
          funext j
          by_cases e7 : j = 7
          · rw [e7, pu_upd_s, pu_upd_s]
          · rw [pu_upd_n e7, pu_upd_n e7, pu_upd_n e7]
        · rw [e42]
          rcases k2 with z | ⟨y1, y2⟩
          · exact Or.inl z
          · have hnc := H.2.2.1.2.1
            refine Or.inr ⟨y1, fun q hq l hl => ?_⟩
            rw [pu_ag_nl (pu_ag_Y (pu_ag_X4 hA7)) (by omega)] at hl
            exact pu_es_ext (pu_es_cong (y2 q hq l hl) (en _ _ (by unfold pu_En; omega))) (fun d _ => (pu_ag_Fw (pu_ag_X4 hA7) W5 hq l hl d).symm)
        · by_cases er : r' = 444
          · subst er
            have hz := k6 444 hr j hj
            rw [k1, pu_u67_e (by omega) (by omega)] at hz
            rw [tw_up_s, k1]
            show upd (upd (upd a 6 (Int32.ofNat X)) 7 (Int32.ofNat c)) 7 (Int32.ofNat k) j = 0
            rw [pu_upd_n (by omega), pu_u67_e (by omega) (by omega)]
            exact hz
          · rw [en _ _ er]
            exact k6 r' hr j hj
      · show tw_up r.2 444 (Int32.toNatClampNeg (7 : Int32)) (Int32.ofNat k) 442 0 = 0
        rw [tw_up_n (by decide)]
        exact h06
end CHG5
