/-! one change: what holds before and behind it; dig, hide -/
section DQMC
variable {Y Y' Y'' : dw_S} {fx S0 : Nat → Prop} {w h nb nc m n u i0 th r q38 d c s : Nat} {t t' : Nat → Nat} {K K' : Nat → Nat → Nat} {R R' : Nat → Nat → Int32} {κ : Nat → Nat} {a a' : Nat → Int32} {hist : Nat → Nat → Int32} {buf : Nat → Nat}
def dq_MC (fx S0 : Nat → Prop) (w h nb nc th r q38 d u : Nat) (t : Nat → Nat) (K : Nat → Nat → Nat) (R hist : Nat → Nat → Int32) (buf : Nat → Nat) (Y : dw_S) : Prop := dq_MS fx w h nb r q38 Y ∧ dq_SEP fx S0 w h nb nc (min d 8 + 1) t K R Y ∧ (t 0 = th ∧ t 1 = u ∧ R 1 = R 0) ∧ dq_BF Y q38 (min d 8) (fun i => t (i + 1)) ∧ pu_IC (dw_s Y) w h nb nc (R 0) (min (1 + d) 8) hist 0 buf (-1) ∧ ∀ j, j < min d 8 → hist (min (1 + d) 8 - 1 - j) = R (j + 2)
def dq_MD (fx S0 : Nat → Prop) (w h nb nc th r q38 d u : Nat) (isCh : Int32) (Y : dw_S) : Prop := dq_MS fx w h nb r q38 Y ∧ ∃ t K R, dq_SEP fx S0 w h nb nc (min d 8 + 1) t K R Y ∧ t 0 = th ∧ t 1 = u ∧ dq_BF Y q38 (min d 8) (fun i => t (i + 1)) ∧ ((isCh = 1 ∧ ∃ hist buf, pu_IC (dw_s Y) w h nb nc (R 0) (min (1 + (d + 1)) 8) hist 0 buf (-1) ∧ ∀ j, j < min (d + 1) 8 → hist (min (1 + (d + 1)) 8 - 1 - j) = R (j + 1)) ∨ (isCh = 0 ∧ ∃ hist buf, pu_IC (dw_s Y) w h nb nc (R 0) (min (1 + d) 8) hist 0 buf (-1) ∧ ∀ j, j < min d 8 → hist (min (1 + d) 8 - 1 - j) = R (j + 2)))
theorem dq_MC_fr {Si Sr : Nat → Nat → Prop} (M : dq_MC fx S0 w h nb nc th r q38 d u t K R hist buf Y) (F : dq_fr Si Sr Y Y') (hi : ∀ k j, Si k j → fx k) (hr : ∀ k j, Sr k j → fx k) (hq : ∀ j, ¬ Sr q38 j) : dq_MC fx S0 w h nb nc th r q38 d u t K R hist buf Y' := by
  obtain ⟨M1, H, e, B, J, hh⟩ := M
  exact ⟨dq_MS_fr M1 F, dq_SEP_fr H F hi hr, e, dq_BF_fr B F hq, by rw [F.1]; exact J, hh⟩
theorem dq_MC_th (M : dq_MC fx S0 w h nb nc th r q38 d u t K R hist buf Y) : th ≠ q38 ∧ th ≠ r := by
  obtain ⟨M1, H, e, -⟩ := M
  have o := (H.2.1 0 (Nat.zero_le _)).2.2.2.2 (t 0) dq_own_th
  rw [e.1] at o
  exact ⟨fun z => o.2 (by rw [z]; exact M1.2.2.1), fun z => o.2 (by rw [z]; exact M1.2.1)⟩
theorem dq_MC_use (M : dq_MC fx S0 w h nb nc th r q38 d u t K R hist buf Y) (F : dq_use th (K 0) Y Y') : dq_MC fx S0 w h nb nc th r q38 d u t K R hist buf Y' := by
  have ht := dq_MC_th M
  obtain ⟨M1, H, e, B, J, hh⟩ := M
  exact ⟨dq_MS_fr M1 F, dq_SEP_use H (Nat.zero_le _) (by rw [e.1]; exact F), e, dq_BF_fr B F (fun j z => ht.1 z.1.symm), by rw [F.1]; exact J, hh⟩
theorem dq_MC_I (M : dq_MC fx S0 w h nb nc th r q38 d u t K R hist buf Y) : dq_I Y th (K 0) (R 0) w h nb nc ∧ dq_sm (R 0) w h nc ∧ pu_WF (R 0) w h nb nc := by
  obtain ⟨M1, H, e, -⟩ := M
  obtain ⟨I, S, W, -⟩ := H.2.1 0 (Nat.zero_le _)
  rw [e.1] at I
  exact ⟨I, S, W⟩
theorem dq_MC_stay (M : dq_MC fx S0 w h nb nc th r q38 d u t K R hist buf Y) : dq_MD fx S0 w h nb nc th r q38 d u 0 Y := by
  obtain ⟨M1, H, e, B, J, hh⟩ := M
  exact ⟨M1, t, K, R, H, e.1, e.2.1, B, Or.inr ⟨rfl, hist, buf, J, hh⟩⟩
theorem dq_stp_cs {s : tw_Sg} {ι : Nat → Nat} (F : dq_stpI th ι nb nc (dw_cs Y s) Y') : dq_stpI th ι nb nc Y (dw_cs Y' (dw_s Y)) := ⟨rfl, F.2.1, F.2.2.1, F.2.2.2.1, F.2.2.2.2⟩
theorem dq_stp_tr {ι : Nat → Nat} (F : dq_stpI th ι nb nc Y Y') (G : dq_stpI th ι nb nc Y' Y'') : dq_stpI th ι nb nc Y Y'' := dq_fr_tr F G
theorem dq_MC_chg (M : dq_MC fx S0 w h nb nc th r q38 d u t K R hist buf Y) (F : dq_stpI th (K 0) nb nc Y (dw_cs Y' (dw_s Y))) (I' : dq_I Y' th (K 0) a' w h nb nc) (hA : pu_ag pu_Y (R 0) a') (J' : pu_IC (dw_s Y') w h nb nc a' (min (min (1 + d) 8 + 1) 8) (pu_push (min (1 + d) 8) hist (R 0)) 0 buf (-1)) : dq_MD fx S0 w h nb nc th r q38 d u 1 Y' := by
  have ht := dq_MC_th M
  obtain ⟨M1, H, ⟨e0, e1, e2⟩, B, J, hh⟩ := M
  have H' : dq_SEP fx S0 w h nb nc (min d 8 + 1) t K (fun i => if i = 0 then a' else R i) (dw_cs Y' (dw_s Y)) := by
    subst e0
    exact dq_SEP_stp H (i0 := 0) (Nat.zero_le _) F (fun i _ hi => if_neg hi) I' hA J'.1
  refine ⟨(dq_MS_fr M1 F : dq_MS fx w h nb r q38 (dw_cs Y' (dw_s Y))), t, K, _, H', e0, e1, (dq_BF_fr B F (fun j z => ht.1 z.symm) : dq_BF (dw_cs Y' (dw_s Y)) q38 (min d 8) _), Or.inl ⟨rfl, pu_push (min (1 + d) 8) hist (R 0), buf, ?_, fun j hj => ?_⟩⟩
  · rw [show min (1 + (d + 1)) 8 = min (min (1 + d) 8 + 1) 8 by omega]
    exact J'
  · rw [if_neg (by omega)]
    unfold pu_push
    by_cases c8 : min (1 + d) 8 < 8
    · rw [if_pos c8]
      by_cases j0 : j = 0
      · rw [j0, if_pos (by omega), e2]
      · rw [if_neg (by omega), show min (1 + (d + 1)) 8 - 1 - j = min (1 + d) 8 - 1 - (j - 1) by omega, hh (j - 1) (by omega), show j - 1 + 2 = j + 1 by omega]
    · rw [if_neg c8]
      by_cases j0 : j = 0
      · rw [j0, if_pos (by omega), e2]
      · rw [if_neg (by omega), show min (1 + (d + 1)) 8 - 1 - j + 1 = min (1 + d) 8 - 1 - (j - 1) by omega, hh (j - 1) (by omega), show j - 1 + 2 = j + 1 by omega]
theorem dq_lwD_ok {Jk : Int32 × Int32 × dw_S × Nat × Nat → Prop} (M : dq_MC fx S0 w h nb nc th r q38 d u t K R hist buf Y) (hc : c ≤ dw_rc) (hs : s ≤ dw_rs) (hJ : ∀ Y', dq_MD fx S0 w h nb nc th r q38 d u 1 Y' → Jk (1, 1, Y', c, s)) : dq_lwD th 1 Y c s Jk := by
  obtain ⟨I, S, W⟩ := dq_MC_I M
  unfold dq_lwD
  obtain ⟨⟨v, s1⟩, e, hv, J', -⟩ := pu_cdig M.2.2.2.2.1
  dsimp only [] at hv J'
  subst hv
  refine dq_ck ⟨hc, hs⟩ (dq_bd e (dq_ck ⟨I.1, hc, hs⟩ ?_))
  refine dq_digs (Y := dw_cs Y s1) W I (fun Y' I' F' => ?_)
  refine dq_jn (fun v => v = 1) (fun v hv => ?_) (fun f hf => dq_iff (fun z => z rfl) (hf _ rfl))
  subst hv
  have es : dw_s Y' = s1 := F'.1
  exact hJ Y' (dq_MC_chg M (dq_stp_cs F') I' (pu_ag_Y (pu_dig_ag W)) (by rw [es]; exact J'))
theorem dq_hideOf {x : Nat} (hx : x < 10000) : pu_hideOf (Int32.ofNat x) = some x := by
  unfold pu_hideOf
  rw [pu_toInt (by omega), if_pos ⟨by omega, by omega⟩, pu_n (by omega)]
theorem dq_hide_ag {i : Nat} : pu_ag pu_Y a (pu_aHide a w h nb nc i) := fun j hj => by
  have h6 : j ≠ 6 := fun z => hj (Or.inl (Or.inl (by omega)))
  have h7 : j ≠ 7 := fun z => hj (Or.inl (Or.inl (by omega)))
  unfold pu_aHide
  split
  · rw [pu_upd_n h7, pu_upd_n h6]
  · rw [pu_upd_n h7, pu_upd_n h6]
/-- two numbers behind another: omega's proof of it with large numerals is too deep for the kernel -/
theorem dq_rm2 (s a b rs : Nat) (h : s + (a + b) ≤ rs) : s + a + b ≤ rs := by omega
theorem dq_lwH_ok {Jk : Int32 × Int32 × dw_S × Nat × Nat → Prop} (M : dq_MC fx S0 w h nb nc th r q38 d u t K R hist buf Y) (hn : 700000 < n) (hc : c + 96 ≤ dw_rc) (hs : s + 8580 ≤ dw_rs) (hJ : ∀ Y', dq_MD fx S0 w h nb nc th r q38 d u 1 Y' → Jk (1, 1, Y', c + 1 + 95, s + 6 + 8574)) : dq_lwH n r th 1 Y c s Jk := by
  unfold dq_lwH
  revert hc hs
  generalize dw_rc = rc
  generalize dw_rs = rs
  intro hc hs
  refine dq_ck ⟨M.1.1, by omega, by omega⟩ (dq_below (b := 40) M.1.1 (by omega) (by omega) (fun v Y1 hv F1 => dq_lt (dq_ck ⟨by omega, by omega⟩ ?_)))
  have hs2 : s + 6 + 8574 ≤ rs := dq_rm2 s 6 8574 rs hs
  have M1 := dq_MC_fr M F1 (fun k j (z : k = r) => by rw [z]; exact M.1.2.1) (fun _ _ z => absurd z id) (fun _ z => z)
  obtain ⟨I, S, W⟩ := dq_MC_I M1
  dsimp only []
  refine dq_qhide M1.2.2.2.2.1 (by omega) (dq_hideOf (by omega)) (fun s1 J' => dq_ck ⟨I.1, by omega, hs2⟩ ?_)
  refine dq_hides (Y := dw_cs Y1 s1) W S I hn (by omega) (fun Y' I' F' => ?_)
  refine dq_jn (fun v => v = 1) (fun v hv => ?_) (fun f hf => dq_iff (fun z => z rfl) (hf _ rfl))
  subst hv
  have es : dw_s Y' = s1 := F'.1
  exact dq_lt (hJ Y' (dq_MC_chg M1 (dq_stp_cs F') I' dq_hide_ag (by rw [es]; exact J')))
end DQMC
