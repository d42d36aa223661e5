/-! one change: use -/
section DQMU
variable {Y Y' Y'' : dw_S} {fx S0 : Nat → Prop} {w h nb nc m n u i0 th r q38 d c s : Nat} {t t' : Nat → Nat} {K K' : Nat → Nat → Nat} {R R' : Nat → Nat → Int32} {κ : Nat → Nat} {a a' : Nat → Int32} {hist : Nat → Nat → Int32} {buf : Nat → Nat}
theorem dq_use_ag {q : Nat} {x : Int32} (hq : q < 4) : pu_ag pu_Y a (pu_aUse a q x) := fun j hj => by
  have h6 : j ≠ pu_cl q := fun z => hj (Or.inl (by unfold pu_X; unfold pu_cl at z; omega))
  unfold pu_aUse
  exact pu_upd_n h6
theorem dq_clueOf_s {x : Nat} (hx : x < nc) (h4 : nc ≤ 8) : pu_clueOf nc (Int32.ofNat x) = some x := by
  unfold pu_clueOf
  rw [pu_toInt (by omega), if_pos ⟨by omega, by omega⟩, pu_n (by omega)]
theorem dq_clueOf_n8 (h4 : nc ≤ 8) : pu_clueOf nc (Int32.ofNat nc) = none := by
  unfold pu_clueOf
  rw [if_neg]
  rw [pu_toInt (by omega)]
  omega
theorem dq_MC_r (M : dq_MC fx S0 w h nb nc th r q38 d u t K R hist buf Y) (F : dq_fr (fun k _ => k = r) dq_no Y Y') : dq_MC fx S0 w h nb nc th r q38 d u t K R hist buf Y' := dq_MC_fr M F (fun k j (z : k = r) => by rw [z]; exact M.1.2.1) (fun _ _ z => absurd z id) (fun _ z => z)
set_option maxHeartbeats 1000000 in
theorem dq_lwS_ok {Jk : Int32 × Int32 × dw_S × Nat × Nat → Prop} (M : dq_MC fx S0 w h nb nc th r q38 d u t K R hist buf Y) (hn : 700000 < n) (hc : c + 96 ≤ dw_rc) (hs : s + 8580 ≤ dw_rs) (hJ : ∀ isCh Y' c' s', dq_MD fx S0 w h nb nc th r q38 d u isCh Y' → c' ≤ c + 96 → s' ≤ s + 8580 → Jk (1, isCh, Y', c', s')) : dq_lwS n r th Y c s Jk := by
  unfold dq_lwS
  revert hc hs
  generalize dw_rc = rc
  generalize dw_rs = rs
  intro hc hs
  have hs2 : s + 6 + 8574 ≤ rs := dq_rm2 s 6 8574 rs hs
  obtain ⟨I, S, W⟩ := dq_MC_I M
  have hnc : nc ≤ 4 := (dq_lens W).2.1
  have hw2 := M.1.2.2.2.1
  obtain ⟨hwh, hwh2, hwp, hw0⟩ := dq_RD_b hw2
  have cl := I.2.2.2.2.2.1.1
  refine dq_ck I.1 (dq_nn I.2.2.1.2.2.2.2.1 (dq_ck cl.1 (dq_ck ⟨M.1.1, by omega, by omega⟩ ?_)))
  rw [cl.2, show Int32.ofNat nc + (1 : Int32) = Int32.ofNat (nc + 1) from pu_add nc 1]
  refine dq_below M.1.1 (by omega) (by omega) (fun q Y1 hq F1 => dq_lt ?_)
  have M1 := dq_MC_r M F1
  clear F1 M I S W cl
  dsimp only []
  refine dq_ck ⟨M1.1.1, by omega, by omega⟩ (dq_below (b := 2) M1.1.1 (by omega) (by omega) (fun x Y2 hx F2 => ?_))
  have M2 := dq_MC_r M1 F2
  clear F2 M1
  obtain ⟨I, S, W⟩ := dq_MC_I M2
  have cl := I.2.2.2.2.2.1.1
  have r6 := I.2.2.1.2.2.2.2.1
  refine dq_jn (fun v => v = 0 ∨ v = 1) (fun y hy => dq_lt ?_) (fun f hf => dq_if (fun _ => hf _ (Or.inl rfl)) (fun _ => hf _ (Or.inr rfl)))
  dsimp only []
  refine dq_ck I.1 (dq_nn r6 (dq_ck cl.1 ?_))
  rw [cl.2]
  refine dq_jn (fun v => (v = 0 ∧ q = nc) ∨ (v = 1 ∧ q < nc)) (fun v hv => dq_lt ?_) (fun f hf => dq_if (fun z => hf _ (Or.inl ⟨rfl, by rw [pu_le (by omega) (by omega)] at z; omega⟩)) (fun z => hf _ (Or.inr ⟨rfl, by rw [pu_le (by omega) (by omega)] at z; omega⟩)))
  rcases hv with ⟨ev, hq2⟩ | ⟨ev, hq2⟩
  · subst ev hq2
    refine dq_jn (fun Y' => Y' = Y2) (fun Y' hY => ?_) (fun f hf => dq_ift rfl (hf _ rfl))
    subst hY
    refine dq_ck ⟨by omega, by omega⟩ (dq_quseX M2.2.2.2.2.1 (by omega) (dq_clueOf_n hnc) ?_)
    refine dq_jn (fun a => a = ((-2000000097 : Int32), Y', c + 1, s + 6)) (fun a ha => ?_) (fun f hf => dq_ift rfl (hf _ rfl))
    subst ha
    refine dq_jn (fun v => v = 1) (fun v hv => ?_) (fun f hf => dq_iff (fun z => z rfl) (hf _ rfl))
    subst hv
    exact dq_lt (hJ 0 Y' _ _ (dq_MC_stay M2) (by show c + 1 ≤ _; omega) (show s + 6 ≤ s + 8580 from Nat.add_le_add_left (by decide) s))
  · subst ev
    obtain ⟨⟨k1, k2, -⟩, -⟩ := I.2.2.2.2.2.1.2 q hq2
    have hy1 : y = if y = 0 then 0 else 1 := by rcases hy with e | e <;> subst e <;> rfl
    have h01 : tw_01 y = true := by rcases hy with e | e <;> subst e <;> rfl
    refine dq_jn (fun Y' => Y' = dw_pi Y2 (K 0 (20 + q)) 2 y) (fun Y' hY => ?_) (fun f hf => dq_iff (by decide) (dq_ck I.1 (dq_nn r6 (dq_ck (dq_A1_ok cl hq2 (by omega)) ?_))))
    · obtain ⟨I3, F3⟩ := dq_usedW (x := y) W I hq2 hy1
      rw [← hY] at I3 F3
      have es : dw_s Y' = dw_s Y2 := F3.1
      refine dq_ck ⟨by omega, by omega⟩ (dq_quse (by rw [es]; exact M2.2.2.2.2.1) (by omega) (dq_clueOf_s hq2 (by omega)) (fun s1 J' => ?_))
      have W3 := J'.1
      have S3 := dq_sm_ag (dq_use_ag (x := y) (show q < 4 by omega)) S W
      refine dq_jn (fun a => a.1 = Int32.ofNat (pu_nleft (pu_aUse (R 0) q y) w h nb nc) ∧ dq_MD fx S0 w h nb nc th r q38 d u 1 a.2.1 ∧ a.2.2.1 = c + 1 + 95 ∧ a.2.2.2 = s + 6 + 8574) (fun a ha => ?_) (fun f hf => dq_iff (by decide) (dq_ck ⟨I3.1, by omega, hs2⟩ ?_))
      · obtain ⟨a1, Ya, ca, sa⟩ := a
        obtain ⟨g1, g2, g3, g4⟩ := ha
        dsimp only [] at g1 g2 g3 g4
        subst g1 g3 g4
        refine dq_jn (fun v => v = 1) (fun v hv => ?_) (fun f hf => dq_iff (fun z => z rfl) (hf _ rfl))
        subst hv
        exact dq_lt (hJ 1 Ya _ _ g2 (by show c + 1 + 95 ≤ _; omega) (show s + 6 + 8574 ≤ s + 8580 from dq_rm2 s 6 8574 _ (show s + (6 + 8574) ≤ s + 8580 from Nat.le_refl _)))
      · refine dq_left (Y := dw_cs Y' s1) W3 S3 I3 (by omega) (fun rr RQ => dq_ck ⟨by omega, hs2⟩ ?_)
        refine dq_many RQ.2.1 RQ.2.2.2 (by omega) (by omega) (hf _ ⟨rfl, ?_, rfl, rfl⟩)
        have F5 := dq_use_stp (nb := nb) (nc := nc) RQ.1
        have F6 : dq_stpI th (K 0) nb nc Y' (dw_cs rr.2 (dw_s Y')) := dq_stp_cs F5
        rw [es] at F6
        have e5 : dw_s rr.2 = s1 := F5.1
        exact dq_MC_chg M2 (dq_stp_tr F3 F6) (dq_I_use RQ.1 I3) (dq_use_ag (by omega)) (by rw [e5]; exact J')
    · rw [pu_n (show q < 2147483648 by omega)]
      exact dq_nn k1 (dq_ck h01 (dq_ck k2 (dq_lt (hf _ rfl))))
end DQMU
