/-! one change: turn -/
section DQMT
variable {Y Y' Y'' : dw_S} {fx S0 : Nat → Prop} {w h nb nc m n u i0 th r q38 d c s : Nat} {t t' : Nat → Nat} {K K' : Nat → Nat → Nat} {R R' : Nat → Nat → Int32} {κ : Nat → Nat} {a a' : Nat → Int32} {hist : Nat → Nat → Int32} {buf : Nat → Nat}
theorem dq_t9 : ∀ x : Fin 9, (4 : Int32) ≤ (if 0 ≤ Int32.ofNat x.val - (4 : Int32) then Int32.ofNat x.val - (4 : Int32) else 0 - (Int32.ofNat x.val - (4 : Int32))) ↔ ¬ (-3 ≤ (Int32.ofNat x.val - (4 : Int32)).toInt ∧ (Int32.ofNat x.val - (4 : Int32)).toInt ≤ 3) := by decide
set_option maxHeartbeats 1000000 in
theorem dq_lwR_ok {Jk : Int32 × Int32 × dw_S × Nat × Nat → Prop} (M : dq_MC fx S0 w h nb nc th r q38 d u t K R hist buf Y) (hn : 700000 < n) (hc : c + 1 ≤ dw_rc) (hs : s + 6 ≤ dw_rs) (hJ : ∀ isCh Y', dq_MD fx S0 w h nb nc th r q38 d u isCh Y' → Jk (1, isCh, Y', c + 1, s + 6)) : dq_lwR n r th Y c s Jk := by
  unfold dq_lwR
  revert hc hs
  generalize dw_rc = rc
  generalize dw_rs = rs
  intro hc hs
  obtain ⟨I, S, W⟩ := dq_MC_I M
  have hnb := M.1.2.2.2.2.1
  have bl := I.2.2.2.2.1.1
  refine dq_ck I.1 (dq_nn I.2.2.1.2.2.2.1 (dq_ck bl.1 (dq_ck ⟨M.1.1, by omega, by omega⟩ ?_)))
  rw [bl.2, show Int32.ofNat nb + (1 : Int32) = Int32.ofNat (nb + 1) from pu_add nb 1]
  refine dq_below M.1.1 (by omega) (by omega) (fun q Y1 hq F1 => dq_lt ?_)
  have M1 := dq_MC_r M F1
  clear F1 M I S W bl
  dsimp only []
  refine dq_ck ⟨M1.1.1, by omega, by omega⟩ (dq_below (b := 9) M1.1.1 (by omega) (by omega) (fun x Y2 hx F2 => dq_lt ?_))
  have M2 := dq_MC_r M1 F2
  clear F2 M1
  dsimp only []
  have h9 := dq_t9 ⟨x, hx⟩
  dsimp only [] at h9
  generalize Int32.ofNat x - (4 : Int32) = y at h9 ⊢
  obtain ⟨I, S, W⟩ := dq_MC_I M2
  have bl := I.2.2.2.2.1.1
  have r5 := I.2.2.1.2.2.2.1
  have J2 := M2.2.2.2.2.1
  refine dq_ck I.1 (dq_nn r5 (dq_ck bl.1 ?_))
  rw [bl.2]
  refine dq_jn (fun v => (v = 0 ∧ q = nb) ∨ (v = 1 ∧ q < nb)) (fun v hv => dq_lt ?_) (fun f hf => dq_if (fun z => hf _ (Or.inl ⟨rfl, by rw [pu_le (by omega) (by omega)] at z; omega⟩)) (fun z => hf _ (Or.inr ⟨rfl, by rw [pu_le (by omega) (by omega)] at z; omega⟩)))
  rcases hv with ⟨ev, hq2⟩ | ⟨ev, hq2⟩
  · subst ev hq2
    refine dq_jn (fun v => v = 0) (fun v hv => dq_lt ?_) (fun f hf => dq_jn (fun _ => True) (fun _ _ => hf _ rfl) (fun g hg => dq_ift rfl (hg _ trivial)))
    subst hv
    refine dq_jn (fun v => v = 0) (fun v hv => dq_lt ?_) (fun f hf => dq_ift rfl (hf _ rfl))
    subst hv
    refine dq_jn (fun Y' => Y' = Y2) (fun Y' hY => ?_) (fun f hf => dq_ift rfl (hf _ rfl))
    subst hY
    refine dq_ck ⟨by omega, by omega⟩ (dq_qturn1 J2 (by omega) (dq_clueOf_n8 (by omega)) ?_)
    refine dq_jn (fun v => v = (-2000000097 : Int32)) (fun v hv => ?_) (fun f hf => dq_ift rfl (dq_ift rfl (hf _ rfl)))
    subst hv
    refine dq_jn (fun v => v = 1) (fun v hv => ?_) (fun f hf => dq_iff (fun z => z rfl) (hf _ rfl))
    subst hv
    exact dq_lt (hJ 0 Y' (dq_MC_stay M2))
  · subst ev
    obtain ⟨k1, k2, k3⟩ := I.2.2.2.2.1.2 q hq2
    have hp : Int32.toNatClampNeg (Int32.ofNat q) = q := pu_n (by omega)
    by_cases hy : -3 ≤ y.toInt ∧ y.toInt ≤ 3
    · refine dq_jn (fun v => v = 1) (fun v hv => dq_lt ?_) (fun f hf => dq_jn (fun _ => False) (fun _ z => z.elim) (fun g _ => dq_iff (by decide) (dq_ck ⟨by omega, by omega⟩ (dq_iff (fun z => h9.mp z hy) (hf _ rfl)))))
      subst hv
      refine dq_jn (fun v => v = R 0 (816 + 5 * q + 4)) (fun v hv => dq_lt ?_) (fun f hf => dq_iff (by decide) (dq_ck I.1 (dq_nn r5 (dq_ck (dq_A1_ok bl hq2 (by omega)) (dq_nn (by rw [hp]; exact k1) (dq_ck (dq_A1_ok (m := 4) k2 (by omega) (by omega)) (hf _ (k3 4 (by omega)))))))))
      subst hv
      refine dq_jn (fun Y' => Y' = dw_pi Y2 (K 0 (10 + q)) 4 y) (fun Y' hY => ?_) (fun f hf => dq_iff (by decide) (dq_ck I.1 (dq_nn r5 (dq_ck (dq_A1_ok bl hq2 (by omega)) (dq_nn (by rw [hp]; exact k1) (dq_ck (dq_A1_ok (m := 4) k2 (by omega) (by omega)) (dq_lt (hf _ rfl))))))))
      obtain ⟨I3, F3⟩ := dq_turned (x := y) W I hq2
      rw [← hY] at I3 F3
      have es : dw_s Y' = dw_s Y2 := F3.1
      refine dq_ck ⟨by omega, by omega⟩ (dq_qturn (by rw [es]; exact J2) (by omega) (dq_clueOf_s hq2 (by omega)) hy (fun s1 J' => ?_))
      refine dq_jn (fun v => v = R 0 (816 + 5 * q + 4)) (fun v hv => ?_) (fun f hf => dq_iff (by decide) (hf _ rfl))
      subst hv
      refine dq_jn (fun v => v = 1) (fun v hv => ?_) (fun f hf => dq_iff (fun z => z rfl) (hf _ rfl))
      subst hv
      have F4 : dq_stpI th (K 0) nb nc Y2 (dw_cs (dw_cs Y' s1) (dw_s Y2)) := ⟨rfl, F3.2.1, F3.2.2.1, F3.2.2.2.1, F3.2.2.2.2⟩
      exact dq_lt (hJ 1 (dw_cs Y' s1) (dq_MC_chg M2 F4 I3 (pu_turn_ag (by omega)) J'))
    · refine dq_jn (fun v => v = 0) (fun v hv => dq_lt ?_) (fun f hf => dq_jn (fun _ => True) (fun _ _ => hf _ rfl) (fun g hg => dq_iff (by decide) (dq_ck ⟨by omega, by omega⟩ (dq_ift (h9.mpr hy) (hg _ trivial)))))
      subst hv
      refine dq_jn (fun _ => True) (fun v _ => dq_lt ?_) (fun f hf => dq_iff (by decide) (dq_ck I.1 (dq_nn r5 (dq_ck (dq_A1_ok bl hq2 (by omega)) (dq_nn (by rw [hp]; exact k1) (dq_ck (dq_A1_ok (m := 4) k2 (by omega) (by omega)) (hf _ trivial)))))))
      refine dq_jn (fun Y' => Y' = Y2) (fun Y' hY => ?_) (fun f hf => dq_ift rfl (hf _ rfl))
      subst hY
      refine dq_ck ⟨by omega, by omega⟩ (dq_qturn2 J2 (by omega) (dq_clueOf_s hq2 (by omega)) hy ?_)
      refine dq_jn (fun v => v = (-2000000098 : Int32)) (fun v hv => ?_) (fun f hf => dq_ift rfl (dq_iff (by decide) (hf _ rfl)))
      subst hv
      refine dq_jn (fun v => v = 1) (fun v hv => ?_) (fun f hf => dq_iff (fun z => z rfl) (hf _ rfl))
      subst hv
      exact dq_lt (hJ 0 Y' (dq_MC_stay M2))
end DQMT
