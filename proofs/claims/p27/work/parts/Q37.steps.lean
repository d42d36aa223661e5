/-! a statement that is read keeps the row good -/
section DQA2
variable {T P : List Nat} {A A' : Nat → Int32} {w h q m : Nat} {ms : List Nat} {ls : List dq_Lg}
theorem dq_AW_step (W : pu_AW A w h) (hB : ∀ i, (T ++ P).getD i 0 < 256) (hs : ∀ B L, (∀ i, i < L → B i < 256) → dq_at B T.length P → T.length + P.length ≤ L → (T.length + P.length < L → B (T.length + P.length) ≠ 32) → pu_stm B L w h T.length A = (none, T.length + P.length, A')) : pu_AW A' w h := by
  have a0 : dq_at (fun i => (T ++ P).getD i 0) 0 (T ++ P) := fun i _ => by
    show (T ++ P).getD (0 + i) 0 = _
    rw [Nat.zero_add]
  have a1 := dq_at_r a0
  rw [Nat.zero_add] at a1
  have e := hs (fun i => (T ++ P).getD i 0) (T.length + P.length) (fun i _ => hB i) a1 (Nat.le_refl _) (fun z => absurd z (Nat.lt_irrefl _))
  have k := pu_stm_AW (B := fun i => (T ++ P).getD i 0) (L := T.length + P.length) (p := T.length) (fun i _ => hB i) W (by rw [e])
  rw [e] at k
  exact k
theorem dq_clT_f : 7 ≤ (dq_clT m ms ls).length ∧ (dq_clT m ms ls).getD 0 0 = 99 := by
  have l22 : (dq_wd 22).length = 5 := by decide +kernel
  refine ⟨?_, ?_⟩
  · unfold dq_clT
    rw [List.length_append, List.length_append, List.length_append, List.length_append, l22]
    show 7 ≤ 5 + (1 + (_ + (_ + 1)))
    omega
  · unfold dq_clT
    rw [dq_getD_app, if_pos (by omega)]
    decide +kernel
theorem dq_PR_clue (H : dq_PR T w h A) (W : pu_AW A w h) (hB : ∀ i, (T ++ dq_clT m ms ls).getD i 0 < 256) (h3 : pu_v A 3 = q) (hq : q < 4) (hst : dq_stOK q (m :: ms) A) (hlg : dq_lgOK q ls (dq_aZs q ms (dq_aZ A q m))) (hms : ms.length < 600) (hls : ls.length ≤ 3) : dq_PR (T ++ dq_clT m ms ls) w h (dq_clA q m ms ls A) ∧ pu_AW (dq_clA q m ms ls A) w h := by
  obtain ⟨c1, c2⟩ := dq_clT_f (m := m) (ms := ms) (ls := ls)
  have hs : ∀ B L, (∀ i, i < L → B i < 256) → dq_at B T.length (dq_clT m ms ls) → T.length + (dq_clT m ms ls).length ≤ L → (T.length + (dq_clT m ms ls).length < L → B (T.length + (dq_clT m ms ls).length) ≠ 32) → pu_stm B L w h T.length A = (none, T.length + (dq_clT m ms ls).length, dq_clA q m ms ls A) := fun B L _ hat hL hn => dq_rdClue hat hL hn h3 hq hst hlg hms (by omega)
  exact ⟨dq_PR_step H (by omega) (by rw [c2]; decide) hs, dq_AW_step W hB hs⟩
end DQA2
