/-! the law's statements, one after the other -/
section DQA3
variable {T P : List Nat} {A A' : Nat → Int32} {w h q m l : Nat} {D : Nat → Nat}
theorem dq_PRA (H : dq_PR T w h A) (W : pu_AW A w h) (hB : ∀ i, (T ++ P).getD i 0 < 256) (hP : P.length = l) (h0 : 0 < l) (h32 : P.getD 0 0 ≠ 32) (hs : ∀ B L, dq_at B T.length P → T.length + l ≤ L → (T.length + l < L → B (T.length + l) ≠ 32) → pu_stm B L w h T.length A = (none, T.length + l, A')) : dq_PR (T ++ P) w h A' ∧ pu_AW A' w h := by
  subst hP
  exact ⟨dq_PR_step H h0 h32 (fun B L _ => hs B L), dq_AW_step W hB (fun B L _ => hs B L)⟩
theorem dq_nl (x : Nat) (R : List Nat) {k l : Nat} (hx : (dq_wd x).length = k) (hl : R.length = l) : (dq_wd x ++ R).length = k + l := by rw [List.length_append, hx, hl]
theorem dq_n59 {k : Nat} : (dq_nums D k ++ [59]).length = 2 * k + 1 := by rw [List.length_append, dq_nums_len]; rfl
theorem dq_hd0' (x : Nat) (R : List Nat) (hx : 0 < (dq_wd x).length) : (dq_wd x ++ R).getD 0 0 = (dq_wd x).getD 0 0 := by rw [dq_getD_app, if_pos hx]
theorem dq_PR_map (h0 : 1 ≤ D 0 ∧ D 0 < 10) (h1 : 1 ≤ D 1 ∧ D 1 < 10) : dq_PR (dq_wd 5 ++ (dq_nums D 2 ++ [59])) (D 0) (D 1) (pu_A0 (D 0) (D 1)) := fun B L hB hat hL hn => by
  have hl : (dq_wd 5 ++ (dq_nums D 2 ++ [59])).length = 9 := dq_nl 5 _ (k := 4) (by decide +kernel) dq_n59
  rw [hl] at hL hn
  obtain ⟨e1, e2, e3⟩ := dq_rdMap hat hL hn h0 h1
  exact ⟨0, Nat.zero_le _, e2, e3, fun g => by rw [e1, hl, Nat.zero_add]⟩
theorem dq_PR_water (H : dq_PR T w h A) (W : pu_AW A w h) (hB : ∀ i, (T ++ (dq_wd 0 ++ (dq_nums D 4 ++ [59]))).getD i 0 < 256) (h2 : D 2 = D 0) (h3 : D 3 = D 1) (hx : D 0 < w) (hy : D 1 < h) (hd : D 0 < 10 ∧ D 1 < 10) (hon : ¬ pu_onA A w (D 0) (D 1) (D 0) (D 1)) (hl : ∃ c, c < w * h ∧ pu_land (pu_aW A w h (D 0) (D 1) (D 0) (D 1)) c = true) : dq_PR (T ++ (dq_wd 0 ++ (dq_nums D 4 ++ [59]))) w h (pu_aW A w h (D 0) (D 1) (D 0) (D 1)) ∧ pu_AW (pu_aW A w h (D 0) (D 1) (D 0) (D 1)) w h :=
  dq_PRA H W hB (l := 14) (dq_nl 0 _ (k := 5) (by decide +kernel) dq_n59) (by omega) (by rw [dq_hd0' 0 _ (by decide +kernel)]; decide +kernel) (fun _ _ hat hL hn => dq_rdWater hat hL hn h2 h3 hx hy hd hon hl)
theorem dq_PR_team (H : dq_PR T w h A) (W : pu_AW A w h) (hB : ∀ i, (T ++ (dq_wd 3 ++ (dq_nums D 2 ++ [59]))).getD i 0 < 256) (hx : D 0 < w) (hy : D 1 < h) (hd : D 0 < 10 ∧ D 1 < 10) (h4 : A 4 = -1) (hl : pu_land A (D 1 * w + D 0) = true) : dq_PR (T ++ (dq_wd 3 ++ (dq_nums D 2 ++ [59]))) w h (upd A 4 (Int32.ofNat (D 1 * w + D 0))) ∧ pu_AW (upd A 4 (Int32.ofNat (D 1 * w + D 0))) w h :=
  dq_PRA H W hB (l := 9) (dq_nl 3 _ (k := 4) (by decide +kernel) dq_n59) (by omega) (by rw [dq_hd0' 3 _ (by decide +kernel)]; decide +kernel) (fun _ _ hat hL hn => dq_rdTeam hat hL hn hx hy hd h4 hl)
theorem dq_PR_mark (hm : m < 8) (H : dq_PR T w h A) (W : pu_AW A w h) (hB : ∀ i, (T ++ (dq_wd 32 ++ ([97 + m] ++ (dq_nums D 2 ++ [59])))).getD i 0 < 256) (hx : D 0 < w) (hy : D 1 < h) (hd : D 0 < 10 ∧ D 1 < 10) (h8 : A (808 + m) = -1) (hl : pu_land A (D 1 * w + D 0) = true) : dq_PR (T ++ (dq_wd 32 ++ ([97 + m] ++ (dq_nums D 2 ++ [59])))) w h (upd A (808 + m) (Int32.ofNat (D 1 * w + D 0))) ∧ pu_AW (upd A (808 + m) (Int32.ofNat (D 1 * w + D 0))) w h :=
  dq_PRA H W hB (l := 11) (dq_nl 32 _ (k := 5) (l := 6) (by decide +kernel) (by rw [List.length_append, dq_n59]; rfl)) (by omega) (by rw [dq_hd0' 32 _ (by decide +kernel)]; decide +kernel) (fun _ _ hat hL hn => dq_rdMark hm hat hL hn hx hy hd h8 hl)
end DQA3
