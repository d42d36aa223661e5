/-! the law's text, read token by token -/
section DQK2
variable {B : Nat → Nat} {L p s k c x : Nat} {W P R : List Nat}
/-- the bytes of P stand at p -/
def dq_at (B : Nat → Nat) (p : Nat) (P : List Nat) : Prop := ∀ i, i < P.length → B (p + i) = P.getD i 0
theorem dq_at_l (h : dq_at B p (P ++ R)) : dq_at B p P := fun i hi => by
  rw [h i (by rw [List.length_append]; omega), dq_getD_app, if_pos hi]
theorem dq_at_r (h : dq_at B p (P ++ R)) : dq_at B (p + P.length) R := fun i hi => by
  have := h (P.length + i) (by rw [List.length_append]; omega)
  rw [dq_getD_app, if_neg (by omega), show P.length + i - P.length = i by omega] at this
  rw [← this]
  congr 1
  omega
theorem dq_at_app (h1 : dq_at B p P) (h2 : dq_at B (p + P.length) R) : dq_at B p (P ++ R) := fun i hi => by
  rw [dq_getD_app]
  by_cases e : i < P.length
  · rw [if_pos e]; exact h1 i e
  · rw [if_neg e]
    rw [List.length_append] at hi
    have := h2 (i - P.length) (by omega)
    rw [← this]
    congr 1
    omega
/-- a token of letters or digits ends where another kind begins -/
theorem dq_te (hW : 0 < W.length) (h : dq_at B p W) (hL : p + W.length < L) (hk : ∀ i, i < W.length → pu_kdb (W.getD i 0) = k) (hk3 : k ≠ 3) (hc : pu_kdb (B (p + W.length)) ≠ k) : pu_tk B L p = k ∧ pu_te B L p = p + W.length := by
  have htk : pu_tk B L p = k := by
    unfold pu_tk
    rw [if_pos (by omega), ← hk 0 hW, ← h 0 hW]
    rfl
  refine ⟨htk, ?_⟩
  obtain ⟨r1, r2, r3, r4, r5⟩ := pu_te_rng (B := B) (L := L) (s := p) (by omega)
  rw [htk] at r4 r5
  have r6 := r5 hk3
  by_cases e1 : pu_te B L p < p + W.length
  · refine absurd ⟨by omega, ?_⟩ r6
    have := h (pu_te B L p - p) (by omega)
    rw [show p + (pu_te B L p - p) = pu_te B L p by omega] at this
    rw [this]
    exact hk _ (by omega)
  · by_cases e2 : p + W.length < pu_te B L p
    · exact absurd (r4 (p + W.length) (by omega) e2) hc
    · omega
theorem dq_sk0 (h : s < L → B s ≠ 32) : pu_sk B L s = s := pu_sk_n (fun z => h z.1 z.2)
theorem dq_sk1 (h1 : s < L) (h2 : B s = 32) (h3 : s + 1 < L → B (s + 1) ≠ 32) : pu_sk B L s = s + 1 := by
  rw [pu_sk_y ⟨h1, h2⟩]
  exact dq_sk0 h3
/-- a token and where the next one begins -/
def dq_tok (B : Nat → Nat) (L p k : Nat) (W : List Nat) (p' : Nat) : Prop := dq_at B p W ∧ 0 < W.length ∧ p + W.length < L ∧ pu_tk B L p = k ∧ pu_te B L p = p + W.length ∧ pu_nx B L p = p'
theorem dq_tok_s (hW : 0 < W.length) (h : dq_at B p W) (hL : p + W.length + 1 < L) (hk : ∀ i, i < W.length → pu_kdb (W.getD i 0) = k) (hk3 : k ≠ 3) (hc : B (p + W.length) = 32) (hd : B (p + W.length + 1) ≠ 32) : dq_tok B L p k W (p + W.length + 1) := by
  obtain ⟨t1, t2⟩ := dq_te (L := L) hW h (by omega) hk hk3 (by rw [hc]; exact fun e => hk3 (by rw [← e]; rfl))
  refine ⟨h, hW, by omega, t1, t2, ?_⟩
  unfold pu_nx
  rw [t2]
  exact dq_sk1 (by omega) hc (fun _ => hd)
theorem dq_tok_n (hW : 0 < W.length) (h : dq_at B p W) (hL : p + W.length < L) (hk : ∀ i, i < W.length → pu_kdb (W.getD i 0) = k) (hk3 : k ≠ 3) (hc : pu_kdb (B (p + W.length)) ≠ k) (hd : B (p + W.length) ≠ 32) : dq_tok B L p k W (p + W.length) := by
  obtain ⟨t1, t2⟩ := dq_te (L := L) hW h hL hk hk3 hc
  refine ⟨h, hW, hL, t1, t2, ?_⟩
  unfold pu_nx
  rw [t2]
  exact dq_sk0 (fun _ => hd)
theorem dq_list_eq {A C : List Nat} (hl : A.length = C.length) (h : ∀ i, i < A.length → A.getD i 0 = C.getD i 0) : A = C := by
  apply List.ext_getElem hl
  intro i h1 h2
  have := h i h1
  rw [List.getD_eq_getElem?_getD, List.getD_eq_getElem?_getD, List.getElem?_eq_getElem h1, List.getElem?_eq_getElem h2] at this
  exact this
/-- whether a token is a word of the reader's -/
theorem dq_isW (t : dq_tok B L p 1 W s) (hx : x < 33) (hW : ∀ i, W.getD i 0 < 256) : pu_isW B L p x = decide (W = dq_wd x) := by
  obtain ⟨h, h0, hL, t1, t2, -⟩ := t
  obtain ⟨w1, w2, w3, w4⟩ := dq_wd_ok ⟨x, hx⟩
  dsimp only [] at w1 w2 w3 w4
  have wl : (dq_wd x).length = tw_len.getD x 0 := by unfold dq_wd; rw [List.length_map]; exact w1
  have key : pu_isW B L p x = true ↔ W = dq_wd x := by
    rw [pu_isW_iff, t1, t2, ← wl]
    constructor
    · rintro ⟨-, e1, e2⟩
      have el : W.length = (dq_wd x).length := by omega
      refine dq_list_eq el (fun i hi => ?_)
      have e3 := e2 i (by omega)
      rw [h i hi, w4 ⟨i, by omega⟩] at e3
      have hb := hW i
      have hb2 : (dq_wd x).getD i 0 < 128 := dq_wd_lt hx
      exact (pu_eq (by omega) (by omega)).mp e3
    · intro e
      subst e
      refine ⟨rfl, by omega, fun i hi => ?_⟩
      rw [h i hi]
      exact (w4 ⟨i, by omega⟩).symm
  by_cases e : W = dq_wd x
  · rw [key.mpr e, decide_eq_true e]
  · rw [decide_eq_false e]
    cases hp : pu_isW B L p x
    · rfl
    · exact absurd (key.mp hp) e
/-- a digit -/
theorem dq_dig {d : Nat} (hd : d < 10) (t : dq_tok B L p 2 [48 + d] s) : pu_tk B L p = 2 ∧ pu_num B L p = d := by
  obtain ⟨h, -, hL, t1, t2, -⟩ := t
  refine ⟨t1, ?_⟩
  unfold pu_num
  rw [t2]
  have hl : p + [48 + d].length - p = 1 := by show p + 1 - p = 1; omega
  rw [hl]
  show min 100000000 (10 * 0 + (B (p + 0) - 48)) = d
  rw [h 0 (by show 0 < 1; omega)]
  show min 100000000 (10 * 0 + (48 + d - 48)) = d
  omega
theorem dq_kdig {d : Nat} (hd : d < 10) : pu_kdb (48 + d) = 2 := pu_dig2 (by omega)
theorem dq_tok_ds {d : Nat} (hd : d < 10) (h0 : B p = 48 + d) (hL : p + 2 < L) (hc : B (p + 1) = 32) (hn : B (p + 2) ≠ 32) : dq_tok B L p 2 [48 + d] (p + 2) := by
  have hat : dq_at B p [48 + d] := fun i hi => by
    have hi : i < 1 := hi
    have e : i = 0 := by omega
    subst e
    exact h0
  exact dq_tok_s (by show 0 < 1; omega) hat hL (fun i hi => by
    have hi : i < 1 := hi
    have e : i = 0 := by omega
    subst e
    exact dq_kdig hd) (by decide) hc hn
theorem dq_tok_dn {d : Nat} (hd : d < 10) (h0 : B p = 48 + d) (hL : p + 1 < L) (hc : B (p + 1) = 59) : dq_tok B L p 2 [48 + d] (p + 1) := by
  have hat : dq_at B p [48 + d] := fun i hi => by
    have hi : i < 1 := hi
    have e : i = 0 := by omega
    subst e
    exact h0
  refine dq_tok_n (by show 0 < 1; omega) hat hL (fun i hi => by
    have hi : i < 1 := hi
    have e : i = 0 := by omega
    subst e
    exact dq_kdig hd) (by decide) ?_ ?_
  · show pu_kdb (B (p + 1)) ≠ 2
    rw [hc]; decide
  · show B (p + 1) ≠ 32
    rw [hc]; decide
theorem dq_semi (h0 : B p = 59) (hL : p < L) (hn : p + 1 < L → B (p + 1) ≠ 32) : pu_semi B L p = true ∧ pu_nx B L p = p + 1 := by
  refine ⟨decide_eq_true ⟨hL, h0⟩, ?_⟩
  unfold pu_nx pu_te
  have hk : pu_kdb (B p) = 3 := by rw [h0]; rfl
  rw [if_pos hL, if_pos hk]
  exact dq_sk0 hn
/-- a text of statements, read -/
def dq_PR (T : List Nat) (w h : Nat) (A : Nat → Int32) : Prop := ∀ B L, (∀ i, i < L → B i < 256) → dq_at B 0 T → T.length ≤ L → (T.length < L → B T.length ≠ 32) → ∃ f, f ≤ T.length ∧ pu_wN B L = w ∧ pu_hN B L = h ∧ ∀ g, pu_run B L w h (f + g) (pu_Xm B L) = pu_run B L w h g (none, T.length, A)
theorem dq_PR_step {T : List Nat} {w h : Nat} {A A' : Nat → Int32} (H : dq_PR T w h A) (hP : 0 < P.length) (h32 : P.getD 0 0 ≠ 32) (hs : ∀ B L, (∀ i, i < L → B i < 256) → dq_at B T.length P → T.length + P.length ≤ L → (T.length + P.length < L → B (T.length + P.length) ≠ 32) → pu_stm B L w h T.length A = (none, T.length + P.length, A')) : dq_PR (T ++ P) w h A' := by
  intro B L hB hat hL hn
  have hat2 := dq_at_r hat
  rw [Nat.zero_add] at hat2
  rw [List.length_append] at hL hn
  have h0 := hat2 0 hP
  rw [Nat.add_zero] at h0
  obtain ⟨f, f1, f2, f3, f4⟩ := H B L hB (dq_at_l hat) (by omega) (fun _ => by rw [h0]; exact h32)
  refine ⟨f + 1, by rw [List.length_append]; omega, f2, f3, fun g => ?_⟩
  rw [show f + 1 + g = f + (1 + g) by omega, f4, show 1 + g = g + 1 by omega, pu_run_s ⟨rfl, by show T.length < L; omega⟩]
  show pu_run B L w h g (pu_stm B L w h T.length A) = _
  rw [hs B L hB hat2 hL hn, List.length_append]
theorem dq_PR_end {T : List Nat} {w h : Nat} {A : Nat → Int32} (H : dq_PR T w h A) (hB : ∀ i, i < T.length → B i < 256) (hat : dq_at B 0 T) : pu_Xf B T.length = (none, T.length, A) ∧ pu_wN B T.length = w ∧ pu_hN B T.length = h := by
  obtain ⟨f, f1, f2, f3, f4⟩ := H B T.length hB hat (Nat.le_refl _) (fun z => absurd z (Nat.lt_irrefl _))
  refine ⟨?_, f2, f3⟩
  unfold pu_Xf
  rw [f2, f3, show T.length + 1 = f + (T.length + 1 - f) by omega, f4]
  exact pu_run_e (fun z => absurd z.2 (Nat.lt_irrefl _))
end DQK2
