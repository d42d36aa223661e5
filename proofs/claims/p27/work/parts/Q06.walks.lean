/-! walks, reasons, what is left: the law's island -/
section DQK
variable {a : Nat → Int32} {w h nb nc q l c b n : Nat} {Y Y0 : dw_S} {th : Nat} {ι : Nat → Nat}
/-- how many are true -/
theorem dq_many {r m : Nat} {p : Nat → Bool} {Q : Int32 → Prop} (A : dq_A1 Y r 21 m) (hp : ∀ i, i < m → dw_i Y r i = pu_b1 (p i)) (hm : m ≤ 400) (hn : 500 < n) (hQ : Q (Int32.ofNat (pu_sum p m))) : dw_P_X13_many n r Y Q := by
  dsimp only [dw_P_X13_many, pw_lt]
  refine dq_ck A.1 ?_
  rw [A.2]
  refine dq_for m (fun i v => v = (Int32.ofNat (pu_sum p i), Int32.ofNat i)) (fun k i v hi hv hk => ?_) (fun k v hv => ?_) (by omega) rfl
  · subst hv
    have hs := pu_sum_le (p := p) i
    dsimp only []
    rw [pu_n (by omega), hp i hi]
    refine dq_iff (by rw [pu_le (by omega) (by omega)]; omega) (dq_ck (dq_A1_okn A hi (by omega)) (dq_jn (fun v => v = Int32.ofNat (pu_sum p (i + 1))) (fun v hv => hk _ ?_) (fun j hj => dq_if (fun z => hj _ ?_) (fun z => hj _ ?_))))
    · rw [hv]
      exact congrArg _ (pu_add i 1)
    · rw [pu_sum_S, pu_b1_0.mp z]; rfl
    · rw [pu_sum_S, if_pos (pu_bF (fun e => z (pu_b1_0.mpr e)))]
      exact pu_add _ 1
  · subst hv
    exact dq_ift ((pu_le (by omega) (by omega)).mpr (Nat.le_refl _)) hQ
/-- the cells at which a try ended -/
def dq_WQ (a : Nat → Int32) (w h nb q L : Nat) (Y0 : dw_S) (th : Nat) (ι : Nat → Nat) (r : Int32 × dw_S) : Prop := r.1 = Int32.ofNat (pu_sum (fun d => pu_B (pu_Fw a w h nb q L d)) (w * h)) ∧ ∃ fo, dq_W Y0 th ι (w * h) fo r.2 ∧ ∀ d, d < w * h → (dq_fd r.2 fo d = true ↔ pu_Fw a w h nb q L d)
theorem dq_cnt_sum {p : Nat → Bool} : ∀ m, pu_cnt p m = pu_sum p m
  | 0 => rfl
  | m + 1 => by
    show pu_cnt p m + _ = pu_sum p m + _
    rw [dq_cnt_sum m]
set_option maxHeartbeats 1000000 in
theorem dq_walks (H : pu_WF a w h nb nc) (S : dq_sm a w h nc) (I : dq_I Y th ι a w h nb nc) (hq : q < nc) (hn : 500 < n) {L : Nat} (hL : L ≤ pu_nl a q) {Q : Int32 × dw_S → Prop} (hQ : ∀ r, dq_WQ a w h nb q L Y th ι r → Q r) : dw_P_X13_walks n th (Int32.ofNat q) (Int32.ofNat L) (-1 : Int32) Y Q := by
  have hm := H.1
  have hle := pu_wfm_le hm
  obtain ⟨S1, S2, S3⟩ := id S
  have S3 := S3 q hq
  have hcc := H.2.2.1.2.2 q hq
  obtain ⟨Is, ⟨f0, f1, -⟩, -⟩ := id I
  have h4 : 442 ≤ dw_n Y := by have := Is.1; have := Is.2.1; omega
  dsimp only [dw_P_X13_walks, pw_lt]
  rw [f0, f1, pu_mul, pu_n (by omega)]
  refine dq_ck Is (dq_ck Is (dq_ck ⟨⟨pu_nn (by omega), by omega⟩, by omega, by omega⟩ (fun fo hfo => ?_)))
  dsimp only []
  have hth : th ≠ fo := by have := Is.1; omega
  have W0 : dq_W Y th ι (w * h) fo (dw_pr (dw_nw Y fo 26 (w * h) (fun _ => 0) fun _ => none) th 11 (some fo)) := ⟨dq_fr_pr (dq_fr_nw dq_fr_refl hfo) (fun _ => ⟨rfl, rfl⟩), dq_r_pr_s, (dq_A1_new h4 hfo : dq_A1 (dw_nw Y fo 26 (w * h) (fun _ => 0) fun _ => none) fo 26 (w * h)), hfo, Is.1⟩
  have e0 : ∀ d, dq_fd (dw_pr (dw_nw Y fo 26 (w * h) (fun _ => 0) fun _ => none) th 11 (some fo)) fo d = false := by
    intro d
    unfold dq_fd
    rw [dq_r_pr_n (fun e => absurd e.symm hth), dw_nw_r]
    rfl
  generalize dw_pr (dw_nw Y fo 26 (w * h) (fun _ => 0) fun _ => none) th 11 (some fo) = Y3 at W0 e0
  have I3 := dq_I_use W0.1 I
  obtain ⟨Is3, -, ⟨-, -, -, -, r43, -⟩, -, -, ⟨C13, C23⟩, -⟩ := id I3
  refine dq_ck (dq_is_nw Is hfo) (dq_ck Is3 (dq_nn r43 (dq_ck (dq_A1_ok C13 hq (by omega)) (dq_nn (by rw [pu_n (by omega)]; exact (C23 q hq).1.1) ?_))))
  generalize hsl : dw_sl 4 = sl
  have hsl' : sl = 1404 := by rw [← hsl]; rfl
  refine dq_for (pu_ns a q) (fun i v => v.1 = Int32.ofNat i ∧ dq_W Y th ι (w * h) fo v.2.1 ∧ v.2.2.1 ≤ 1 + pu_cnt (dq_fd v.2.1 fo) (w * h) ∧ v.2.2.2 ≤ w * h + i * sl ∧ ∀ d, d < w * h → (dq_fd v.2.1 fo d = true ↔ ∃ k, k < i ∧ dq_R a w h nb q L 0 (pu_sc a q k) d)) (fun kk i v hi hv hkk => ?_) (fun kk v hv => ?_) (by omega) ⟨rfl, W0, by dsimp only []; omega, by dsimp only []; omega, fun d hd => ⟨fun z => (by rw [e0] at z; cases z), fun ⟨k, y, _⟩ => (by omega)⟩⟩
  all_goals
    obtain ⟨v1, Yv, cc, ss⟩ := v
    obtain ⟨hv1, Wv, hcs, hss, hrel⟩ := hv
    dsimp only [] at hv1 Wv hcs hss hrel
    dsimp only []
    subst hv1
    obtain ⟨Isv, -, ⟨-, -, rmv, -, -, r5v⟩, ⟨-, -, M1v, M2v⟩, -, ⟨-, C2v⟩, ⟨N1v, N2v⟩⟩ := dq_I_use Wv.1 I
    obtain ⟨⟨-, d2, -, d4, -⟩, ⟨d6, d7⟩, -, -⟩ := C2v q hq
    have hcnv := pu_cnt_le (dq_fd Yv fo) (w * h)
  · obtain ⟨s1, s2⟩ := hcc.2.2.2.1 i hi
    have hmv : dw_i Yv (ι (30 + q)) i = Int32.ofNat (pu_v a (pu_cl q + 3 + i)) := (d7 i hi).trans s1.1
    have hmv2 : dw_i Yv (ι 2) (pu_v a (pu_cl q + 3 + i)) = Int32.ofNat (pu_sc a q i) := (M2v _ s1.2).trans s2.1
    have hsc : pu_sc a q i < w * h := s2.2
    have hv8 : pu_v a (pu_cl q + 3 + i) < 8 := s1.2
    refine dq_ck d2 (dq_nn d4 (dq_ck d6.1 ?_))
    rw [d6.2]
    refine dq_iff (by rw [pu_le (by omega) (by omega)]; omega) (dq_ck Isv (dq_nn r5v (dq_ck (dq_A1_ok (m := 0) N1v (by omega) (by decide)) ?_)))
    rw [pu_c0]
    have Wn : dq_W Y th ι (w * h) fo (dw_pi Yv (ι 5) 0 (Int32.ofNat i)) := dq_W_now Wv
    have hi30 : dw_i (dw_pi Yv (ι 5) 0 (Int32.ofNat i)) (ι (30 + q)) i = Int32.ofNat (pu_v a (pu_cl q + 3 + i)) := by
      rw [dq_i_pi_n (fun e => absurd e.symm (N2v.2.2.1 q hq))]; exact hmv
    have hi2 : dw_i (dw_pi Yv (ι 5) 0 (Int32.ofNat i)) (ι 2) (pu_v a (pu_cl q + 3 + i)) = Int32.ofNat (pu_sc a q i) := by
      rw [dq_i_pi_n (fun e => absurd e.symm N2v.1)]; exact hmv2
    refine dq_jn (fun v => dq_W Y th ι (w * h) fo v.1 ∧ v.2.1 ≤ 1 + pu_cnt (dq_fd v.1 fo) (w * h) ∧ v.2.2 ≤ w * h + (i + 1) * sl ∧ ∀ d, d < w * h → (dq_fd v.1 fo d = true ↔ ∃ k, k < i + 1 ∧ dq_R a w h nb q L 0 (pu_sc a q k) d)) (fun v hv => hkk _ ⟨pu_add i 1, hv⟩) (fun j hj => ?_)
    refine dq_jn (fun _ => True) (fun _ _ => ?_) (fun j2 hj2 => dq_ift (by decide) (hj2 () trivial))
    refine dq_ck Isv (dq_nn rmv (dq_ck d2 (dq_nn d4 (dq_ck (dq_A1_ok d6 hi (by omega)) (dq_ck ?_ (dq_ck ⟨Isv, by omega, ?_⟩ ?_))))))
    · rw [pu_n (by omega), hi30]
      exact dq_A1_ok M1v hv8 (by decide)
    · have : i * sl ≤ 1 * sl := Nat.mul_le_mul_right _ (by omega)
      omega
    · rw [pu_n (by omega), hi30, pu_n (by omega), hi2]
      have T := dq_tries (n := n) H S I hq (by omega) (fo := fo) L 3 0 (pu_sc a q i) (31 - cc) (dw_pi Yv (ι 5) 0 (Int32.ofNat i))
      rw [show 0 + L = L by omega] at T
      refine T _ (by omega) hL hsc Wn (by show w * h ≤ 31 - cc + pu_cnt (dq_fd Yv fo) (w * h); omega) (fun r hr => hj _ ?_)
      obtain ⟨p1, p2, p3⟩ := hr
      have p2 : r.1 + pu_cnt (dq_fd Yv fo) (w * h) ≤ pu_cnt (dq_fd r.2 fo) (w * h) := p2
      refine ⟨p1, by dsimp only []; omega, by dsimp only []; rw [Nat.succ_mul]; omega, fun d hd => ?_⟩
      dsimp only []
      rw [p3 d hd]
      have hrd : dq_fd (dw_pi Yv (ι 5) 0 (Int32.ofNat i)) fo d = true ↔ _ := hrel d hd
      rw [hrd]
      constructor
      · rintro (⟨k, y1, y2⟩ | z)
        · exact ⟨k, by omega, y2⟩
        · exact ⟨i, by omega, z⟩
      · rintro ⟨k, y1, y2⟩
        by_cases e : k = i
        · rw [e] at y2; exact Or.inr y2
        · exact Or.inl ⟨k, by omega, y2⟩
  · refine dq_ck d2 (dq_nn d4 (dq_ck d6.1 ?_))
    rw [d6.2]
    have hrel' : ∀ d, d < w * h → (dq_fd Yv fo d = true ↔ pu_Fw a w h nb q L d) := by
      intro d hd
      rw [hrel d hd]
      have key := dq_R_Fw (a := a) (w := w) (h := h) (nb := nb) (q := q) L 0 d
      rw [Nat.zero_add] at key
      constructor
      · rintro ⟨k, y1, y2⟩
        exact (key.mp ⟨pu_sc a q k, (hcc.2.2.2.1 k y1).2.2, ⟨k, y1, rfl⟩, y2⟩).2
      · intro z
        obtain ⟨x, x1, ⟨k, x2, x3⟩, x4⟩ := key.mpr ⟨hd, z⟩
        subst x3
        exact ⟨k, x2, x4⟩
    refine dq_ift ((pu_le (by omega) (by omega)).mpr (Nat.le_refl _)) (dq_ck Isv (dq_nn Wv.2.1 (dq_ck Wv.2.2.1.1 ?_)))
    rw [Wv.2.2.1.2]
    have hss2 : pu_ns a q * sl ≤ 2 * sl := Nat.mul_le_mul_right _ S3.1
    refine dq_for (w * h) (fun i v => v = (Int32.ofNat (pu_sum (fun d => pu_B (pu_Fw a w h nb q L d)) i), Int32.ofNat i, Yv, cc, ss)) (fun k i v hi hv hk => ?_) (fun k v hv => ?_) (by omega) rfl
    · subst hv
      dsimp only []
      rw [pu_n (by omega)]
      refine dq_iff (by rw [pu_le (by omega) (by omega)]; omega) (dq_ck (dq_A1_ok Wv.2.2.1 hi (by omega)) (dq_jn (fun v => v = Int32.ofNat (pu_sum (fun d => pu_B (pu_Fw a w h nb q L d)) (i + 1))) (fun v hv => hk _ ?_) (fun j hj => dq_mt (fun e => hj _ ?_) (fun x e => hj _ ?_))))
      · rw [hv]
        exact congrArg (fun z => (_, z, _)) (pu_add i 1)
      · have : ¬ pu_Fw a w h nb q L i := fun z => by
          have := (hrel' i hi).mpr z
          unfold dq_fd at this
          rw [e] at this
          cases this
        rw [pu_sum_S, pu_B_f this]; rfl
      · have : pu_Fw a w h nb q L i := (hrel' i hi).mp (by unfold dq_fd; rw [e]; rfl)
        rw [pu_sum_S, pu_B_t this]
        exact pu_add _ 1
    · subst hv
      dsimp only []
      exact dq_ift ((pu_le (by omega) (by omega)).mpr (Nat.le_refl _)) (dq_ck ⟨by omega, by omega⟩ (hQ _ ⟨rfl, fo, Wv, hrel'⟩))
end DQK
